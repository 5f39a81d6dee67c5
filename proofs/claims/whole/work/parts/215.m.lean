abbrev rm_X11_own : Room := { frames := 4, cells := 0, slots := 0, locals := 100 }
set_option maxRecDepth 100000 in
def wp_X11_own (o : Nat) (x1 : Int32) (x2 : Int32) (x3 : Int32) (x4 : Int32) (x5 : Int32) (h : Hp) (Q : Int32 → Hp → Prop) : Prop := ((hpK h o).1 = 20 + 9) ∧ (wp_X11_lookerAt o x1 h (fun (z3 : Option Nat) (h2 : Hp) => ((hpK h2 o).1 = 20 + 9) ∧ (wp_X11_ballAt o x2 h2 (fun (z6 : Option Nat) (h5 : Hp) => ((hpK h5 o).1 = 20 + 9) ∧ (wp_X11_ballAt o x3 h5 (fun (z9 : Option Nat) (h8 : Hp) => ((hpK h8 o).1 = 20 + 9) ∧ (wp_X11_ballAt o x4 h8 (fun (z12 : Option Nat) (h11 : Hp) => (if z3 = none then (Q (0 : Int32) h11) else ((if z6 = none then (Q (0 : Int32) h11) else ((if z9 = none then (Q (0 : Int32) h11) else ((if z12 = none then (Q (0 : Int32) h11) else ((if x5 < 0 then (Q (0 : Int32) h11) else ((if x5 ≤ (1 : Int32) then (okO h11 z3 2 ∧ (wp_X3_runsUnderBest (ad z3) z6 z9 h11 (fun (z21 : Int32) (h20 : Hp) => okO h20 z3 2 ∧ (wp_X3_runsUnderBest (ad z3) z6 z12 h20 (fun (z24 : Int32) (h23 : Hp) => (if x5 = 0 then (Q (z21 &&& (z24 ^^^ (-1 : Int32))) h23) else (Q (z21 &&& z24) h23))))))) else (Q (0 : Int32) h11))))))))))))))))))))
set_option maxHeartbeats 4000000 in
set_option maxRecDepth 100000 in
theorem c_X11_own (l : Launch) (G : GG) (base : Nat) (A : Nat → Nat) (o : Nat) (x1 : Int32) (x2 : Int32) (x3 : Int32) (x4 : Int32) (x5 : Int32) (h : Hp) (Q : Int32 → Hp → Prop) (hw : wp_X11_own o x1 x2 x3 x4 x5 h Q) : Met l yX11_own (ww yX11_own cX11_own 12 (some .int)) rm_X11_own (va_Pc [.ref (A o), .int x1, .int x2, .int x3, .int x4, .int x5] (PU2 G base A h A h)) (va_Qi Q (PU2 G base A h A) (fun q => base ≤ q)) 0 0 (fun q => base ≤ q) := by
  refine met2_of (own := RX11) (nm := "own") (by decide) rfl rfl (List.forall_mem_cons.mpr ⟨rfl, (List.forall_mem_cons.mpr ⟨rfl, (List.forall_mem_cons.mpr ⟨rfl, (List.forall_mem_cons.mpr ⟨rfl, (List.forall_mem_cons.mpr ⟨rfl, (List.forall_mem_cons.mpr ⟨rfl, (fun _ h => absurd h List.not_mem_nil)⟩)⟩)⟩)⟩)⟩)⟩) (Nat.le_of_ble_eq_true rfl) rfl ?_
  intro p e s m args below meth c H locs ls hM hC hl
  obtain ⟨hx, hb, hr, hml, hown, hts, hg, hs, hlk, hnm⟩ := id hM
  unfold wp_X11_own at hw
  refine lv_aload_n hx hb dX11_own_0 rfl (lo_at hl 0 rfl) ?_
  refine lv_iload_n hx hb dX11_own_1 rfl (lo_at hl 1 rfl) ?_
  obtain ⟨k1, hw⟩ := hw
  refine res2_q hC (run2_V (As := [.int x1]) (rest := []) hM hC hl.1.1 kv_RX11_144 (c_X11_lookerAt l G base A o x1 h _ hw) (hc_9) k1 rfl rfl rfl ⟨Nat.le_of_ble_eq_true rfl, Nat.le_of_ble_eq_true rfl⟩ (Nat.le_of_ble_eq_true rfl) ⟨Nat.le_of_ble_eq_true rfl, Nat.le_of_ble_eq_true rfl⟩ dX11_own_2) (fun z3 h2 H locs hw hC => ?_)
  refine lo_astore (r := Option.map A z3) (lv' := [(6, va_rf (Option.map A z3)), (0, .ref (A o)), (1, .int x1), (2, .int x2), (3, .int x3), (4, .int x4), (5, .int x5)]) hx hb dX11_own_5 hl (by decide) rfl (fun ls hl => ?_)
  refine lv_aload_n hx hb dX11_own_7 rfl (lo_at hl 1 rfl) ?_
  refine lv_iload_n hx hb dX11_own_8 rfl (lo_at hl 3 rfl) ?_
  obtain ⟨k4, hw⟩ := hw
  refine res2_q hC (run2_V (As := [.int x2]) (rest := []) hM hC hl.1.1 kv_RX11_140 (c_X11_ballAt l G base A o x2 h2 _ hw) (hc_9) k4 rfl rfl rfl ⟨Nat.le_of_ble_eq_true rfl, Nat.le_of_ble_eq_true rfl⟩ (Nat.le_of_ble_eq_true rfl) ⟨Nat.le_of_ble_eq_true rfl, Nat.le_of_ble_eq_true rfl⟩ dX11_own_9) (fun z6 h5 H locs hw hC => ?_)
  refine lo_astore (r := Option.map A z6) (lv' := [(7, va_rf (Option.map A z6)), (6, va_rf (Option.map A z3)), (0, .ref (A o)), (1, .int x1), (2, .int x2), (3, .int x3), (4, .int x4), (5, .int x5)]) hx hb dX11_own_12 hl (by decide) rfl (fun ls hl => ?_)
  refine lv_aload_n hx hb dX11_own_14 rfl (lo_at hl 2 rfl) ?_
  refine lv_iload_n hx hb dX11_own_15 rfl (lo_at hl 5 rfl) ?_
  obtain ⟨k7, hw⟩ := hw
  refine res2_q hC (run2_V (As := [.int x3]) (rest := []) hM hC hl.1.1 kv_RX11_140 (c_X11_ballAt l G base A o x3 h5 _ hw) (hc_9) k7 rfl rfl rfl ⟨Nat.le_of_ble_eq_true rfl, Nat.le_of_ble_eq_true rfl⟩ (Nat.le_of_ble_eq_true rfl) ⟨Nat.le_of_ble_eq_true rfl, Nat.le_of_ble_eq_true rfl⟩ dX11_own_16) (fun z9 h8 H locs hw hC => ?_)
  refine lo_astore (r := Option.map A z9) (lv' := [(8, va_rf (Option.map A z9)), (7, va_rf (Option.map A z6)), (6, va_rf (Option.map A z3)), (0, .ref (A o)), (1, .int x1), (2, .int x2), (3, .int x3), (4, .int x4), (5, .int x5)]) hx hb dX11_own_19 hl (by decide) rfl (fun ls hl => ?_)
  refine lv_aload_n hx hb dX11_own_21 rfl (lo_at hl 3 rfl) ?_
  refine lv_iload hx hb dX11_own_22 (lo_at hl 7 rfl) ?_
  obtain ⟨k10, hw⟩ := hw
  refine res2_q hC (run2_V (As := [.int x4]) (rest := []) hM hC hl.1.1 kv_RX11_140 (c_X11_ballAt l G base A o x4 h8 _ hw) (hc_9) k10 rfl rfl rfl ⟨Nat.le_of_ble_eq_true rfl, Nat.le_of_ble_eq_true rfl⟩ (Nat.le_of_ble_eq_true rfl) ⟨Nat.le_of_ble_eq_true rfl, Nat.le_of_ble_eq_true rfl⟩ dX11_own_24) (fun z12 h11 H locs hw hC => ?_)
  refine lo_astore (r := Option.map A z12) (lv' := [(9, va_rf (Option.map A z12)), (8, va_rf (Option.map A z9)), (7, va_rf (Option.map A z6)), (6, va_rf (Option.map A z3)), (0, .ref (A o)), (1, .int x1), (2, .int x2), (3, .int x3), (4, .int x4), (5, .int x5)]) hx hb dX11_own_27 hl (by decide) rfl (fun ls hl => ?_)
  refine lo_aload (r := Option.map A z3) hx hb dX11_own_29 (lo_at hl 3 rfl) ?_
  refine s_ifnull (r := z3) (A := A) (tgt := 60) hx hb dX11_own_31 (by decide) (fun c13 => ?_) (fun c13 => ?_)
  ·
    replace hw := (if_pos c13).mp hw
    refine lv_iconst (v := 0) hx hb dX11_own_60 (by decide) ?_
    exact ret2_i hM hC hw dX11_own_61
  ·
    replace hw := (if_neg c13).mp hw
    refine lo_aload (r := Option.map A z6) hx hb dX11_own_34 (lo_at hl 2 rfl) ?_
    refine s_ifnull (r := z6) (A := A) (tgt := 60) hx hb dX11_own_36 (by decide) (fun c14 => ?_) (fun c14 => ?_)
    ·
      replace hw := (if_pos c14).mp hw
      refine lv_iconst (v := 0) hx hb dX11_own_60 (by decide) ?_
      exact ret2_i hM hC hw dX11_own_61
    ·
      replace hw := (if_neg c14).mp hw
      refine lo_aload (r := Option.map A z9) hx hb dX11_own_39 (lo_at hl 1 rfl) ?_
      refine s_ifnull (r := z9) (A := A) (tgt := 60) hx hb dX11_own_41 (by decide) (fun c15 => ?_) (fun c15 => ?_)
      ·
        replace hw := (if_pos c15).mp hw
        refine lv_iconst (v := 0) hx hb dX11_own_60 (by decide) ?_
        exact ret2_i hM hC hw dX11_own_61
      ·
        replace hw := (if_neg c15).mp hw
        refine lo_aload (r := Option.map A z12) hx hb dX11_own_44 (lo_at hl 0 rfl) ?_
        refine s_ifnull (r := z12) (A := A) (tgt := 60) hx hb dX11_own_46 (by decide) (fun c16 => ?_) (fun c16 => ?_)
        ·
          replace hw := (if_pos c16).mp hw
          refine lv_iconst (v := 0) hx hb dX11_own_60 (by decide) ?_
          exact ret2_i hM hC hw dX11_own_61
        ·
          replace hw := (if_neg c16).mp hw
          refine lv_iload hx hb dX11_own_49 (lo_at hl 9 rfl) ?_
          refine lv_if_lt (tgt := 60) hx hb dX11_own_51 (by decide) (fun c17 => ?_) (fun c17 => ?_)
          ·
            replace hw := (if_pos c17).mp hw
            refine lv_iconst (v := 0) hx hb dX11_own_60 (by decide) ?_
            exact ret2_i hM hC hw dX11_own_61
          ·
            replace hw := (if_neg c17).mp hw
            refine lv_iload hx hb dX11_own_54 (lo_at hl 9 rfl) ?_
            refine lv_iconst (v := 1) hx hb dX11_own_56 (by decide) ?_
            refine lv_icmp_le (tgt := 62) hx hb dX11_own_57 (by decide) (fun c18 => ?_) (fun c18 => ?_)
            ·
              replace hw := (if_pos c18).mp hw
              refine lo_aload (r := Option.map A z3) hx hb dX11_own_62 (lo_at hl 3 rfl) ?_
              refine lo_aload (r := Option.map A z6) hx hb dX11_own_64 (lo_at hl 2 rfl) ?_
              refine lo_aload (r := Option.map A z9) hx hb dX11_own_66 (lo_at hl 1 rfl) ?_
              obtain ⟨k19, hw⟩ := hw
              refine sf_3 k19.1 ?_
              refine res2_i hC (run2_V (As := [va_rf (Option.map A z6), va_rf (Option.map A z9)]) (rest := []) hM hC hl.1.1 kv_RX11_247 (c_X3_runsUnderBest l G base A (ad z3) z6 z9 h11 _ hw) (hc_2) k19.2 rfl rfl rfl ⟨Nat.le_of_ble_eq_true rfl, Nat.le_of_ble_eq_true rfl⟩ (Nat.le_of_ble_eq_true rfl) ⟨Nat.le_of_ble_eq_true rfl, Nat.le_of_ble_eq_true rfl⟩ dX11_own_68) (fun z21 h20 H locs hw hC => ?_)
              refine lo_istore (lv' := [(10, .int z21), (9, va_rf (Option.map A z12)), (8, va_rf (Option.map A z9)), (7, va_rf (Option.map A z6)), (6, va_rf (Option.map A z3)), (0, .ref (A o)), (1, .int x1), (2, .int x2), (3, .int x3), (4, .int x4), (5, .int x5)]) hx hb dX11_own_71 hl (by decide) rfl (fun ls hl => ?_)
              refine lo_aload (r := Option.map A z3) hx hb dX11_own_73 (lo_at hl 4 rfl) ?_
              refine lo_aload (r := Option.map A z6) hx hb dX11_own_75 (lo_at hl 3 rfl) ?_
              refine lo_aload (r := Option.map A z12) hx hb dX11_own_77 (lo_at hl 1 rfl) ?_
              obtain ⟨k22, hw⟩ := hw
              refine sf_3 k22.1 ?_
              refine res2_i hC (run2_V (As := [va_rf (Option.map A z6), va_rf (Option.map A z12)]) (rest := []) hM hC hl.1.1 kv_RX11_247 (c_X3_runsUnderBest l G base A (ad z3) z6 z12 h20 _ hw) (hc_2) k22.2 rfl rfl rfl ⟨Nat.le_of_ble_eq_true rfl, Nat.le_of_ble_eq_true rfl⟩ (Nat.le_of_ble_eq_true rfl) ⟨Nat.le_of_ble_eq_true rfl, Nat.le_of_ble_eq_true rfl⟩ dX11_own_79) (fun z24 h23 H locs hw hC => ?_)
              refine lo_istore (lv' := [(11, .int z24), (10, .int z21), (9, va_rf (Option.map A z12)), (8, va_rf (Option.map A z9)), (7, va_rf (Option.map A z6)), (6, va_rf (Option.map A z3)), (0, .ref (A o)), (1, .int x1), (2, .int x2), (3, .int x3), (4, .int x4), (5, .int x5)]) hx hb dX11_own_82 hl (by decide) rfl (fun ls hl => ?_)
              refine lv_iload hx hb dX11_own_84 (lo_at hl 11 rfl) ?_
              refine lv_if_ne (tgt := 99) hx hb dX11_own_86 (by decide) (fun c25 => ?_) (fun c25 => ?_)
              ·
                replace hw := (if_neg c25).mp hw
                refine lv_iload hx hb dX11_own_99 (lo_at hl 1 rfl) ?_
                refine lv_iload hx hb dX11_own_101 (lo_at hl 0 rfl) ?_
                refine lv_iand hx hb dX11_own_103 ?_
                exact ret2_i hM hC hw dX11_own_104
              ·
                replace hw := (if_pos c25).mp hw
                refine lv_iload hx hb dX11_own_89 (lo_at hl 1 rfl) ?_
                refine lv_iload hx hb dX11_own_91 (lo_at hl 0 rfl) ?_
                refine lv_iconst (v := -1) hx hb dX11_own_93 (by decide) ?_
                refine lv_ixor hx hb dX11_own_94 ?_
                refine lv_iand hx hb dX11_own_95 ?_
                refine lv_goto (tgt := 104) hx hb dX11_own_96 (by decide) ?_
                exact ret2_i hM hC hw dX11_own_104
            ·
              replace hw := (if_neg c18).mp hw
              refine lv_iconst (v := 0) hx hb dX11_own_60 (by decide) ?_
              exact ret2_i hM hC hw dX11_own_61
abbrev rm_X11_nextLikeness : Room := { frames := 3, cells := 0, slots := 0, locals := 78 }
set_option maxRecDepth 100000 in
def wp_X11_nextLikeness_L6 (o : Nat) (r1 : Option Nat) (r2 : Option Nat) (x3 : Int32) (K75 : Int32 → Hp → Prop) (Q : Int32 → Hp → Prop) : Nat → Int32 → Int32 → Hp → Prop
  | 0, _, _, _ => False
  | n + 1, x4, x5, h => ((hpK h o).1 = 20 + 9) ∧ ((if (hpI h o 5) ≤ x5 then (K75 x4 h) else (okA h (hpR h o 4) 3 x5 ∧ ((if (hpR h (ad (hpR h o 4)) (x5).toNatClampNeg) = none then (∀ v5 : Int32, v5 = x5 + (1 : Int32) → (wp_X11_nextLikeness_L6 o r1 r2 x3 K75 Q n x4 v5 h)) else (okO h r2 0 ∧ ((if x5 = (hpI h (ad r2) 0) then (∀ v8 : Int32, v8 = x5 + (1 : Int32) → (wp_X11_nextLikeness_L6 o r1 r2 x3 K75 Q n x4 v8 h)) else (okO h r1 2 ∧ (wp_X3_measured (ad r1) r2 (hpR h (ad (hpR h o 4)) (x5).toNatClampNeg) h (fun (z11 : Int32) (h10 : Hp) => wp_X2_likeness z11 x5 h10 (fun (z13 : Int32) (h12 : Hp) => (if x3 ≤ z13 then (∀ v15 : Int32, v15 = x5 + (1 : Int32) → (wp_X11_nextLikeness_L6 o r1 r2 x3 K75 Q n x4 v15 h12)) else ((if z13 ≤ x4 then (∀ v17 : Int32, v17 = x5 + (1 : Int32) → (wp_X11_nextLikeness_L6 o r1 r2 x3 K75 Q n x4 v17 h12)) else (∀ v18 : Int32, v18 = x5 + (1 : Int32) → (wp_X11_nextLikeness_L6 o r1 r2 x3 K75 Q n z13 v18 h12)))))))))))))))))
set_option maxRecDepth 100000 in
def wp_X11_nextLikeness (o : Nat) (r1 : Option Nat) (r2 : Option Nat) (x3 : Int32) (h : Hp) (Q : Int32 → Hp → Prop) : Prop := wp_X11_nextLikeness_L6 o r1 r2 x3 (fun (y20 : Int32) (h19 : Hp) => Q y20 h19) Q fuel (-1 : Int32) (0 : Int32) h
set_option maxHeartbeats 4000000 in
set_option maxRecDepth 100000 in
theorem t_X11_nextLikeness_L6 {p : Program} {l : Launch} {e : Env} {s : State} {m : MethodId} {args : Array Value} {below : List Frame} {meth : Method} {c : Code} {G : GG} {base : Nat} {A : Nat → Nat} {g0 : Hp} (hM : Mx G base p s m args meth c cX11_nextLikeness 8 (some .int) RX11 "nextLikeness") (o : Nat) (r1 : Option Nat) (r2 : Option Nat) (x3 : Int32) (K75 : Int32 → Hp → Prop) (Q : Int32 → Hp → Prop) (hK75 : ∀ (y4 : Int32) (h : Hp) (H : Heap) (locs : List Loc) (ls : Array Slot), Cx2 G base A g0 A h s.heap H locs → lo_has ls 8 [(4, .int y4)] → K75 y4 h → W p l e rm_X11_nextLikeness s m args below meth c H locs 0 0 (MQ below (va_Qi Q (PU2 G base A g0 A) (fun q => base ≤ q)) args s 0 0 (fun q => base ≤ q)) (F0 m 75 ls [])) : ∀ (n : Nat) (x4 : Int32) (x5 : Int32) (h : Hp) (H : Heap) (locs : List Loc) (ls : Array Slot), Cx2 G base A g0 A h s.heap H locs → lo_has ls 8 [(0, .ref (A o)), (1, va_rf (Option.map A r1)), (2, va_rf (Option.map A r2)), (3, .int x3), (4, .int x4), (5, .int x5)] → wp_X11_nextLikeness_L6 o r1 r2 x3 K75 Q n x4 x5 h → W p l e rm_X11_nextLikeness s m args below meth c H locs 0 0 (MQ below (va_Qi Q (PU2 G base A g0 A) (fun q => base ≤ q)) args s 0 0 (fun q => base ≤ q)) (F0 m 6 ls []) := by
  intro n
  induction n with
  | zero =>
    intro x4 x5 h H locs ls hC hl hw
    rw [wp_X11_nextLikeness_L6] at hw
    exact hw.elim
  | succ n ih =>
    intro x4 x5 h H locs ls hC hl hw
    rw [wp_X11_nextLikeness_L6] at hw
    obtain ⟨hx, hb, hr, hml, hown, hts, hg, hs, hlk, hnm⟩ := id hM
    refine lv_iload hx hb dX11_nextLikeness_6 (lo_at hl 5 rfl) ?_
    refine lv_aload_n hx hb dX11_nextLikeness_8 rfl (lo_at hl 0 rfl) ?_
    obtain ⟨k1, hw⟩ := hw
    refine s_getI hx hb hts hown hg hC fb_9_5 k1 mk_f_RX11_122 dX11_nextLikeness_9 ?_
    refine lv_icmp_ge (tgt := 75) hx hb dX11_nextLikeness_12 (by decide) (fun c2 => ?_) (fun c2 => ?_)
    ·
      replace hw := (if_pos c2).mp hw
      exact hK75 x4 h H locs ls hC (lo_sub hl [4] rfl) hw
    ·
      replace hw := (if_neg c2).mp hw
      refine lv_aload_n hx hb dX11_nextLikeness_15 rfl (lo_at hl 0 rfl) ?_
      refine s_getR hx hb hts hown hg hC fb_9_4 k1 mk_f_RX11_23 dX11_nextLikeness_16 ?_
      refine lv_iload hx hb dX11_nextLikeness_19 (lo_at hl 5 rfl) ?_
      obtain ⟨k3, hw⟩ := hw
      refine sf_2 k3.1 ?_
      refine s_aald (kd := 3) (t0 := 2) hx hb hg hC k3.2.1 (by decide) rfl k3.2.2 dX11_nextLikeness_21 ?_
      refine lo_astore (r := Option.map A (hpR h (ad (hpR h o 4)) (x5).toNatClampNeg)) (lv' := [(6, va_rf (Option.map A (hpR h (ad (hpR h o 4)) (x5).toNatClampNeg))), (0, .ref (A o)), (1, va_rf (Option.map A r1)), (2, va_rf (Option.map A r2)), (3, .int x3), (4, .int x4), (5, .int x5)]) hx hb dX11_nextLikeness_22 hl (by decide) rfl (fun ls hl => ?_)
      refine lo_aload (r := Option.map A (hpR h (ad (hpR h o 4)) (x5).toNatClampNeg)) hx hb dX11_nextLikeness_24 (lo_at hl 0 rfl) ?_
      refine s_ifnull (r := hpR h (ad (hpR h o 4)) (x5).toNatClampNeg) (A := A) (tgt := 69) hx hb dX11_nextLikeness_26 (by decide) (fun c4 => ?_) (fun c4 => ?_)
      ·
        replace hw := (if_pos c4).mp hw
        obtain ⟨v5, ev5⟩ : ∃ y : Int32, y = x5 + (1 : Int32) := ⟨_, rfl⟩
        replace hw := hw v5 ev5
        refine lo_iinc (v := v5) (lv' := [(5, .int v5), (6, va_rf (Option.map A (hpR h (ad (hpR h o 4)) (x5).toNatClampNeg))), (0, .ref (A o)), (1, va_rf (Option.map A r1)), (2, va_rf (Option.map A r2)), (3, .int x3), (4, .int x4)]) hx hb dX11_nextLikeness_69 hl (k := 6) rfl (by rw [ev5]; rfl) (by decide) rfl (fun ls hl => ?_)
        refine lv_goto (tgt := 6) hx hb dX11_nextLikeness_72 (by decide) ?_
        exact ih x4 v5 h H locs ls hC (lo_sub hl [2, 3, 4, 5, 6, 0] rfl) hw
      ·
        replace hw := (if_neg c4).mp hw
        refine lv_iload hx hb dX11_nextLikeness_29 (lo_at hl 6 rfl) ?_
        refine lo_aload_n (r := Option.map A r2) hx hb dX11_nextLikeness_31 rfl (lo_at hl 3 rfl) ?_
        obtain ⟨k6, hw⟩ := hw
        refine sf_1 k6.1 ?_
        refine s_getI hx hb hts hown hg hC fb_0_0 k6.2 mk_f_RX11_134 dX11_nextLikeness_32 ?_
        refine lv_icmp_eq (tgt := 69) hx hb dX11_nextLikeness_35 (by decide) (fun c7 => ?_) (fun c7 => ?_)
        ·
          replace hw := (if_pos c7).mp hw
          obtain ⟨v8, ev8⟩ : ∃ y : Int32, y = x5 + (1 : Int32) := ⟨_, rfl⟩
          replace hw := hw v8 ev8
          refine lo_iinc (v := v8) (lv' := [(5, .int v8), (6, va_rf (Option.map A (hpR h (ad (hpR h o 4)) (x5).toNatClampNeg))), (0, .ref (A o)), (1, va_rf (Option.map A r1)), (2, va_rf (Option.map A r2)), (3, .int x3), (4, .int x4)]) hx hb dX11_nextLikeness_69 hl (k := 6) rfl (by rw [ev8]; rfl) (by decide) rfl (fun ls hl => ?_)
          refine lv_goto (tgt := 6) hx hb dX11_nextLikeness_72 (by decide) ?_
          exact ih x4 v8 h H locs ls hC (lo_sub hl [2, 3, 4, 5, 6, 0] rfl) hw
        ·
          replace hw := (if_neg c7).mp hw
          refine lo_aload_n (r := Option.map A r1) hx hb dX11_nextLikeness_38 rfl (lo_at hl 2 rfl) ?_
          refine lo_aload_n (r := Option.map A r2) hx hb dX11_nextLikeness_39 rfl (lo_at hl 3 rfl) ?_
          refine lo_aload (r := Option.map A (hpR h (ad (hpR h o 4)) (x5).toNatClampNeg)) hx hb dX11_nextLikeness_40 (lo_at hl 0 rfl) ?_
          obtain ⟨k9, hw⟩ := hw
          refine sf_3 k9.1 ?_
          refine res2_i hC (run2_V (As := [va_rf (Option.map A r2), va_rf (Option.map A (hpR h (ad (hpR h o 4)) (x5).toNatClampNeg))]) (rest := []) hM hC hl.1.1 kv_RX11_199 (c_X3_measured l G base A (ad r1) r2 (hpR h (ad (hpR h o 4)) (x5).toNatClampNeg) h _ hw) (hc_2) k9.2 rfl rfl rfl ⟨Nat.le_of_ble_eq_true rfl, Nat.le_of_ble_eq_true rfl⟩ (Nat.le_of_ble_eq_true rfl) ⟨Nat.le_of_ble_eq_true rfl, Nat.le_of_ble_eq_true rfl⟩ dX11_nextLikeness_42) (fun z11 h10 H locs hw hC => ?_)
          refine lv_iload hx hb dX11_nextLikeness_45 (lo_at hl 6 rfl) ?_
          refine res2_i hC (run2_S (As := [.int z11, .int x5]) (rest := []) hM hC hl.1.1 kv_RX11_314 (c_X2_likeness l G base A z11 x5 h10 _ hw) rfl rfl rfl ⟨Nat.le_of_ble_eq_true rfl, Nat.le_of_ble_eq_true rfl⟩ (Nat.le_of_ble_eq_true rfl) ⟨Nat.le_of_ble_eq_true rfl, Nat.le_of_ble_eq_true rfl⟩ dX11_nextLikeness_47) (fun z13 h12 H locs hw hC => ?_)
          refine lo_istore (lv' := [(7, .int z13), (6, va_rf (Option.map A (hpR h (ad (hpR h o 4)) (x5).toNatClampNeg))), (0, .ref (A o)), (1, va_rf (Option.map A r1)), (2, va_rf (Option.map A r2)), (3, .int x3), (4, .int x4), (5, .int x5)]) hx hb dX11_nextLikeness_50 hl (by decide) rfl (fun ls hl => ?_)
          refine lv_iload hx hb dX11_nextLikeness_52 (lo_at hl 0 rfl) ?_
          refine lv_iload_n hx hb dX11_nextLikeness_54 rfl (lo_at hl 5 rfl) ?_
          refine lv_icmp_ge (tgt := 69) hx hb dX11_nextLikeness_55 (by decide) (fun c14 => ?_) (fun c14 => ?_)
          ·
            replace hw := (if_pos c14).mp hw
            obtain ⟨v15, ev15⟩ : ∃ y : Int32, y = x5 + (1 : Int32) := ⟨_, rfl⟩
            replace hw := hw v15 ev15
            refine lo_iinc (v := v15) (lv' := [(5, .int v15), (7, .int z13), (6, va_rf (Option.map A (hpR h (ad (hpR h o 4)) (x5).toNatClampNeg))), (0, .ref (A o)), (1, va_rf (Option.map A r1)), (2, va_rf (Option.map A r2)), (3, .int x3), (4, .int x4)]) hx hb dX11_nextLikeness_69 hl (k := 7) rfl (by rw [ev15]; rfl) (by decide) rfl (fun ls hl => ?_)
            refine lv_goto (tgt := 6) hx hb dX11_nextLikeness_72 (by decide) ?_
            exact ih x4 v15 h12 H locs ls hC (lo_sub hl [3, 4, 5, 6, 7, 0] rfl) hw
          ·
            replace hw := (if_neg c14).mp hw
            refine lv_iload hx hb dX11_nextLikeness_58 (lo_at hl 0 rfl) ?_
            refine lv_iload hx hb dX11_nextLikeness_60 (lo_at hl 6 rfl) ?_
            refine lv_icmp_le (tgt := 69) hx hb dX11_nextLikeness_62 (by decide) (fun c16 => ?_) (fun c16 => ?_)
            ·
              replace hw := (if_pos c16).mp hw
              obtain ⟨v17, ev17⟩ : ∃ y : Int32, y = x5 + (1 : Int32) := ⟨_, rfl⟩
              replace hw := hw v17 ev17
              refine lo_iinc (v := v17) (lv' := [(5, .int v17), (7, .int z13), (6, va_rf (Option.map A (hpR h (ad (hpR h o 4)) (x5).toNatClampNeg))), (0, .ref (A o)), (1, va_rf (Option.map A r1)), (2, va_rf (Option.map A r2)), (3, .int x3), (4, .int x4)]) hx hb dX11_nextLikeness_69 hl (k := 7) rfl (by rw [ev17]; rfl) (by decide) rfl (fun ls hl => ?_)
              refine lv_goto (tgt := 6) hx hb dX11_nextLikeness_72 (by decide) ?_
              exact ih x4 v17 h12 H locs ls hC (lo_sub hl [3, 4, 5, 6, 7, 0] rfl) hw
            ·
              replace hw := (if_neg c16).mp hw
              refine lv_iload hx hb dX11_nextLikeness_65 (lo_at hl 0 rfl) ?_
              refine lo_istore (lv' := [(4, .int z13), (7, .int z13), (6, va_rf (Option.map A (hpR h (ad (hpR h o 4)) (x5).toNatClampNeg))), (0, .ref (A o)), (1, va_rf (Option.map A r1)), (2, va_rf (Option.map A r2)), (3, .int x3), (5, .int x5)]) hx hb dX11_nextLikeness_67 hl (by decide) rfl (fun ls hl => ?_)
              obtain ⟨v18, ev18⟩ : ∃ y : Int32, y = x5 + (1 : Int32) := ⟨_, rfl⟩
              replace hw := hw v18 ev18
              refine lo_iinc (v := v18) (lv' := [(5, .int v18), (4, .int z13), (7, .int z13), (6, va_rf (Option.map A (hpR h (ad (hpR h o 4)) (x5).toNatClampNeg))), (0, .ref (A o)), (1, va_rf (Option.map A r1)), (2, va_rf (Option.map A r2)), (3, .int x3)]) hx hb dX11_nextLikeness_69 hl (k := 7) rfl (by rw [ev18]; rfl) (by decide) rfl (fun ls hl => ?_)
              refine lv_goto (tgt := 6) hx hb dX11_nextLikeness_72 (by decide) ?_
              exact ih z13 v18 h12 H locs ls hC (lo_sub hl [4, 5, 6, 7, 1, 0] rfl) hw
set_option maxHeartbeats 4000000 in
set_option maxRecDepth 100000 in
theorem c_X11_nextLikeness (l : Launch) (G : GG) (base : Nat) (A : Nat → Nat) (o : Nat) (r1 : Option Nat) (r2 : Option Nat) (x3 : Int32) (h : Hp) (Q : Int32 → Hp → Prop) (hw : wp_X11_nextLikeness o r1 r2 x3 h Q) : Met l yX11_nextLikeness (ww yX11_nextLikeness cX11_nextLikeness 8 (some .int)) rm_X11_nextLikeness (va_Pc [.ref (A o), va_rf (Option.map A r1), va_rf (Option.map A r2), .int x3] (PU2 G base A h A h)) (va_Qi Q (PU2 G base A h A) (fun q => base ≤ q)) 0 0 (fun q => base ≤ q) := by
  refine met2_of (own := RX11) (nm := "nextLikeness") (by decide) rfl rfl (List.forall_mem_cons.mpr ⟨rfl, (List.forall_mem_cons.mpr ⟨va_rf_cat _, (List.forall_mem_cons.mpr ⟨va_rf_cat _, (List.forall_mem_cons.mpr ⟨rfl, (fun _ h => absurd h List.not_mem_nil)⟩)⟩)⟩)⟩) (Nat.le_of_ble_eq_true rfl) rfl ?_
  intro p e s m args below meth c H locs ls hM hC hl
  obtain ⟨hx, hb, hr, hml, hown, hts, hg, hs, hlk, hnm⟩ := id hM
  unfold wp_X11_nextLikeness at hw
  refine lv_iconst (v := -1) hx hb dX11_nextLikeness_0 (by decide) ?_
  refine lo_istore (lv' := [(4, .int ((-1 : Int32))), (0, .ref (A o)), (1, va_rf (Option.map A r1)), (2, va_rf (Option.map A r2)), (3, .int x3)]) hx hb dX11_nextLikeness_1 hl (by decide) rfl (fun ls hl => ?_)
  refine lv_iconst (v := 0) hx hb dX11_nextLikeness_3 (by decide) ?_
  refine lo_istore (lv' := [(5, .int ((0 : Int32))), (4, .int ((-1 : Int32))), (0, .ref (A o)), (1, va_rf (Option.map A r1)), (2, va_rf (Option.map A r2)), (3, .int x3)]) hx hb dX11_nextLikeness_4 hl (by decide) rfl (fun ls hl => ?_)
  refine t_X11_nextLikeness_L6 hM o r1 r2 x3 _ Q ?_ fuel (-1 : Int32) (0 : Int32) h H locs ls hC (lo_sub hl [2, 3, 4, 5, 1, 0] rfl) hw
  intro y20 h19 H locs ls hC hl hw
  refine lv_iload hx hb dX11_nextLikeness_75 (lo_at hl 0 rfl) ?_
  exact ret2_i hM hC hw dX11_nextLikeness_77
abbrev rm_X11_cheapestRound : Room := { frames := 2, cells := 0, slots := 0, locals := 48 }
set_option maxRecDepth 100000 in
def wp_X11_cheapestRound_L4 (o : Nat) (x1 : Int32) (K47 : Int32 → Hp → Prop) (Q : Int32 → Hp → Prop) : Nat → Int32 → Int32 → Hp → Prop
  | 0, _, _, _ => False
  | n + 1, x2, x3, h => ((hpK h o).1 = 20 + 9) ∧ ((if ((1 : Int32) <<< ((hpI h o 10) &&& 31)) ≤ x3 then (K47 x2 h) else (wp_X11_misledBy o x3 h (fun (z4 : Int32) (h3 : Hp) => (if (z4 &&& x1) = x1 then ((if x2 = (-1 : Int32) then (∀ v8 : Int32, v8 = x3 + (1 : Int32) → (wp_X11_cheapestRound_L4 o x1 K47 Q n x3 v8 h3)) else (((hpK h3 o).1 = 20 + 9) ∧ (wp_X11_isCheaper o x3 x2 h3 (fun (z11 : Int32) (h10 : Hp) => (if z11 = 0 then (∀ v13 : Int32, v13 = x3 + (1 : Int32) → (wp_X11_cheapestRound_L4 o x1 K47 Q n x2 v13 h10)) else (∀ v14 : Int32, v14 = x3 + (1 : Int32) → (wp_X11_cheapestRound_L4 o x1 K47 Q n x3 v14 h10)))))))) else (∀ v6 : Int32, v6 = x3 + (1 : Int32) → (wp_X11_cheapestRound_L4 o x1 K47 Q n x2 v6 h3)))))))
set_option maxRecDepth 100000 in
def wp_X11_cheapestRound (o : Nat) (x1 : Int32) (h : Hp) (Q : Int32 → Hp → Prop) : Prop := wp_X11_cheapestRound_L4 o x1 (fun (y16 : Int32) (h15 : Hp) => Q y16 h15) Q fuel (-1 : Int32) (1 : Int32) h
set_option maxHeartbeats 4000000 in
set_option maxRecDepth 100000 in
theorem t_X11_cheapestRound_L4 {p : Program} {l : Launch} {e : Env} {s : State} {m : MethodId} {args : Array Value} {below : List Frame} {meth : Method} {c : Code} {G : GG} {base : Nat} {A : Nat → Nat} {g0 : Hp} (hM : Mx G base p s m args meth c cX11_cheapestRound 4 (some .int) RX11 "cheapestRound") (o : Nat) (x1 : Int32) (K47 : Int32 → Hp → Prop) (Q : Int32 → Hp → Prop) (hK47 : ∀ (y2 : Int32) (h : Hp) (H : Heap) (locs : List Loc) (ls : Array Slot), Cx2 G base A g0 A h s.heap H locs → lo_has ls 4 [(2, .int y2)] → K47 y2 h → W p l e rm_X11_cheapestRound s m args below meth c H locs 0 0 (MQ below (va_Qi Q (PU2 G base A g0 A) (fun q => base ≤ q)) args s 0 0 (fun q => base ≤ q)) (F0 m 47 ls [])) : ∀ (n : Nat) (x2 : Int32) (x3 : Int32) (h : Hp) (H : Heap) (locs : List Loc) (ls : Array Slot), Cx2 G base A g0 A h s.heap H locs → lo_has ls 4 [(0, .ref (A o)), (1, .int x1), (2, .int x2), (3, .int x3)] → wp_X11_cheapestRound_L4 o x1 K47 Q n x2 x3 h → W p l e rm_X11_cheapestRound s m args below meth c H locs 0 0 (MQ below (va_Qi Q (PU2 G base A g0 A) (fun q => base ≤ q)) args s 0 0 (fun q => base ≤ q)) (F0 m 4 ls []) := by
  intro n
  induction n with
  | zero =>
    intro x2 x3 h H locs ls hC hl hw
    rw [wp_X11_cheapestRound_L4] at hw
    exact hw.elim
  | succ n ih =>
    intro x2 x3 h H locs ls hC hl hw
    rw [wp_X11_cheapestRound_L4] at hw
    obtain ⟨hx, hb, hr, hml, hown, hts, hg, hs, hlk, hnm⟩ := id hM
    refine lv_iload_n hx hb dX11_cheapestRound_4 rfl (lo_at hl 3 rfl) ?_
    refine lv_iconst (v := 1) hx hb dX11_cheapestRound_5 (by decide) ?_
    refine lv_aload_n hx hb dX11_cheapestRound_6 rfl (lo_at hl 0 rfl) ?_
    obtain ⟨k1, hw⟩ := hw
    refine s_getI hx hb hts hown hg hC fb_9_10 k1 mk_f_RX11_258 dX11_cheapestRound_7 ?_
    refine lv_ishl hx hb dX11_cheapestRound_10 ?_
    refine lv_icmp_ge (tgt := 47) hx hb dX11_cheapestRound_11 (by decide) (fun c2 => ?_) (fun c2 => ?_)
    ·
      replace hw := (if_pos c2).mp hw
      exact hK47 x2 h H locs ls hC (lo_sub hl [2] rfl) hw
    ·
      replace hw := (if_neg c2).mp hw
      refine lv_aload_n hx hb dX11_cheapestRound_14 rfl (lo_at hl 0 rfl) ?_
      refine lv_iload_n hx hb dX11_cheapestRound_15 rfl (lo_at hl 3 rfl) ?_
      refine res2_i hC (run2_V (As := [.int x3]) (rest := []) hM hC hl.1.1 kv_RX11_321 (c_X11_misledBy l G base A o x3 h _ hw) (hc_9) k1 rfl rfl rfl ⟨Nat.le_of_ble_eq_true rfl, Nat.le_of_ble_eq_true rfl⟩ (Nat.le_of_ble_eq_true rfl) ⟨Nat.le_of_ble_eq_true rfl, Nat.le_of_ble_eq_true rfl⟩ dX11_cheapestRound_16) (fun z4 h3 H locs hw hC => ?_)
      refine lv_iload_n hx hb dX11_cheapestRound_19 rfl (lo_at hl 1 rfl) ?_
      refine lv_iand hx hb dX11_cheapestRound_20 ?_
      refine lv_iload_n hx hb dX11_cheapestRound_21 rfl (lo_at hl 1 rfl) ?_
      refine lv_icmp_ne (tgt := 41) hx hb dX11_cheapestRound_22 (by decide) (fun c5 => ?_) (fun c5 => ?_)
      ·
        replace hw := (if_neg c5).mp hw
        obtain ⟨v6, ev6⟩ : ∃ y : Int32, y = x3 + (1 : Int32) := ⟨_, rfl⟩
        replace hw := hw v6 ev6
        refine lo_iinc (v := v6) (lv' := [(3, .int v6), (0, .ref (A o)), (1, .int x1), (2, .int x2)]) hx hb dX11_cheapestRound_41 hl (k := 3) rfl (by rw [ev6]; rfl) (by decide) rfl (fun ls hl => ?_)
        refine lv_goto (tgt := 4) hx hb dX11_cheapestRound_44 (by decide) ?_
        exact ih x2 v6 h3 H locs ls hC (lo_sub hl [1, 2, 3, 0] rfl) hw
      ·
        replace hw := (if_pos c5).mp hw
        refine lv_iload_n hx hb dX11_cheapestRound_25 rfl (lo_at hl 2 rfl) ?_
        refine lv_iconst (v := -1) hx hb dX11_cheapestRound_26 (by decide) ?_
        refine lv_icmp_eq (tgt := 39) hx hb dX11_cheapestRound_27 (by decide) (fun c7 => ?_) (fun c7 => ?_)
        ·
          replace hw := (if_pos c7).mp hw
          refine lv_iload_n hx hb dX11_cheapestRound_39 rfl (lo_at hl 3 rfl) ?_
          refine lo_istore_n (lv' := [(2, .int x3), (0, .ref (A o)), (1, .int x1), (3, .int x3)]) hx hb dX11_cheapestRound_40 rfl hl (by decide) rfl (fun ls hl => ?_)
          obtain ⟨v8, ev8⟩ : ∃ y : Int32, y = x3 + (1 : Int32) := ⟨_, rfl⟩
          replace hw := hw v8 ev8
          refine lo_iinc (v := v8) (lv' := [(3, .int v8), (2, .int x3), (0, .ref (A o)), (1, .int x1)]) hx hb dX11_cheapestRound_41 hl (k := 3) rfl (by rw [ev8]; rfl) (by decide) rfl (fun ls hl => ?_)
          refine lv_goto (tgt := 4) hx hb dX11_cheapestRound_44 (by decide) ?_
          exact ih x3 v8 h3 H locs ls hC (lo_sub hl [2, 3, 1, 0] rfl) hw
        ·
          replace hw := (if_neg c7).mp hw
          refine lv_aload_n hx hb dX11_cheapestRound_30 rfl (lo_at hl 0 rfl) ?_
          refine lv_iload_n hx hb dX11_cheapestRound_31 rfl (lo_at hl 3 rfl) ?_
          refine lv_iload_n hx hb dX11_cheapestRound_32 rfl (lo_at hl 2 rfl) ?_
          obtain ⟨k9, hw⟩ := hw
          refine res2_i hC (run2_V (As := [.int x3, .int x2]) (rest := []) hM hC hl.1.1 kv_RX11_324 (c_X11_isCheaper l G base A o x3 x2 h3 _ hw) (hc_9) k9 rfl rfl rfl ⟨Nat.le_of_ble_eq_true rfl, Nat.le_of_ble_eq_true rfl⟩ (Nat.le_of_ble_eq_true rfl) ⟨Nat.le_of_ble_eq_true rfl, Nat.le_of_ble_eq_true rfl⟩ dX11_cheapestRound_33) (fun z11 h10 H locs hw hC => ?_)
          refine lv_if_eq (tgt := 41) hx hb dX11_cheapestRound_36 (by decide) (fun c12 => ?_) (fun c12 => ?_)
          ·
            replace hw := (if_pos c12).mp hw
            obtain ⟨v13, ev13⟩ : ∃ y : Int32, y = x3 + (1 : Int32) := ⟨_, rfl⟩
            replace hw := hw v13 ev13
            refine lo_iinc (v := v13) (lv' := [(3, .int v13), (0, .ref (A o)), (1, .int x1), (2, .int x2)]) hx hb dX11_cheapestRound_41 hl (k := 3) rfl (by rw [ev13]; rfl) (by decide) rfl (fun ls hl => ?_)
            refine lv_goto (tgt := 4) hx hb dX11_cheapestRound_44 (by decide) ?_
            exact ih x2 v13 h10 H locs ls hC (lo_sub hl [1, 2, 3, 0] rfl) hw
          ·
            replace hw := (if_neg c12).mp hw
            refine lv_iload_n hx hb dX11_cheapestRound_39 rfl (lo_at hl 3 rfl) ?_
            refine lo_istore_n (lv' := [(2, .int x3), (0, .ref (A o)), (1, .int x1), (3, .int x3)]) hx hb dX11_cheapestRound_40 rfl hl (by decide) rfl (fun ls hl => ?_)
            obtain ⟨v14, ev14⟩ : ∃ y : Int32, y = x3 + (1 : Int32) := ⟨_, rfl⟩
            replace hw := hw v14 ev14
            refine lo_iinc (v := v14) (lv' := [(3, .int v14), (2, .int x3), (0, .ref (A o)), (1, .int x1)]) hx hb dX11_cheapestRound_41 hl (k := 3) rfl (by rw [ev14]; rfl) (by decide) rfl (fun ls hl => ?_)
            refine lv_goto (tgt := 4) hx hb dX11_cheapestRound_44 (by decide) ?_
            exact ih x3 v14 h10 H locs ls hC (lo_sub hl [2, 3, 1, 0] rfl) hw
set_option maxHeartbeats 4000000 in
set_option maxRecDepth 100000 in
theorem c_X11_cheapestRound (l : Launch) (G : GG) (base : Nat) (A : Nat → Nat) (o : Nat) (x1 : Int32) (h : Hp) (Q : Int32 → Hp → Prop) (hw : wp_X11_cheapestRound o x1 h Q) : Met l yX11_cheapestRound (ww yX11_cheapestRound cX11_cheapestRound 4 (some .int)) rm_X11_cheapestRound (va_Pc [.ref (A o), .int x1] (PU2 G base A h A h)) (va_Qi Q (PU2 G base A h A) (fun q => base ≤ q)) 0 0 (fun q => base ≤ q) := by
  refine met2_of (own := RX11) (nm := "cheapestRound") (by decide) rfl rfl (List.forall_mem_cons.mpr ⟨rfl, (List.forall_mem_cons.mpr ⟨rfl, (fun _ h => absurd h List.not_mem_nil)⟩)⟩) (Nat.le_of_ble_eq_true rfl) rfl ?_
  intro p e s m args below meth c H locs ls hM hC hl
  obtain ⟨hx, hb, hr, hml, hown, hts, hg, hs, hlk, hnm⟩ := id hM
  unfold wp_X11_cheapestRound at hw
  refine lv_iconst (v := -1) hx hb dX11_cheapestRound_0 (by decide) ?_
  refine lo_istore_n (lv' := [(2, .int ((-1 : Int32))), (0, .ref (A o)), (1, .int x1)]) hx hb dX11_cheapestRound_1 rfl hl (by decide) rfl (fun ls hl => ?_)
  refine lv_iconst (v := 1) hx hb dX11_cheapestRound_2 (by decide) ?_
  refine lo_istore_n (lv' := [(3, .int ((1 : Int32))), (2, .int ((-1 : Int32))), (0, .ref (A o)), (1, .int x1)]) hx hb dX11_cheapestRound_3 rfl hl (by decide) rfl (fun ls hl => ?_)
  refine t_X11_cheapestRound_L4 hM o x1 _ Q ?_ fuel (-1 : Int32) (1 : Int32) h H locs ls hC (lo_sub hl [2, 3, 1, 0] rfl) hw
  intro y16 h15 H locs ls hC hl hw
  refine lv_iload_n hx hb dX11_cheapestRound_47 rfl (lo_at hl 0 rfl) ?_
  exact ret2_i hM hC hw dX11_cheapestRound_48
abbrev rm_J0_charAt_5068e : Room := { frames := 3, cells := 0, slots := 0, locals := 64 }
set_option maxRecDepth 100000 in
def wp_J0_charAt_5068e (o : Nat) (x1 : Int32) (h : Hp) (Q : Int32 → Hp → Prop) : Prop := (o < 2) ∧ (wp_J0_isLatin1_aae02 o h (fun (z3 : Int32) (h2 : Hp) => (if z3 = 0 then ((o < 2) ∧ (False)) else ((o < 2) ∧ (wp_J1_charAt_3b067 o x1 h2 (fun (z8 : Int32) (h7 : Hp) => narrow .char (.int z8) = .int z8 ∧ Q z8 h7))))))
set_option maxHeartbeats 4000000 in
set_option maxRecDepth 100000 in
theorem c_J0_charAt_5068e (l : Launch) (G : GG) (base : Nat) (A : Nat → Nat) (o : Nat) (x1 : Int32) (h : Hp) (Q : Int32 → Hp → Prop) (hw : wp_J0_charAt_5068e o x1 h Q) : Met l yJ0_charAt_5068e (ww yJ0_charAt_5068e cJ0_charAt_5068e 2 (some .char)) rm_J0_charAt_5068e (va_Pc [.ref (G.2.2.1 o), .int x1] (PU2 G base A h A h)) (va_Qi Q (PU2 G base A h A) (fun q => base ≤ q)) 0 0 (fun q => base ≤ q) := by
  refine met2_of (own := RJ0) (nm := "charAt") (by decide) rfl rfl (List.forall_mem_cons.mpr ⟨rfl, (List.forall_mem_cons.mpr ⟨rfl, (fun _ h => absurd h List.not_mem_nil)⟩)⟩) (Nat.le_of_ble_eq_true rfl) rfl ?_
  intro p e s m args below meth c H locs ls hM hC hl
  obtain ⟨hx, hb, hr, hml, hown, hts, hg, hs, hlk, hnm⟩ := id hM
  unfold wp_J0_charAt_5068e at hw
  refine lv_aload_n hx hb dJ0_charAt_5068e_0 rfl (lo_at hl 0 rfl) ?_
  obtain ⟨k1, hw⟩ := hw
  refine res2_i hC (run2_VS (As := []) (rest := []) hM hC hl.1.1 kv_RJ0_492 (c_J0_isLatin1_aae02 l G base A o h _ hw) k1 rfl rfl rfl ⟨Nat.le_of_ble_eq_true rfl, Nat.le_of_ble_eq_true rfl⟩ (Nat.le_of_ble_eq_true rfl) ⟨Nat.le_of_ble_eq_true rfl, Nat.le_of_ble_eq_true rfl⟩ dJ0_charAt_5068e_1) (fun z3 h2 H locs hw hC => ?_)
  refine lv_if_eq (tgt := 16) hx hb dJ0_charAt_5068e_4 (by decide) (fun c4 => ?_) (fun c4 => ?_)
  ·
    replace hw := (if_pos c4).mp hw
    refine lv_aload_n hx hb dJ0_charAt_5068e_16 rfl (lo_at hl 0 rfl) ?_
    obtain ⟨k5, hw⟩ := hw
    refine vk_getf hx hb (hs.1.1.1 _ k5).2.2.1 hC.1.2.2 hown (hts _ mk_f_RJ0_9) (fun _ h => h) dJ0_charAt_5068e_17 ?_
    refine lv_iload_n hx hb dJ0_charAt_5068e_20 rfl (lo_at hl 1 rfl) ?_
    exact hw.elim
  ·
    replace hw := (if_neg c4).mp hw
    refine lv_aload_n hx hb dJ0_charAt_5068e_7 rfl (lo_at hl 0 rfl) ?_
    obtain ⟨k6, hw⟩ := hw
    refine vk_getf hx hb (hs.1.1.1 _ k6).2.2.1 hC.1.2.2 hown (hts _ mk_f_RJ0_9) (fun _ h => h) dJ0_charAt_5068e_8 ?_
    refine lv_iload_n hx hb dJ0_charAt_5068e_11 rfl (lo_at hl 1 rfl) ?_
    refine res2_i hC (run2_S (As := [.ref (G.2.2.2 o), .int x1]) (rest := []) hM hC hl.1.1 kv_RJ0_495 (c_J1_charAt_3b067 l G base A o x1 h2 _ hw) rfl rfl rfl ⟨Nat.le_of_ble_eq_true rfl, Nat.le_of_ble_eq_true rfl⟩ (Nat.le_of_ble_eq_true rfl) ⟨Nat.le_of_ble_eq_true rfl, Nat.le_of_ble_eq_true rfl⟩ dJ0_charAt_5068e_12) (fun z8 h7 H locs hw hC => ?_)
    exact ret2_t hM hC hw.1 hw.2 dJ0_charAt_5068e_15
abbrev rm_J0_indexOf_7cf53 : Room := { frames := 2, cells := 0, slots := 0, locals := 63 }
set_option maxRecDepth 100000 in
def wp_J0_indexOf_7cf53 (o : Nat) (x1 : Int32) (x2 : Int32) (h : Hp) (Q : Int32 → Hp → Prop) : Prop := (o < 2) ∧ (wp_J0_isLatin1_aae02 o h (fun (z3 : Int32) (h2 : Hp) => (if z3 = 0 then ((o < 2) ∧ (wp_J0_length_8abf5 o h2 (fun (z7 : Int32) (h6 : Hp) => False))) else ((o < 2) ∧ (wp_J0_length_8abf5 o h2 (fun (z10 : Int32) (h9 : Hp) => wp_J1_indexOf_4cfef o x1 x2 z10 h9 (fun (z12 : Int32) (h11 : Hp) => Q z12 h11)))))))
set_option maxHeartbeats 4000000 in
set_option maxRecDepth 100000 in
theorem c_J0_indexOf_7cf53 (l : Launch) (G : GG) (base : Nat) (A : Nat → Nat) (o : Nat) (x1 : Int32) (x2 : Int32) (h : Hp) (Q : Int32 → Hp → Prop) (hw : wp_J0_indexOf_7cf53 o x1 x2 h Q) : Met l yJ0_indexOf_7cf53 (ww yJ0_indexOf_7cf53 cJ0_indexOf_7cf53 3 (some .int)) rm_J0_indexOf_7cf53 (va_Pc [.ref (G.2.2.1 o), .int x1, .int x2] (PU2 G base A h A h)) (va_Qi Q (PU2 G base A h A) (fun q => base ≤ q)) 0 0 (fun q => base ≤ q) := by
  refine met2_of (own := RJ0) (nm := "indexOf") (by decide) rfl rfl (List.forall_mem_cons.mpr ⟨rfl, (List.forall_mem_cons.mpr ⟨rfl, (List.forall_mem_cons.mpr ⟨rfl, (fun _ h => absurd h List.not_mem_nil)⟩)⟩)⟩) (Nat.le_of_ble_eq_true rfl) rfl ?_
  intro p e s m args below meth c H locs ls hM hC hl
  obtain ⟨hx, hb, hr, hml, hown, hts, hg, hs, hlk, hnm⟩ := id hM
  unfold wp_J0_indexOf_7cf53 at hw
  refine lv_aload_n hx hb dJ0_indexOf_7cf53_0 rfl (lo_at hl 0 rfl) ?_
  obtain ⟨k1, hw⟩ := hw
  refine res2_i hC (run2_VS (As := []) (rest := []) hM hC hl.1.1 kv_RJ0_492 (c_J0_isLatin1_aae02 l G base A o h _ hw) k1 rfl rfl rfl ⟨Nat.le_of_ble_eq_true rfl, Nat.le_of_ble_eq_true rfl⟩ (Nat.le_of_ble_eq_true rfl) ⟨Nat.le_of_ble_eq_true rfl, Nat.le_of_ble_eq_true rfl⟩ dJ0_indexOf_7cf53_1) (fun z3 h2 H locs hw hC => ?_)
  refine lv_if_eq (tgt := 23) hx hb dJ0_indexOf_7cf53_4 (by decide) (fun c4 => ?_) (fun c4 => ?_)
  ·
    replace hw := (if_pos c4).mp hw
    refine lv_aload_n hx hb dJ0_indexOf_7cf53_23 rfl (lo_at hl 0 rfl) ?_
    obtain ⟨k5, hw⟩ := hw
    refine vk_getf hx hb (hs.1.1.1 _ k5).2.2.1 hC.1.2.2 hown (hts _ mk_f_RJ0_9) (fun _ h => h) dJ0_indexOf_7cf53_24 ?_
    refine lv_iload_n hx hb dJ0_indexOf_7cf53_27 rfl (lo_at hl 1 rfl) ?_
    refine lv_iload_n hx hb dJ0_indexOf_7cf53_28 rfl (lo_at hl 2 rfl) ?_
    refine lv_aload_n hx hb dJ0_indexOf_7cf53_29 rfl (lo_at hl 0 rfl) ?_
    refine res2_i hC (run2_VS (As := []) (rest := [.int x2, .int x1, .ref (G.2.2.2 o)]) hM hC hl.1.1 kv_RJ0_505 (c_J0_length_8abf5 l G base A o h2 _ hw) k5 rfl rfl rfl ⟨Nat.le_of_ble_eq_true rfl, Nat.le_of_ble_eq_true rfl⟩ (Nat.le_of_ble_eq_true rfl) ⟨Nat.le_of_ble_eq_true rfl, Nat.le_of_ble_eq_true rfl⟩ dJ0_indexOf_7cf53_30) (fun z7 h6 H locs hw hC => ?_)
    exact hw.elim
  ·
    replace hw := (if_neg c4).mp hw
    refine lv_aload_n hx hb dJ0_indexOf_7cf53_7 rfl (lo_at hl 0 rfl) ?_
    obtain ⟨k8, hw⟩ := hw
    refine vk_getf hx hb (hs.1.1.1 _ k8).2.2.1 hC.1.2.2 hown (hts _ mk_f_RJ0_9) (fun _ h => h) dJ0_indexOf_7cf53_8 ?_
    refine lv_iload_n hx hb dJ0_indexOf_7cf53_11 rfl (lo_at hl 1 rfl) ?_
    refine lv_iload_n hx hb dJ0_indexOf_7cf53_12 rfl (lo_at hl 2 rfl) ?_
    refine lv_aload_n hx hb dJ0_indexOf_7cf53_13 rfl (lo_at hl 0 rfl) ?_
    refine res2_i hC (run2_VS (As := []) (rest := [.int x2, .int x1, .ref (G.2.2.2 o)]) hM hC hl.1.1 kv_RJ0_505 (c_J0_length_8abf5 l G base A o h2 _ hw) k8 rfl rfl rfl ⟨Nat.le_of_ble_eq_true rfl, Nat.le_of_ble_eq_true rfl⟩ (Nat.le_of_ble_eq_true rfl) ⟨Nat.le_of_ble_eq_true rfl, Nat.le_of_ble_eq_true rfl⟩ dJ0_indexOf_7cf53_14) (fun z10 h9 H locs hw hC => ?_)
    refine res2_i hC (run2_S (As := [.ref (G.2.2.2 o), .int x1, .int x2, .int z10]) (rest := []) hM hC hl.1.1 kv_RJ0_637 (c_J1_indexOf_4cfef l G base A o x1 x2 z10 h9 _ hw) rfl rfl rfl ⟨Nat.le_of_ble_eq_true rfl, Nat.le_of_ble_eq_true rfl⟩ (Nat.le_of_ble_eq_true rfl) ⟨Nat.le_of_ble_eq_true rfl, Nat.le_of_ble_eq_true rfl⟩ dJ0_indexOf_7cf53_17) (fun z12 h11 H locs hw hC => ?_)
    refine lv_goto (tgt := 36) hx hb dJ0_indexOf_7cf53_20 (by decide) ?_
    exact ret2_i hM hC hw dJ0_indexOf_7cf53_36
abbrev rm_X3_judge : Room := { frames := 4, cells := 0, slots := 0, locals := 116 }
set_option maxRecDepth 100000 in
def wp_X3_judge_L114 (o : Nat) (r4 : Option Nat) (K143 : Int32 → Hp → Prop) (K171 : Hp → Prop) (Q : Int32 → Hp → Prop) : Nat → Int32 → Hp → Prop
  | 0, _, _ => False
  | n + 1, x6, h => ((hpK h o).1 = 20 + 2) ∧ (okO h (hpR h o 1) 5 ∧ ((if (hpI h (ad (hpR h o 1)) 7) ≤ x6 then (K171 h) else (okO h r4 8 ∧ (wp_X7_isSo (ad (hpR h o 1)) x6 (hpR h (ad r4) 0) h (fun (z43 : Int32) (h42 : Hp) => (if z43 = 0 then (∀ v45 : Int32, v45 = x6 + (1 : Int32) → (wp_X3_judge_L114 o r4 K143 K171 Q n v45 h42)) else (K143 x6 h42))))))))
set_option maxRecDepth 100000 in
def wp_X3_judge_J76 (o : Nat) (r1 : Option Nat) (r2 : Option Nat) (x3 : Int32) (r4 : Option Nat) (s0 : Int32) (s1 : Int32) (s2 : Option Nat) (Q : Int32 → Hp → Prop) (h : Hp) : Prop := okA h s2 1 s1 ∧ (∀ h24 : Hp, h24 = stI h (ad s2) (s1).toNatClampNeg s0 → (okO h24 r4 8 ∧ (okO h24 r1 0 ∧ (wp_X0_missing (ad r1) h24 (fun (z28 : Int32) (h27 : Hp) => okO h27 r2 0 ∧ (wp_X0_missing (ad r2) h27 (fun (z31 : Int32) (h30 : Hp) => okA h30 (hpR h24 (ad r4) 0) 1 (12 : Int32) ∧ (∀ h33 : Hp, h33 = stI h30 (ad (hpR h24 (ad r4) 0)) ((12 : Int32)).toNatClampNeg (z28 + z31) → (okO h33 r4 8 ∧ ((if x3 = 0 then (okA h33 (hpR h33 (ad r4) 0) 1 (13 : Int32) ∧ (∀ h37 : Hp, h37 = stI h33 (ad (hpR h33 (ad r4) 0)) ((13 : Int32)).toNatClampNeg (0 : Int32) → (wp_X3_judge_L114 o r4 (fun (y47 : Int32) (h46 : Hp) => ((hpK h46 o).1 = 20 + 2) ∧ (okO h46 (hpR h46 o 1) 5 ∧ (okA h46 (hpR h46 (ad (hpR h46 o 1)) 0) 1 y47 ∧ (∀ v51 : Int32, v51 = hpI h46 (ad (hpR h46 (ad (hpR h46 o 1)) 0)) (y47).toNatClampNeg → ((if v51 = (263 : Int32) then (Q (1 : Int32) h46) else (Q (0 : Int32) h46))))))) (fun (h53 : Hp) => Q (2 : Int32) h53) Q fuel (0 : Int32) h37))) else (okA h33 (hpR h33 (ad r4) 0) 1 (13 : Int32) ∧ (∀ h55 : Hp, h55 = stI h33 (ad (hpR h33 (ad r4) 0)) ((13 : Int32)).toNatClampNeg (1 : Int32) → (wp_X3_judge_L114 o r4 (fun (y57 : Int32) (h56 : Hp) => ((hpK h56 o).1 = 20 + 2) ∧ (okO h56 (hpR h56 o 1) 5 ∧ (okA h56 (hpR h56 (ad (hpR h56 o 1)) 0) 1 y57 ∧ (∀ v61 : Int32, v61 = hpI h56 (ad (hpR h56 (ad (hpR h56 o 1)) 0)) (y57).toNatClampNeg → ((if v61 = (263 : Int32) then (Q (1 : Int32) h56) else (Q (0 : Int32) h56))))))) (fun (h63 : Hp) => Q (2 : Int32) h63) Q fuel (0 : Int32) h55))))))))))))))
set_option maxRecDepth 100000 in
def wp_X3_judge (o : Nat) (r1 : Option Nat) (r2 : Option Nat) (x3 : Int32) (r4 : Option Nat) (h : Hp) (Q : Int32 → Hp → Prop) : Prop := ((hpK h o).1 = 20 + 2) ∧ (wp_X3_measured o r1 r2 h (fun (z3 : Int32) (h2 : Hp) => okO h2 r4 8 ∧ (wp_X2_many z3 h2 (fun (z6 : Int32) (h5 : Hp) => okA h5 (hpR h2 (ad r4) 0) 1 (8 : Int32) ∧ (∀ h8 : Hp, h8 = stI h5 (ad (hpR h2 (ad r4) 0)) ((8 : Int32)).toNatClampNeg z6 → (okO h8 r4 8 ∧ (wp_X2_longest z3 h8 (fun (z11 : Int32) (h10 : Hp) => okA h10 (hpR h8 (ad r4) 0) 1 (9 : Int32) ∧ (∀ h13 : Hp, h13 = stI h10 (ad (hpR h8 (ad r4) 0)) ((9 : Int32)).toNatClampNeg z11 → (okO h13 r4 8 ∧ (wp_X2_slide z3 h13 (fun (z16 : Int32) (h15 : Hp) => okA h15 (hpR h13 (ad r4) 0) 1 (10 : Int32) ∧ (∀ h18 : Hp, h18 = stI h15 (ad (hpR h13 (ad r4) 0)) ((10 : Int32)).toNatClampNeg z16 → (okO h18 r4 8 ∧ (((hpK h18 o).1 = 20 + 2) ∧ (okO h18 (hpR h18 o 1) 5 ∧ ((if (hpI h18 (ad (hpR h18 o 1)) 8) = 0 then (wp_X3_judge_J76 o r1 r2 x3 r4 (0 : Int32) (11 : Int32) (hpR h18 (ad r4) 0) Q h18) else (wp_X3_piecesOf o r1 r2 r4 h18 (fun (z65 : Int32) (h64 : Hp) => wp_X3_judge_J76 o r1 r2 x3 r4 z65 (11 : Int32) (hpR h18 (ad r4) 0) Q h64))))))))))))))))))))
set_option maxHeartbeats 4000000 in
set_option maxRecDepth 100000 in
theorem t_X3_judge_L114 {p : Program} {l : Launch} {e : Env} {s : State} {m : MethodId} {args : Array Value} {below : List Frame} {meth : Method} {c : Code} {G : GG} {base : Nat} {A : Nat → Nat} {g0 : Hp} (hM : Mx G base p s m args meth c cX3_judge 7 (some .int) RX3 "judge") (o : Nat) (r4 : Option Nat) (K143 : Int32 → Hp → Prop) (K171 : Hp → Prop) (Q : Int32 → Hp → Prop) (hK143 : ∀ (y6 : Int32) (h : Hp) (H : Heap) (locs : List Loc) (ls : Array Slot), Cx2 G base A g0 A h s.heap H locs → lo_has ls 7 [(0, .ref (A o)), (6, .int y6)] → K143 y6 h → W p l e rm_X3_judge s m args below meth c H locs 0 0 (MQ below (va_Qi Q (PU2 G base A g0 A) (fun q => base ≤ q)) args s 0 0 (fun q => base ≤ q)) (F0 m 143 ls [])) (hK171 : ∀ (h : Hp) (H : Heap) (locs : List Loc) (ls : Array Slot), Cx2 G base A g0 A h s.heap H locs → lo_has ls 7 [] → K171 h → W p l e rm_X3_judge s m args below meth c H locs 0 0 (MQ below (va_Qi Q (PU2 G base A g0 A) (fun q => base ≤ q)) args s 0 0 (fun q => base ≤ q)) (F0 m 171 ls [])) : ∀ (n : Nat) (x6 : Int32) (h : Hp) (H : Heap) (locs : List Loc) (ls : Array Slot), Cx2 G base A g0 A h s.heap H locs → lo_has ls 7 [(0, .ref (A o)), (4, va_rf (Option.map A r4)), (6, .int x6)] → wp_X3_judge_L114 o r4 K143 K171 Q n x6 h → W p l e rm_X3_judge s m args below meth c H locs 0 0 (MQ below (va_Qi Q (PU2 G base A g0 A) (fun q => base ≤ q)) args s 0 0 (fun q => base ≤ q)) (F0 m 114 ls []) := by
  intro n
  induction n with
  | zero =>
    intro x6 h H locs ls hC hl hw
    rw [wp_X3_judge_L114] at hw
    exact hw.elim
  | succ n ih =>
    intro x6 h H locs ls hC hl hw
    rw [wp_X3_judge_L114] at hw
    obtain ⟨hx, hb, hr, hml, hown, hts, hg, hs, hlk, hnm⟩ := id hM
    refine lv_iload hx hb dX3_judge_114 (lo_at hl 2 rfl) ?_
    refine lv_aload_n hx hb dX3_judge_116 rfl (lo_at hl 0 rfl) ?_
    obtain ⟨k38, hw⟩ := hw
    refine s_getR hx hb hts hown hg hC fb_2_1 k38 mk_f_RX3_12 dX3_judge_117 ?_
    obtain ⟨k39, hw⟩ := hw
    refine sf_1 k39.1 ?_
    refine s_getI hx hb hts hown hg hC fb_5_7 k39.2 mk_f_RX3_88 dX3_judge_120 ?_
    refine lv_icmp_ge (tgt := 171) hx hb dX3_judge_123 (by decide) (fun c40 => ?_) (fun c40 => ?_)
    ·
      replace hw := (if_pos c40).mp hw
      exact hK171  h H locs ls hC (lo_sub hl [] rfl) hw
    ·
      replace hw := (if_neg c40).mp hw
      refine lv_aload_n hx hb dX3_judge_126 rfl (lo_at hl 0 rfl) ?_
      refine s_getR hx hb hts hown hg hC fb_2_1 k38 mk_f_RX3_12 dX3_judge_127 ?_
      refine lv_iload hx hb dX3_judge_130 (lo_at hl 2 rfl) ?_
      refine lo_aload (r := Option.map A r4) hx hb dX3_judge_132 (lo_at hl 1 rfl) ?_
      obtain ⟨k41, hw⟩ := hw
      refine sf_1 k41.1 ?_
      refine s_getR hx hb hts hown hg hC fb_8_0 k41.2 mk_f_RX3_65 dX3_judge_134 ?_
      refine sf_3 k39.1 ?_
      refine res2_i hC (run2_V (As := [.int x6, va_rf (Option.map A (hpR h (ad r4) 0))]) (rest := []) hM hC hl.1.1 kv_RX3_91 (c_X7_isSo l G base A (ad (hpR h o 1)) x6 (hpR h (ad r4) 0) h _ hw) (hc_5) k39.2 rfl rfl rfl ⟨Nat.le_of_ble_eq_true rfl, Nat.le_of_ble_eq_true rfl⟩ (Nat.le_of_ble_eq_true rfl) ⟨Nat.le_of_ble_eq_true rfl, Nat.le_of_ble_eq_true rfl⟩ dX3_judge_137) (fun z43 h42 H locs hw hC => ?_)
      refine lv_if_eq (tgt := 165) hx hb dX3_judge_140 (by decide) (fun c44 => ?_) (fun c44 => ?_)
      ·
        replace hw := (if_pos c44).mp hw
        obtain ⟨v45, ev45⟩ : ∃ y : Int32, y = x6 + (1 : Int32) := ⟨_, rfl⟩
        replace hw := hw v45 ev45
        refine lo_iinc (v := v45) (lv' := [(6, .int v45), (0, .ref (A o)), (4, va_rf (Option.map A r4))]) hx hb dX3_judge_165 hl (k := 2) rfl (by rw [ev45]; rfl) (by decide) rfl (fun ls hl => ?_)
        refine lv_goto (tgt := 114) hx hb dX3_judge_168 (by decide) ?_
        exact ih v45 h42 H locs ls hC (lo_sub hl [1, 2, 0] rfl) hw
      ·
        replace hw := (if_neg c44).mp hw
        exact hK143 x6 h42 H locs ls hC (lo_sub hl [0, 2] rfl) hw
set_option maxHeartbeats 4000000 in
set_option maxRecDepth 100000 in
theorem t_X3_judge_J76 {p : Program} {l : Launch} {e : Env} {s : State} {m : MethodId} {args : Array Value} {below : List Frame} {meth : Method} {c : Code} {G : GG} {base : Nat} {A : Nat → Nat} {g0 : Hp} (hM : Mx G base p s m args meth c cX3_judge 7 (some .int) RX3 "judge") (o : Nat) (r1 : Option Nat) (r2 : Option Nat) (x3 : Int32) (r4 : Option Nat) (s0 : Int32) (s1 : Int32) (s2 : Option Nat) (Q : Int32 → Hp → Prop) (h : Hp) (H : Heap) (locs : List Loc) (ls : Array Slot) : Cx2 G base A g0 A h s.heap H locs → lo_has ls 7 [(0, .ref (A o)), (1, va_rf (Option.map A r1)), (2, va_rf (Option.map A r2)), (3, .int x3), (4, va_rf (Option.map A r4))] → wp_X3_judge_J76 o r1 r2 x3 r4 s0 s1 s2 Q h → W p l e rm_X3_judge s m args below meth c H locs 0 0 (MQ below (va_Qi Q (PU2 G base A g0 A) (fun q => base ≤ q)) args s 0 0 (fun q => base ≤ q)) (F0 m 76 ls [.int s0, .int s1, va_rf (Option.map A s2)]) := by
  intro hC hl hw
  unfold wp_X3_judge_J76 at hw
  obtain ⟨hx, hb, hr, hml, hown, hts, hg, hs, hlk, hnm⟩ := id hM
  obtain ⟨k23, hw⟩ := hw
  refine sf_3 k23.1 ?_
  refine s_iast hx hb hg hC k23.2.1 k23.2.2 dX3_judge_76 (fun h24 H locs eh24 hC => ?_)
  replace hw := hw h24 eh24
  refine lo_aload (r := Option.map A r4) hx hb dX3_judge_77 (lo_at hl 4 rfl) ?_
  obtain ⟨k25, hw⟩ := hw
  refine sf_1 k25.1 ?_
  refine s_getR hx hb hts hown hg hC fb_8_0 k25.2 mk_f_RX3_65 dX3_judge_79 ?_
  refine lv_bipush (v := 12) hx hb dX3_judge_82 (by decide) ?_
  refine lo_aload_n (r := Option.map A r1) hx hb dX3_judge_84 rfl (lo_at hl 1 rfl) ?_
  obtain ⟨k26, hw⟩ := hw
  refine sf_1 k26.1 ?_
  refine res2_i hC (run2_V (As := []) (rest := [.int ((12 : Int32)), va_rf (Option.map A (hpR h24 (ad r4) 0))]) hM hC hl.1.1 kv_RX3_84 (c_X0_missing l G base A (ad r1) h24 _ hw) (hc_0) k26.2 rfl rfl rfl ⟨Nat.le_of_ble_eq_true rfl, Nat.le_of_ble_eq_true rfl⟩ (rest_le (List.forall_mem_cons.mpr ⟨rfl, (List.forall_mem_cons.mpr ⟨va_rf_cat _, (fun _ h => absurd h List.not_mem_nil)⟩)⟩) (Nat.le_of_ble_eq_true rfl)) ⟨Nat.le_of_ble_eq_true rfl, Nat.le_of_ble_eq_true rfl⟩ dX3_judge_85) (fun z28 h27 H locs hw hC => ?_)
  refine lo_aload_n (r := Option.map A r2) hx hb dX3_judge_88 rfl (lo_at hl 2 rfl) ?_
  obtain ⟨k29, hw⟩ := hw
  refine sf_1 k29.1 ?_
  refine res2_i hC (run2_V (As := []) (rest := [.int z28, .int ((12 : Int32)), va_rf (Option.map A (hpR h24 (ad r4) 0))]) hM hC hl.1.1 kv_RX3_84 (c_X0_missing l G base A (ad r2) h27 _ hw) (hc_0) k29.2 rfl rfl rfl ⟨Nat.le_of_ble_eq_true rfl, Nat.le_of_ble_eq_true rfl⟩ (rest_le (List.forall_mem_cons.mpr ⟨rfl, (List.forall_mem_cons.mpr ⟨rfl, (List.forall_mem_cons.mpr ⟨va_rf_cat _, (fun _ h => absurd h List.not_mem_nil)⟩)⟩)⟩) (Nat.le_of_ble_eq_true rfl)) ⟨Nat.le_of_ble_eq_true rfl, Nat.le_of_ble_eq_true rfl⟩ dX3_judge_89) (fun z31 h30 H locs hw hC => ?_)
  refine lv_iadd hx hb dX3_judge_92 ?_
  obtain ⟨k32, hw⟩ := hw
  refine sf_3 k32.1 ?_
  refine s_iast hx hb hg hC k32.2.1 k32.2.2 dX3_judge_93 (fun h33 H locs eh33 hC => ?_)
  replace hw := hw h33 eh33
  refine lo_aload (r := Option.map A r4) hx hb dX3_judge_94 (lo_at hl 4 rfl) ?_
  obtain ⟨k34, hw⟩ := hw
  refine sf_1 k34.1 ?_
  refine s_getR hx hb hts hown hg hC fb_8_0 k34.2 mk_f_RX3_65 dX3_judge_96 ?_
  refine lv_bipush (v := 13) hx hb dX3_judge_99 (by decide) ?_
  refine lv_iload_n hx hb dX3_judge_101 rfl (lo_at hl 3 rfl) ?_
  refine lv_if_eq (tgt := 109) hx hb dX3_judge_102 (by decide) (fun c35 => ?_) (fun c35 => ?_)
  ·
    replace hw := (if_pos c35).mp hw
    refine lv_iconst (v := 0) hx hb dX3_judge_109 (by decide) ?_
    obtain ⟨k36, hw⟩ := hw
    refine sf_3 k36.1 ?_
    refine s_iast hx hb hg hC k36.2.1 k36.2.2 dX3_judge_110 (fun h37 H locs eh37 hC => ?_)
    replace hw := hw h37 eh37
    refine lv_iconst (v := 0) hx hb dX3_judge_111 (by decide) ?_
    refine lo_istore (lv' := [(6, .int ((0 : Int32))), (0, .ref (A o)), (1, va_rf (Option.map A r1)), (2, va_rf (Option.map A r2)), (3, .int x3), (4, va_rf (Option.map A r4))]) hx hb dX3_judge_112 hl (by decide) rfl (fun ls hl => ?_)
    refine t_X3_judge_L114 hM o r4 _ _ Q ?_ ?_ fuel (0 : Int32) h37 H locs ls hC (lo_sub hl [1, 5, 0] rfl) hw
    ·
      intro y47 h46 H locs ls hC hl hw
      refine lv_aload_n hx hb dX3_judge_143 rfl (lo_at hl 0 rfl) ?_
      obtain ⟨k48, hw⟩ := hw
      refine s_getR hx hb hts hown hg hC fb_2_1 k48 mk_f_RX3_12 dX3_judge_144 ?_
      obtain ⟨k49, hw⟩ := hw
      refine sf_1 k49.1 ?_
      refine s_getR hx hb hts hown hg hC fb_5_0 k49.2 mk_f_RX3_95 dX3_judge_147 ?_
      refine lv_iload hx hb dX3_judge_150 (lo_at hl 1 rfl) ?_
      obtain ⟨k50, hw⟩ := hw
      refine sf_2 k50.1 ?_
      refine s_iald hx hb hg hC k50.2.1 k50.2.2 dX3_judge_152 ?_
      refine lv_topi (fun v51 ev51 => ?_)
      replace hw := hw v51 ev51
      refine lv_sipush (v := 263) hx hb dX3_judge_153 (by decide) ?_
      refine lv_icmp_ne (tgt := 163) hx hb dX3_judge_156 (by decide) (fun c52 => ?_) (fun c52 => ?_)
      ·
        replace hw := (if_neg c52).mp hw
        refine lv_iconst (v := 0) hx hb dX3_judge_163 (by decide) ?_
        exact ret2_i hM hC hw dX3_judge_164
      ·
        replace hw := (if_pos c52).mp hw
        refine lv_iconst (v := 1) hx hb dX3_judge_159 (by decide) ?_
        refine lv_goto (tgt := 164) hx hb dX3_judge_160 (by decide) ?_
        exact ret2_i hM hC hw dX3_judge_164
    ·
      intro  h53 H locs ls hC hl hw
      refine lv_iconst (v := 2) hx hb dX3_judge_171 (by decide) ?_
      exact ret2_i hM hC hw dX3_judge_172
  ·
    replace hw := (if_neg c35).mp hw
    refine lv_iconst (v := 1) hx hb dX3_judge_105 (by decide) ?_
    refine lv_goto (tgt := 110) hx hb dX3_judge_106 (by decide) ?_
    obtain ⟨k54, hw⟩ := hw
    refine sf_3 k54.1 ?_
    refine s_iast hx hb hg hC k54.2.1 k54.2.2 dX3_judge_110 (fun h55 H locs eh55 hC => ?_)
    replace hw := hw h55 eh55
    refine lv_iconst (v := 0) hx hb dX3_judge_111 (by decide) ?_
    refine lo_istore (lv' := [(6, .int ((0 : Int32))), (0, .ref (A o)), (1, va_rf (Option.map A r1)), (2, va_rf (Option.map A r2)), (3, .int x3), (4, va_rf (Option.map A r4))]) hx hb dX3_judge_112 hl (by decide) rfl (fun ls hl => ?_)
    refine t_X3_judge_L114 hM o r4 _ _ Q ?_ ?_ fuel (0 : Int32) h55 H locs ls hC (lo_sub hl [1, 5, 0] rfl) hw
    ·
      intro y57 h56 H locs ls hC hl hw
      refine lv_aload_n hx hb dX3_judge_143 rfl (lo_at hl 0 rfl) ?_
      obtain ⟨k58, hw⟩ := hw
      refine s_getR hx hb hts hown hg hC fb_2_1 k58 mk_f_RX3_12 dX3_judge_144 ?_
      obtain ⟨k59, hw⟩ := hw
      refine sf_1 k59.1 ?_
      refine s_getR hx hb hts hown hg hC fb_5_0 k59.2 mk_f_RX3_95 dX3_judge_147 ?_
      refine lv_iload hx hb dX3_judge_150 (lo_at hl 1 rfl) ?_
      obtain ⟨k60, hw⟩ := hw
      refine sf_2 k60.1 ?_
      refine s_iald hx hb hg hC k60.2.1 k60.2.2 dX3_judge_152 ?_
      refine lv_topi (fun v61 ev61 => ?_)
      replace hw := hw v61 ev61
      refine lv_sipush (v := 263) hx hb dX3_judge_153 (by decide) ?_
      refine lv_icmp_ne (tgt := 163) hx hb dX3_judge_156 (by decide) (fun c62 => ?_) (fun c62 => ?_)
      ·
        replace hw := (if_neg c62).mp hw
        refine lv_iconst (v := 0) hx hb dX3_judge_163 (by decide) ?_
        exact ret2_i hM hC hw dX3_judge_164
      ·
        replace hw := (if_pos c62).mp hw
        refine lv_iconst (v := 1) hx hb dX3_judge_159 (by decide) ?_
        refine lv_goto (tgt := 164) hx hb dX3_judge_160 (by decide) ?_
        exact ret2_i hM hC hw dX3_judge_164
    ·
      intro  h63 H locs ls hC hl hw
      refine lv_iconst (v := 2) hx hb dX3_judge_171 (by decide) ?_
      exact ret2_i hM hC hw dX3_judge_172
set_option maxHeartbeats 4000000 in
set_option maxRecDepth 100000 in
theorem c_X3_judge (l : Launch) (G : GG) (base : Nat) (A : Nat → Nat) (o : Nat) (r1 : Option Nat) (r2 : Option Nat) (x3 : Int32) (r4 : Option Nat) (h : Hp) (Q : Int32 → Hp → Prop) (hw : wp_X3_judge o r1 r2 x3 r4 h Q) : Met l yX3_judge (ww yX3_judge cX3_judge 7 (some .int)) rm_X3_judge (va_Pc [.ref (A o), va_rf (Option.map A r1), va_rf (Option.map A r2), .int x3, va_rf (Option.map A r4)] (PU2 G base A h A h)) (va_Qi Q (PU2 G base A h A) (fun q => base ≤ q)) 0 0 (fun q => base ≤ q) := by
  refine met2_of (own := RX3) (nm := "judge") (by decide) rfl rfl (List.forall_mem_cons.mpr ⟨rfl, (List.forall_mem_cons.mpr ⟨va_rf_cat _, (List.forall_mem_cons.mpr ⟨va_rf_cat _, (List.forall_mem_cons.mpr ⟨rfl, (List.forall_mem_cons.mpr ⟨va_rf_cat _, (fun _ h => absurd h List.not_mem_nil)⟩)⟩)⟩)⟩)⟩) (Nat.le_of_ble_eq_true rfl) rfl ?_
  intro p e s m args below meth c H locs ls hM hC hl
  obtain ⟨hx, hb, hr, hml, hown, hts, hg, hs, hlk, hnm⟩ := id hM
  unfold wp_X3_judge at hw
  refine lv_aload_n hx hb dX3_judge_0 rfl (lo_at hl 0 rfl) ?_
  refine lo_aload_n (r := Option.map A r1) hx hb dX3_judge_1 rfl (lo_at hl 1 rfl) ?_
  refine lo_aload_n (r := Option.map A r2) hx hb dX3_judge_2 rfl (lo_at hl 2 rfl) ?_
  obtain ⟨k1, hw⟩ := hw
  refine res2_i hC (run2_V (As := [va_rf (Option.map A r1), va_rf (Option.map A r2)]) (rest := []) hM hC hl.1.1 kv_RX3_49 (c_X3_measured l G base A o r1 r2 h _ hw) (hc_2) k1 rfl rfl rfl ⟨Nat.le_of_ble_eq_true rfl, Nat.le_of_ble_eq_true rfl⟩ (Nat.le_of_ble_eq_true rfl) ⟨Nat.le_of_ble_eq_true rfl, Nat.le_of_ble_eq_true rfl⟩ dX3_judge_3) (fun z3 h2 H locs hw hC => ?_)
  refine lo_istore (lv' := [(5, .int z3), (0, .ref (A o)), (1, va_rf (Option.map A r1)), (2, va_rf (Option.map A r2)), (3, .int x3), (4, va_rf (Option.map A r4))]) hx hb dX3_judge_6 hl (by decide) rfl (fun ls hl => ?_)
  refine lo_aload (r := Option.map A r4) hx hb dX3_judge_8 (lo_at hl 5 rfl) ?_
  obtain ⟨k4, hw⟩ := hw
  refine sf_1 k4.1 ?_
  refine s_getR hx hb hts hown hg hC fb_8_0 k4.2 mk_f_RX3_65 dX3_judge_10 ?_
  refine lv_bipush (v := 8) hx hb dX3_judge_13 (by decide) ?_
  refine lv_iload hx hb dX3_judge_15 (lo_at hl 0 rfl) ?_
  refine res2_i hC (run2_S (As := [.int z3]) (rest := [.int ((8 : Int32)), va_rf (Option.map A (hpR h2 (ad r4) 0))]) hM hC hl.1.1 kv_RX3_70 (c_X2_many l G base A z3 h2 _ hw) rfl rfl rfl ⟨Nat.le_of_ble_eq_true rfl, Nat.le_of_ble_eq_true rfl⟩ (rest_le (List.forall_mem_cons.mpr ⟨rfl, (List.forall_mem_cons.mpr ⟨va_rf_cat _, (fun _ h => absurd h List.not_mem_nil)⟩)⟩) (Nat.le_of_ble_eq_true rfl)) ⟨Nat.le_of_ble_eq_true rfl, Nat.le_of_ble_eq_true rfl⟩ dX3_judge_17) (fun z6 h5 H locs hw hC => ?_)
  obtain ⟨k7, hw⟩ := hw
  refine sf_3 k7.1 ?_
  refine s_iast hx hb hg hC k7.2.1 k7.2.2 dX3_judge_20 (fun h8 H locs eh8 hC => ?_)
  replace hw := hw h8 eh8
  refine lo_aload (r := Option.map A r4) hx hb dX3_judge_21 (lo_at hl 5 rfl) ?_
  obtain ⟨k9, hw⟩ := hw
  refine sf_1 k9.1 ?_
  refine s_getR hx hb hts hown hg hC fb_8_0 k9.2 mk_f_RX3_65 dX3_judge_23 ?_
  refine lv_bipush (v := 9) hx hb dX3_judge_26 (by decide) ?_
  refine lv_iload hx hb dX3_judge_28 (lo_at hl 0 rfl) ?_
  refine res2_i hC (run2_S (As := [.int z3]) (rest := [.int ((9 : Int32)), va_rf (Option.map A (hpR h8 (ad r4) 0))]) hM hC hl.1.1 kv_RX3_73 (c_X2_longest l G base A z3 h8 _ hw) rfl rfl rfl ⟨Nat.le_of_ble_eq_true rfl, Nat.le_of_ble_eq_true rfl⟩ (rest_le (List.forall_mem_cons.mpr ⟨rfl, (List.forall_mem_cons.mpr ⟨va_rf_cat _, (fun _ h => absurd h List.not_mem_nil)⟩)⟩) (Nat.le_of_ble_eq_true rfl)) ⟨Nat.le_of_ble_eq_true rfl, Nat.le_of_ble_eq_true rfl⟩ dX3_judge_30) (fun z11 h10 H locs hw hC => ?_)
  obtain ⟨k12, hw⟩ := hw
  refine sf_3 k12.1 ?_
  refine s_iast hx hb hg hC k12.2.1 k12.2.2 dX3_judge_33 (fun h13 H locs eh13 hC => ?_)
  replace hw := hw h13 eh13
  refine lo_aload (r := Option.map A r4) hx hb dX3_judge_34 (lo_at hl 5 rfl) ?_
  obtain ⟨k14, hw⟩ := hw
  refine sf_1 k14.1 ?_
  refine s_getR hx hb hts hown hg hC fb_8_0 k14.2 mk_f_RX3_65 dX3_judge_36 ?_
  refine lv_bipush (v := 10) hx hb dX3_judge_39 (by decide) ?_
  refine lv_iload hx hb dX3_judge_41 (lo_at hl 0 rfl) ?_
  refine res2_i hC (run2_S (As := [.int z3]) (rest := [.int ((10 : Int32)), va_rf (Option.map A (hpR h13 (ad r4) 0))]) hM hC hl.1.1 kv_RX3_53 (c_X2_slide l G base A z3 h13 _ hw) rfl rfl rfl ⟨Nat.le_of_ble_eq_true rfl, Nat.le_of_ble_eq_true rfl⟩ (rest_le (List.forall_mem_cons.mpr ⟨rfl, (List.forall_mem_cons.mpr ⟨va_rf_cat _, (fun _ h => absurd h List.not_mem_nil)⟩)⟩) (Nat.le_of_ble_eq_true rfl)) ⟨Nat.le_of_ble_eq_true rfl, Nat.le_of_ble_eq_true rfl⟩ dX3_judge_43) (fun z16 h15 H locs hw hC => ?_)
  obtain ⟨k17, hw⟩ := hw
  refine sf_3 k17.1 ?_
  refine s_iast hx hb hg hC k17.2.1 k17.2.2 dX3_judge_46 (fun h18 H locs eh18 hC => ?_)
  replace hw := hw h18 eh18
  refine lo_aload (r := Option.map A r4) hx hb dX3_judge_47 (lo_at hl 5 rfl) ?_
  obtain ⟨k19, hw⟩ := hw
  refine sf_1 k19.1 ?_
  refine s_getR hx hb hts hown hg hC fb_8_0 k19.2 mk_f_RX3_65 dX3_judge_49 ?_
  refine lv_bipush (v := 11) hx hb dX3_judge_52 (by decide) ?_
  refine lv_aload_n hx hb dX3_judge_54 rfl (lo_at hl 1 rfl) ?_
  obtain ⟨k20, hw⟩ := hw
  refine s_getR hx hb hts hown hg hC fb_2_1 k20 mk_f_RX3_12 dX3_judge_55 ?_
  obtain ⟨k21, hw⟩ := hw
  refine sf_1 k21.1 ?_
  refine s_getI hx hb hts hown hg hC fb_5_8 k21.2 mk_f_RX3_76 dX3_judge_58 ?_
  refine lv_if_eq (tgt := 75) hx hb dX3_judge_61 (by decide) (fun c22 => ?_) (fun c22 => ?_)
  ·
    replace hw := (if_pos c22).mp hw
    refine lv_iconst (v := 0) hx hb dX3_judge_75 (by decide) ?_
    exact t_X3_judge_J76 hM o r1 r2 x3 r4 (0 : Int32) (11 : Int32) (hpR h18 (ad r4) 0) Q  h18 H locs ls hC (lo_sub hl [1, 2, 3, 4, 5] rfl) hw
  ·
    replace hw := (if_neg c22).mp hw
    refine lv_aload_n hx hb dX3_judge_64 rfl (lo_at hl 1 rfl) ?_
    refine lo_aload_n (r := Option.map A r1) hx hb dX3_judge_65 rfl (lo_at hl 2 rfl) ?_
    refine lo_aload_n (r := Option.map A r2) hx hb dX3_judge_66 rfl (lo_at hl 3 rfl) ?_
    refine lo_aload (r := Option.map A r4) hx hb dX3_judge_67 (lo_at hl 5 rfl) ?_
    refine res2_i hC (run2_V (As := [va_rf (Option.map A r1), va_rf (Option.map A r2), va_rf (Option.map A r4)]) (rest := [.int ((11 : Int32)), va_rf (Option.map A (hpR h18 (ad r4) 0))]) hM hC hl.1.1 kv_RX3_80 (c_X3_piecesOf l G base A o r1 r2 r4 h18 _ hw) (hc_2) k20 rfl rfl rfl ⟨Nat.le_of_ble_eq_true rfl, Nat.le_of_ble_eq_true rfl⟩ (rest_le (List.forall_mem_cons.mpr ⟨rfl, (List.forall_mem_cons.mpr ⟨va_rf_cat _, (fun _ h => absurd h List.not_mem_nil)⟩)⟩) (Nat.le_of_ble_eq_true rfl)) ⟨Nat.le_of_ble_eq_true rfl, Nat.le_of_ble_eq_true rfl⟩ dX3_judge_69) (fun z65 h64 H locs hw hC => ?_)
    refine lv_goto (tgt := 76) hx hb dX3_judge_72 (by decide) ?_
    exact t_X3_judge_J76 hM o r1 r2 x3 r4 z65 (11 : Int32) (hpR h18 (ad r4) 0) Q  h64 H locs ls hC (lo_sub hl [1, 2, 3, 4, 5] rfl) hw
abbrev rm_X5_readSum : Room := { frames := 3, cells := 0, slots := 0, locals := 64 }
set_option maxRecDepth 100000 in
def wp_X5_readSum_J31 (o : Nat) (x1 : Int32) (KH : Int32 → Hp → Prop) (K64 : Hp → Prop) (Q : Hp → Prop) (h : Hp) : Prop := ((hpK h o).1 = 20 + 4) ∧ (wp_X5_kind o h (fun (z11 : Int32) (h10 : Hp) => ((hpK h10 o).1 = 20 + 4) ∧ (∀ h13 : Hp, h13 = stI h10 o 5 ((hpI h10 o 5) + (1 : Int32)) → (((hpK h13 o).1 = 20 + 4) ∧ (wp_X5_readProduct o h13 (fun (h15 : Hp) => ((hpK h15 o).1 = 20 + 4) ∧ (okO h15 (hpR h15 o 3) 5 ∧ (wp_X7_put (ad (hpR h15 o 3)) z11 h15 (fun (h19 : Hp) => ∀ v21 : Int32, v21 = x1 + (1 : Int32) → (KH v21 h19))))))))))
set_option maxRecDepth 100000 in
def wp_X5_readSum_L6 (o : Nat) (K64 : Hp → Prop) (Q : Hp → Prop) : Nat → Int32 → Hp → Prop
  | 0, _, _ => False
  | n + 1, x1, h => (if (600 : Int32) ≤ x1 then (K64 h) else (((hpK h o).1 = 20 + 4) ∧ (wp_X5_kind o h (fun (z7 : Int32) (h6 : Hp) => (if z7 = (43 : Int32) then (wp_X5_readSum_J31 o x1 (wp_X5_readSum_L6 o K64 Q n) K64 Q h6) else (((hpK h6 o).1 = 20 + 4) ∧ (wp_X5_kind o h6 (fun (z24 : Int32) (h23 : Hp) => (if z24 = (45 : Int32) then (wp_X5_readSum_J31 o x1 (wp_X5_readSum_L6 o K64 Q n) K64 Q h23) else (K64 h23))))))))))
set_option maxRecDepth 100000 in
def wp_X5_readSum (o : Nat) (h : Hp) (Q : Hp → Prop) : Prop := ((hpK h o).1 = 20 + 4) ∧ (wp_X5_readProduct o h (fun (h2 : Hp) => wp_X5_readSum_L6 o (fun (h26 : Hp) => Q h26) Q fuel (0 : Int32) h2))
set_option maxHeartbeats 4000000 in
set_option maxRecDepth 100000 in
theorem t_X5_readSum_J31 {p : Program} {l : Launch} {e : Env} {s : State} {m : MethodId} {args : Array Value} {below : List Frame} {meth : Method} {c : Code} {G : GG} {base : Nat} {A : Nat → Nat} {g0 : Hp} (hM : Mx G base p s m args meth c cX5_readSum 3 none RX5 "readSum") (o : Nat) (x1 : Int32) (KH : Int32 → Hp → Prop) (K64 : Hp → Prop) (Q : Hp → Prop) (hKH : ∀ (y1 : Int32) (h : Hp) (H : Heap) (locs : List Loc) (ls : Array Slot), Cx2 G base A g0 A h s.heap H locs → lo_has ls 3 [(0, .ref (A o)), (1, .int y1)] → KH y1 h → W p l e rm_X5_readSum s m args below meth c H locs 0 0 (MQ below (va_Qv Q (PU2 G base A g0 A) (fun q => base ≤ q)) args s 0 0 (fun q => base ≤ q)) (F0 m 6 ls [])) (hK64 : ∀ (h : Hp) (H : Heap) (locs : List Loc) (ls : Array Slot), Cx2 G base A g0 A h s.heap H locs → lo_has ls 3 [] → K64 h → W p l e rm_X5_readSum s m args below meth c H locs 0 0 (MQ below (va_Qv Q (PU2 G base A g0 A) (fun q => base ≤ q)) args s 0 0 (fun q => base ≤ q)) (F0 m 64 ls [])) (h : Hp) (H : Heap) (locs : List Loc) (ls : Array Slot) : Cx2 G base A g0 A h s.heap H locs → lo_has ls 3 [(0, .ref (A o)), (1, .int x1)] → wp_X5_readSum_J31 o x1 KH K64 Q h → W p l e rm_X5_readSum s m args below meth c H locs 0 0 (MQ below (va_Qv Q (PU2 G base A g0 A) (fun q => base ≤ q)) args s 0 0 (fun q => base ≤ q)) (F0 m 31 ls []) := by
  intro hC hl hw
  unfold wp_X5_readSum_J31 at hw
  obtain ⟨hx, hb, hr, hml, hown, hts, hg, hs, hlk, hnm⟩ := id hM
  refine lv_aload_n hx hb dX5_readSum_31 rfl (lo_at hl 0 rfl) ?_
  obtain ⟨k9, hw⟩ := hw
  refine res2_i hC (run2_V (As := []) (rest := []) hM hC hl.1.1 kv_RX5_44 (c_X5_kind l G base A o h _ hw) (hc_4) k9 rfl rfl rfl ⟨Nat.le_of_ble_eq_true rfl, Nat.le_of_ble_eq_true rfl⟩ (Nat.le_of_ble_eq_true rfl) ⟨Nat.le_of_ble_eq_true rfl, Nat.le_of_ble_eq_true rfl⟩ dX5_readSum_32) (fun z11 h10 H locs hw hC => ?_)
  refine lo_istore_n (lv' := [(2, .int z11), (0, .ref (A o)), (1, .int x1)]) hx hb dX5_readSum_35 rfl hl (by decide) rfl (fun ls hl => ?_)
  refine lv_aload_n hx hb dX5_readSum_36 rfl (lo_at hl 1 rfl) ?_
  refine lv_dup hx hb dX5_readSum_37 rfl ?_
  obtain ⟨k12, hw⟩ := hw
  refine s_getI hx hb hts hown hg hC fb_4_5 k12 mk_f_RX5_30 dX5_readSum_38 ?_
  refine lv_iconst (v := 1) hx hb dX5_readSum_41 (by decide) ?_
  refine lv_iadd hx hb dX5_readSum_42 ?_
  refine s_putI hx hb hts hown hg hC fb_4_5 k12 rfl rfl mk_f_RX5_30 dX5_readSum_43 (fun h13 H locs eh13 hC => ?_)
  replace hw := hw h13 eh13
  refine lv_aload_n hx hb dX5_readSum_46 rfl (lo_at hl 1 rfl) ?_
  obtain ⟨k14, hw⟩ := hw
  refine res2_v hC (run2_V (As := []) (rest := []) hM hC hl.1.1 kv_RX5_100 (c_X5_readProduct l G base A o h13 _ hw) (hc_4) k14 rfl rfl rfl ⟨Nat.le_of_ble_eq_true rfl, Nat.le_of_ble_eq_true rfl⟩ (Nat.le_of_ble_eq_true rfl) ⟨Nat.le_of_ble_eq_true rfl, Nat.le_of_ble_eq_true rfl⟩ dX5_readSum_47) (fun h15 H locs hw hC => ?_)
  refine lv_aload_n hx hb dX5_readSum_50 rfl (lo_at hl 1 rfl) ?_
  obtain ⟨k17, hw⟩ := hw
  refine s_getR hx hb hts hown hg hC fb_4_3 k17 mk_f_RX5_18 dX5_readSum_51 ?_
  refine lv_iload_n hx hb dX5_readSum_54 rfl (lo_at hl 0 rfl) ?_
  obtain ⟨k18, hw⟩ := hw
  refine sf_2 k18.1 ?_
  refine res2_v hC (run2_V (As := [.int z11]) (rest := []) hM hC hl.1.1 kv_RX5_94 (c_X7_put l G base A (ad (hpR h15 o 3)) z11 h15 _ hw) (hc_5) k18.2 rfl rfl rfl ⟨Nat.le_of_ble_eq_true rfl, Nat.le_of_ble_eq_true rfl⟩ (Nat.le_of_ble_eq_true rfl) ⟨Nat.le_of_ble_eq_true rfl, Nat.le_of_ble_eq_true rfl⟩ dX5_readSum_55) (fun h19 H locs hw hC => ?_)
  obtain ⟨v21, ev21⟩ : ∃ y : Int32, y = x1 + (1 : Int32) := ⟨_, rfl⟩
  replace hw := hw v21 ev21
  refine lo_iinc (v := v21) (lv' := [(1, .int v21), (2, .int z11), (0, .ref (A o))]) hx hb dX5_readSum_58 hl (k := 2) rfl (by rw [ev21]; rfl) (by decide) rfl (fun ls hl => ?_)
  refine lv_goto (tgt := 6) hx hb dX5_readSum_61 (by decide) ?_
  exact hKH v21 h19 H locs ls hC (lo_sub hl [2, 0] rfl) hw
set_option maxHeartbeats 4000000 in
set_option maxRecDepth 100000 in
theorem t_X5_readSum_L6 {p : Program} {l : Launch} {e : Env} {s : State} {m : MethodId} {args : Array Value} {below : List Frame} {meth : Method} {c : Code} {G : GG} {base : Nat} {A : Nat → Nat} {g0 : Hp} (hM : Mx G base p s m args meth c cX5_readSum 3 none RX5 "readSum") (o : Nat) (K64 : Hp → Prop) (Q : Hp → Prop) (hK64 : ∀ (h : Hp) (H : Heap) (locs : List Loc) (ls : Array Slot), Cx2 G base A g0 A h s.heap H locs → lo_has ls 3 [] → K64 h → W p l e rm_X5_readSum s m args below meth c H locs 0 0 (MQ below (va_Qv Q (PU2 G base A g0 A) (fun q => base ≤ q)) args s 0 0 (fun q => base ≤ q)) (F0 m 64 ls [])) : ∀ (n : Nat) (x1 : Int32) (h : Hp) (H : Heap) (locs : List Loc) (ls : Array Slot), Cx2 G base A g0 A h s.heap H locs → lo_has ls 3 [(0, .ref (A o)), (1, .int x1)] → wp_X5_readSum_L6 o K64 Q n x1 h → W p l e rm_X5_readSum s m args below meth c H locs 0 0 (MQ below (va_Qv Q (PU2 G base A g0 A) (fun q => base ≤ q)) args s 0 0 (fun q => base ≤ q)) (F0 m 6 ls []) := by
  intro n
  induction n with
  | zero =>
    intro x1 h H locs ls hC hl hw
    rw [wp_X5_readSum_L6] at hw
    exact hw.elim
  | succ n ih =>
    intro x1 h H locs ls hC hl hw
    rw [wp_X5_readSum_L6] at hw
    obtain ⟨hx, hb, hr, hml, hown, hts, hg, hs, hlk, hnm⟩ := id hM
    refine lv_iload_n hx hb dX5_readSum_6 rfl (lo_at hl 1 rfl) ?_
    refine lv_sipush (v := 600) hx hb dX5_readSum_7 (by decide) ?_
    refine lv_icmp_ge (tgt := 64) hx hb dX5_readSum_10 (by decide) (fun c4 => ?_) (fun c4 => ?_)
    ·
      replace hw := (if_pos c4).mp hw
      exact hK64  h H locs ls hC (lo_sub hl [] rfl) hw
    ·
      replace hw := (if_neg c4).mp hw
      refine lv_aload_n hx hb dX5_readSum_13 rfl (lo_at hl 0 rfl) ?_
      obtain ⟨k5, hw⟩ := hw
      refine res2_i hC (run2_V (As := []) (rest := []) hM hC hl.1.1 kv_RX5_44 (c_X5_kind l G base A o h _ hw) (hc_4) k5 rfl rfl rfl ⟨Nat.le_of_ble_eq_true rfl, Nat.le_of_ble_eq_true rfl⟩ (Nat.le_of_ble_eq_true rfl) ⟨Nat.le_of_ble_eq_true rfl, Nat.le_of_ble_eq_true rfl⟩ dX5_readSum_14) (fun z7 h6 H locs hw hC => ?_)
      refine lv_bipush (v := 43) hx hb dX5_readSum_17 (by decide) ?_
      refine lv_icmp_eq (tgt := 31) hx hb dX5_readSum_19 (by decide) (fun c8 => ?_) (fun c8 => ?_)
      ·
        replace hw := (if_pos c8).mp hw
        exact t_X5_readSum_J31 hM o x1 (wp_X5_readSum_L6 o K64 Q n) K64 Q ih hK64 h6 H locs ls hC (lo_sub hl [0, 1] rfl) hw
      ·
        replace hw := (if_neg c8).mp hw
        refine lv_aload_n hx hb dX5_readSum_22 rfl (lo_at hl 0 rfl) ?_
        obtain ⟨k22, hw⟩ := hw
        refine res2_i hC (run2_V (As := []) (rest := []) hM hC hl.1.1 kv_RX5_44 (c_X5_kind l G base A o h6 _ hw) (hc_4) k22 rfl rfl rfl ⟨Nat.le_of_ble_eq_true rfl, Nat.le_of_ble_eq_true rfl⟩ (Nat.le_of_ble_eq_true rfl) ⟨Nat.le_of_ble_eq_true rfl, Nat.le_of_ble_eq_true rfl⟩ dX5_readSum_23) (fun z24 h23 H locs hw hC => ?_)
        refine lv_bipush (v := 45) hx hb dX5_readSum_26 (by decide) ?_
        refine lv_icmp_ne (tgt := 64) hx hb dX5_readSum_28 (by decide) (fun c25 => ?_) (fun c25 => ?_)
        ·
          replace hw := (if_neg c25).mp hw
          exact hK64  h23 H locs ls hC (lo_sub hl [] rfl) hw
        ·
          replace hw := (if_pos c25).mp hw
          exact t_X5_readSum_J31 hM o x1 (wp_X5_readSum_L6 o K64 Q n) K64 Q ih hK64 h23 H locs ls hC (lo_sub hl [0, 1] rfl) hw
set_option maxHeartbeats 4000000 in
set_option maxRecDepth 100000 in
theorem c_X5_readSum (l : Launch) (G : GG) (base : Nat) (A : Nat → Nat) (o : Nat) (h : Hp) (Q : Hp → Prop) (hw : wp_X5_readSum o h Q) : Met l yX5_readSum (ww yX5_readSum cX5_readSum 3 none) rm_X5_readSum (va_Pc [.ref (A o)] (PU2 G base A h A h)) (va_Qv Q (PU2 G base A h A) (fun q => base ≤ q)) 0 0 (fun q => base ≤ q) := by
  refine met2_of (own := RX5) (nm := "readSum") (by decide) rfl rfl (List.forall_mem_cons.mpr ⟨rfl, (fun _ h => absurd h List.not_mem_nil)⟩) (Nat.le_of_ble_eq_true rfl) rfl ?_
  intro p e s m args below meth c H locs ls hM hC hl
  obtain ⟨hx, hb, hr, hml, hown, hts, hg, hs, hlk, hnm⟩ := id hM
  unfold wp_X5_readSum at hw
  refine lv_aload_n hx hb dX5_readSum_0 rfl (lo_at hl 0 rfl) ?_
  obtain ⟨k1, hw⟩ := hw
  refine res2_v hC (run2_V (As := []) (rest := []) hM hC hl.1.1 kv_RX5_100 (c_X5_readProduct l G base A o h _ hw) (hc_4) k1 rfl rfl rfl ⟨Nat.le_of_ble_eq_true rfl, Nat.le_of_ble_eq_true rfl⟩ (Nat.le_of_ble_eq_true rfl) ⟨Nat.le_of_ble_eq_true rfl, Nat.le_of_ble_eq_true rfl⟩ dX5_readSum_1) (fun h2 H locs hw hC => ?_)
  refine lv_iconst (v := 0) hx hb dX5_readSum_4 (by decide) ?_
  refine lo_istore_n (lv' := [(1, .int ((0 : Int32))), (0, .ref (A o))]) hx hb dX5_readSum_5 rfl hl (by decide) rfl (fun ls hl => ?_)
  refine t_X5_readSum_L6 hM o _ Q ?_ fuel (0 : Int32) h2 H locs ls hC (lo_sub hl [1, 0] rfl) hw
  intro  h26 H locs ls hC hl hw
  exact ret2_v hM hC hw dX5_readSum_64
abbrev rm_X7_change : Room := { frames := 4, cells := 0, slots := 0, locals := 94 }
set_option maxRecDepth 100000 in
def wp_X7_change_L19 (o : Nat) (r1 : Option Nat) (x2 : Int32) (r4 : Option Nat) (K72 : Int32 → Hp → Prop) (Q : Int32 → Hp → Prop) : Nat → Int32 → Int32 → Hp → Prop
  | 0, _, _, _ => False
  | n + 1, x5, x6, h => (if (32 : Int32) ≤ x6 then (K72 x5 h) else (∀ v5 : Int32, v5 = ((1664525 : Int32) * x5) + (1013904223 : Int32) → (okO h r4 8 ∧ (wp_X10_tellHair (ad r4) x6 (((v5).toUInt32 >>> (((28 : Int32)).toUInt32 &&& Int32.toUInt32 31)).toInt32) h (fun (h7 : Hp) => okA h7 r1 1 x6 ∧ (∀ v10 : Int32, v10 = hpI h7 (ad r1) (x6).toNatClampNeg → (okO h7 r4 8 ∧ (((hpK h7 o).1 = 20 + 5) ∧ (wp_X7_newHeight o x2 v10 (hpR h7 (ad r4) 0) h7 (fun (z14 : Int32) (h13 : Hp) => okA h13 r1 1 x6 ∧ (∀ h16 : Hp, h16 = stI h13 (ad r1) (x6).toNatClampNeg z14 → (∀ v17 : Int32, v17 = x6 + (1 : Int32) → (wp_X7_change_L19 o r1 x2 r4 K72 Q n v5 v17 h16)))))))))))))
set_option maxRecDepth 100000 in
def wp_X7_change (o : Nat) (r1 : Option Nat) (x2 : Int32) (x3 : Int32) (r4 : Option Nat) (h : Hp) (Q : Int32 → Hp → Prop) : Prop := okO h r4 8 ∧ (okC h r1 (0 : Int32) (hpR h (ad r4) 1) (0 : Int32) (32 : Int32) ∧ (∀ h3 : Hp, h3 = cpI h (ad r1) (ad (hpR h (ad r4) 1)) ((0 : Int32)).toNatClampNeg ((0 : Int32)).toNatClampNeg ((32 : Int32)).toNatClampNeg → (wp_X7_change_L19 o r1 x2 r4 (fun (y19 : Int32) (h18 : Hp) => Q y19 h18) Q fuel x3 (0 : Int32) h3)))
set_option maxHeartbeats 4000000 in
set_option maxRecDepth 100000 in
theorem t_X7_change_L19 {p : Program} {l : Launch} {e : Env} {s : State} {m : MethodId} {args : Array Value} {below : List Frame} {meth : Method} {c : Code} {G : GG} {base : Nat} {A : Nat → Nat} {g0 : Hp} (hM : Mx G base p s m args meth c cX7_change 7 (some .int) RX7 "change") (o : Nat) (r1 : Option Nat) (x2 : Int32) (r4 : Option Nat) (K72 : Int32 → Hp → Prop) (Q : Int32 → Hp → Prop) (hK72 : ∀ (y5 : Int32) (h : Hp) (H : Heap) (locs : List Loc) (ls : Array Slot), Cx2 G base A g0 A h s.heap H locs → lo_has ls 7 [(5, .int y5)] → K72 y5 h → W p l e rm_X7_change s m args below meth c H locs 0 0 (MQ below (va_Qi Q (PU2 G base A g0 A) (fun q => base ≤ q)) args s 0 0 (fun q => base ≤ q)) (F0 m 72 ls [])) : ∀ (n : Nat) (x5 : Int32) (x6 : Int32) (h : Hp) (H : Heap) (locs : List Loc) (ls : Array Slot), Cx2 G base A g0 A h s.heap H locs → lo_has ls 7 [(0, .ref (A o)), (1, va_rf (Option.map A r1)), (2, .int x2), (4, va_rf (Option.map A r4)), (5, .int x5), (6, .int x6)] → wp_X7_change_L19 o r1 x2 r4 K72 Q n x5 x6 h → W p l e rm_X7_change s m args below meth c H locs 0 0 (MQ below (va_Qi Q (PU2 G base A g0 A) (fun q => base ≤ q)) args s 0 0 (fun q => base ≤ q)) (F0 m 19 ls []) := by
  intro n
  induction n with
  | zero =>
    intro x5 x6 h H locs ls hC hl hw
    rw [wp_X7_change_L19] at hw
    exact hw.elim
  | succ n ih =>
    intro x5 x6 h H locs ls hC hl hw
    rw [wp_X7_change_L19] at hw
    obtain ⟨hx, hb, hr, hml, hown, hts, hg, hs, hlk, hnm⟩ := id hM
    refine lv_iload hx hb dX7_change_19 (lo_at hl 5 rfl) ?_
    refine lv_bipush (v := 32) hx hb dX7_change_21 (by decide) ?_
    refine lv_icmp_ge (tgt := 72) hx hb dX7_change_23 (by decide) (fun c4 => ?_) (fun c4 => ?_)
    ·
      replace hw := (if_pos c4).mp hw
      exact hK72 x5 h H locs ls hC (lo_sub hl [4] rfl) hw
    ·
      replace hw := (if_neg c4).mp hw
      refine lv_ldc (v := 1664525) hx hb hown (hts _ mk_k_RX7_60) dX7_change_26 ?_
      refine lv_iload hx hb dX7_change_28 (lo_at hl 4 rfl) ?_
      refine lv_imul hx hb dX7_change_30 ?_
      refine lv_ldc (v := 1013904223) hx hb hown (hts _ mk_k_RX7_61) dX7_change_31 ?_
      refine lv_iadd hx hb dX7_change_33 ?_
      refine lv_topi (fun v5 ev5 => ?_)
      replace hw := hw v5 ev5
      refine lo_istore (lv' := [(5, .int v5), (0, .ref (A o)), (1, va_rf (Option.map A r1)), (2, .int x2), (4, va_rf (Option.map A r4)), (6, .int x6)]) hx hb dX7_change_34 hl (by decide) rfl (fun ls hl => ?_)
      refine lo_aload (r := Option.map A r4) hx hb dX7_change_36 (lo_at hl 4 rfl) ?_
      refine lv_iload hx hb dX7_change_38 (lo_at hl 5 rfl) ?_
      refine lv_iload hx hb dX7_change_40 (lo_at hl 0 rfl) ?_
      refine lv_bipush (v := 28) hx hb dX7_change_42 (by decide) ?_
      refine lv_iushr hx hb dX7_change_44 (v := ((v5).toUInt32 >>> (((28 : Int32)).toUInt32 &&& Int32.toUInt32 31)).toInt32) rfl ?_
      obtain ⟨k6, hw⟩ := hw
      refine sf_3 k6.1 ?_
      refine res2_v hC (run2_V (As := [.int x6, .int (((v5).toUInt32 >>> (((28 : Int32)).toUInt32 &&& Int32.toUInt32 31)).toInt32)]) (rest := []) hM hC hl.1.1 kv_RX7_62 (c_X10_tellHair l G base A (ad r4) x6 (((v5).toUInt32 >>> (((28 : Int32)).toUInt32 &&& Int32.toUInt32 31)).toInt32) h _ hw) (hc_8) k6.2 rfl rfl rfl ⟨Nat.le_of_ble_eq_true rfl, Nat.le_of_ble_eq_true rfl⟩ (Nat.le_of_ble_eq_true rfl) ⟨Nat.le_of_ble_eq_true rfl, Nat.le_of_ble_eq_true rfl⟩ dX7_change_45) (fun h7 H locs hw hC => ?_)
      refine lo_aload_n (r := Option.map A r1) hx hb dX7_change_48 rfl (lo_at hl 2 rfl) ?_
      refine lv_iload hx hb dX7_change_49 (lo_at hl 5 rfl) ?_
      refine lv_aload_n hx hb dX7_change_51 rfl (lo_at hl 1 rfl) ?_
      refine lv_iload_n hx hb dX7_change_52 rfl (lo_at hl 3 rfl) ?_
      refine lo_aload_n (r := Option.map A r1) hx hb dX7_change_53 rfl (lo_at hl 2 rfl) ?_
      refine lv_iload hx hb dX7_change_54 (lo_at hl 5 rfl) ?_
      obtain ⟨k9, hw⟩ := hw
      refine sf_2 k9.1 ?_
      refine s_iald hx hb hg hC k9.2.1 k9.2.2 dX7_change_56 ?_
      refine lv_topi (fun v10 ev10 => ?_)
      replace hw := hw v10 ev10
      refine lo_aload (r := Option.map A r4) hx hb dX7_change_57 (lo_at hl 4 rfl) ?_
      obtain ⟨k11, hw⟩ := hw
      refine sf_1 k11.1 ?_
      refine s_getR hx hb hts hown hg hC fb_8_0 k11.2 mk_f_RX7_66 dX7_change_59 ?_
      obtain ⟨k12, hw⟩ := hw
      refine res2_i hC (run2_V (As := [.int x2, .int v10, va_rf (Option.map A (hpR h7 (ad r4) 0))]) (rest := [.int x6, va_rf (Option.map A r1)]) hM hC hl.1.1 kv_RX7_69 (c_X7_newHeight l G base A o x2 v10 (hpR h7 (ad r4) 0) h7 _ hw) (hc_5) k12 rfl rfl rfl ⟨Nat.le_of_ble_eq_true rfl, Nat.le_of_ble_eq_true rfl⟩ (rest_le (List.forall_mem_cons.mpr ⟨rfl, (List.forall_mem_cons.mpr ⟨va_rf_cat _, (fun _ h => absurd h List.not_mem_nil)⟩)⟩) (Nat.le_of_ble_eq_true rfl)) ⟨Nat.le_of_ble_eq_true rfl, Nat.le_of_ble_eq_true rfl⟩ dX7_change_62) (fun z14 h13 H locs hw hC => ?_)
      obtain ⟨k15, hw⟩ := hw
      refine sf_3 k15.1 ?_
      refine s_iast hx hb hg hC k15.2.1 k15.2.2 dX7_change_65 (fun h16 H locs eh16 hC => ?_)
      replace hw := hw h16 eh16
      obtain ⟨v17, ev17⟩ : ∃ y : Int32, y = x6 + (1 : Int32) := ⟨_, rfl⟩
      replace hw := hw v17 ev17
      refine lo_iinc (v := v17) (lv' := [(6, .int v17), (5, .int v5), (0, .ref (A o)), (1, va_rf (Option.map A r1)), (2, .int x2), (4, va_rf (Option.map A r4))]) hx hb dX7_change_66 hl (k := 5) rfl (by rw [ev17]; rfl) (by decide) rfl (fun ls hl => ?_)
      refine lv_goto (tgt := 19) hx hb dX7_change_69 (by decide) ?_
      exact ih v5 v17 h16 H locs ls hC (lo_sub hl [2, 3, 4, 5, 1, 0] rfl) hw
set_option maxHeartbeats 4000000 in
set_option maxRecDepth 100000 in
theorem c_X7_change (l : Launch) (G : GG) (base : Nat) (A : Nat → Nat) (o : Nat) (r1 : Option Nat) (x2 : Int32) (x3 : Int32) (r4 : Option Nat) (h : Hp) (Q : Int32 → Hp → Prop) (hw : wp_X7_change o r1 x2 x3 r4 h Q) : Met l yX7_change (ww yX7_change cX7_change 7 (some .int)) rm_X7_change (va_Pc [.ref (A o), va_rf (Option.map A r1), .int x2, .int x3, va_rf (Option.map A r4)] (PU2 G base A h A h)) (va_Qi Q (PU2 G base A h A) (fun q => base ≤ q)) 0 0 (fun q => base ≤ q) := by
  refine met2_of (own := RX7) (nm := "change") (by decide) rfl rfl (List.forall_mem_cons.mpr ⟨rfl, (List.forall_mem_cons.mpr ⟨va_rf_cat _, (List.forall_mem_cons.mpr ⟨rfl, (List.forall_mem_cons.mpr ⟨rfl, (List.forall_mem_cons.mpr ⟨va_rf_cat _, (fun _ h => absurd h List.not_mem_nil)⟩)⟩)⟩)⟩)⟩) (Nat.le_of_ble_eq_true rfl) rfl ?_
  intro p e s m args below meth c H locs ls hM hC hl
  obtain ⟨hx, hb, hr, hml, hown, hts, hg, hs, hlk, hnm⟩ := id hM
  unfold wp_X7_change at hw
  refine lv_iload_n hx hb dX7_change_0 rfl (lo_at hl 3 rfl) ?_
  refine lo_istore (lv' := [(5, .int x3), (0, .ref (A o)), (1, va_rf (Option.map A r1)), (2, .int x2), (3, .int x3), (4, va_rf (Option.map A r4))]) hx hb dX7_change_1 hl (by decide) rfl (fun ls hl => ?_)
  refine lo_aload_n (r := Option.map A r1) hx hb dX7_change_3 rfl (lo_at hl 2 rfl) ?_
  refine lv_iconst (v := 0) hx hb dX7_change_4 (by decide) ?_
  refine lo_aload (r := Option.map A r4) hx hb dX7_change_5 (lo_at hl 5 rfl) ?_
  obtain ⟨k1, hw⟩ := hw
  refine sf_1 k1.1 ?_
  refine s_getR hx hb hts hown hg hC fb_8_1 k1.2 mk_f_RX7_49 dX7_change_7 ?_
  refine lv_iconst (v := 0) hx hb dX7_change_10 (by decide) ?_
  refine lv_bipush (v := 32) hx hb dX7_change_11 (by decide) ?_
  obtain ⟨k2, hw⟩ := hw
  refine sf_3 k2.2.2.1 ?_
  refine sf_5 k2.1 ?_
  refine s_copy hM hC (by rw [hml]; exact hl.1.1.symm) mk_m_RX7_54 k2 (Nat.le_of_ble_eq_true rfl) (Nat.le_of_ble_eq_true rfl) dX7_change_13 (fun h3 H locs eh3 hC => ?_)
  replace hw := hw h3 eh3
  refine lv_iconst (v := 0) hx hb dX7_change_16 (by decide) ?_
  refine lo_istore (lv' := [(6, .int ((0 : Int32))), (5, .int x3), (0, .ref (A o)), (1, va_rf (Option.map A r1)), (2, .int x2), (3, .int x3), (4, va_rf (Option.map A r4))]) hx hb dX7_change_17 hl (by decide) rfl (fun ls hl => ?_)
  refine t_X7_change_L19 hM o r1 x2 r4 _ Q ?_ fuel x3 (0 : Int32) h3 H locs ls hC (lo_sub hl [2, 3, 4, 6, 1, 0] rfl) hw
  intro y19 h18 H locs ls hC hl hw
  refine lv_iload hx hb dX7_change_72 (lo_at hl 0 rfl) ?_
  exact ret2_i hM hC hw dX7_change_74
abbrev rm_X8_isWord : Room := { frames := 4, cells := 0, slots := 0, locals := 85 }
set_option maxRecDepth 100000 in
def wp_X8_isWord_L3 (o : Nat) (x1 : Int32) (x2 : Int32) (x3 : Int32) (K30 : Hp → Prop) (K38 : Hp → Prop) (Q : Int32 → Hp → Prop) : Nat → Int32 → Hp → Prop
  | 0, _, _ => False
  | n + 1, x4, h => (if x3 ≤ x4 then (K38 h) else ((0 < 2) ∧ (wp_J0_charAt_5068e 0 (x2 + x4) h (fun (z4 : Int32) (h3 : Hp) => ((hpK h3 o).1 = 20 + 6) ∧ (okA h3 (hpR h3 o 0) 1 (x1 + x4) ∧ (∀ v7 : Int32, v7 = hpI h3 (ad (hpR h3 o 0)) (x1 + x4).toNatClampNeg → ((if z4 = v7 then (∀ v9 : Int32, v9 = x4 + (1 : Int32) → (wp_X8_isWord_L3 o x1 x2 x3 K30 K38 Q n v9 h3)) else (K30 h3)))))))))
set_option maxRecDepth 100000 in
def wp_X8_isWord (o : Nat) (x1 : Int32) (x2 : Int32) (x3 : Int32) (h : Hp) (Q : Int32 → Hp → Prop) : Prop := wp_X8_isWord_L3 o x1 x2 x3 (fun (h10 : Hp) => Q (0 : Int32) h10) (fun (h11 : Hp) => Q (1 : Int32) h11) Q fuel (0 : Int32) h
set_option maxHeartbeats 4000000 in
set_option maxRecDepth 100000 in
theorem t_X8_isWord_L3 {p : Program} {l : Launch} {e : Env} {s : State} {m : MethodId} {args : Array Value} {below : List Frame} {meth : Method} {c : Code} {G : GG} {base : Nat} {A : Nat → Nat} {g0 : Hp} (hM : Mx G base p s m args meth c cX8_isWord 5 (some .boolean) RX8 "isWord") (o : Nat) (x1 : Int32) (x2 : Int32) (x3 : Int32) (K30 : Hp → Prop) (K38 : Hp → Prop) (Q : Int32 → Hp → Prop) (hK30 : ∀ (h : Hp) (H : Heap) (locs : List Loc) (ls : Array Slot), Cx2 G base A g0 A h s.heap H locs → lo_has ls 5 [] → K30 h → W p l e rm_X8_isWord s m args below meth c H locs 0 0 (MQ below (va_Qi Q (PU2 G base A g0 A) (fun q => base ≤ q)) args s 0 0 (fun q => base ≤ q)) (F0 m 30 ls [])) (hK38 : ∀ (h : Hp) (H : Heap) (locs : List Loc) (ls : Array Slot), Cx2 G base A g0 A h s.heap H locs → lo_has ls 5 [] → K38 h → W p l e rm_X8_isWord s m args below meth c H locs 0 0 (MQ below (va_Qi Q (PU2 G base A g0 A) (fun q => base ≤ q)) args s 0 0 (fun q => base ≤ q)) (F0 m 38 ls [])) : ∀ (n : Nat) (x4 : Int32) (h : Hp) (H : Heap) (locs : List Loc) (ls : Array Slot), Cx2 G base A g0 A h s.heap H locs → lo_has ls 5 [(0, .ref (A o)), (1, .int x1), (2, .int x2), (3, .int x3), (4, .int x4)] → wp_X8_isWord_L3 o x1 x2 x3 K30 K38 Q n x4 h → W p l e rm_X8_isWord s m args below meth c H locs 0 0 (MQ below (va_Qi Q (PU2 G base A g0 A) (fun q => base ≤ q)) args s 0 0 (fun q => base ≤ q)) (F0 m 3 ls []) := by
  intro n
  induction n with
  | zero =>
    intro x4 h H locs ls hC hl hw
    rw [wp_X8_isWord_L3] at hw
    exact hw.elim
  | succ n ih =>
    intro x4 h H locs ls hC hl hw
    rw [wp_X8_isWord_L3] at hw
    obtain ⟨hx, hb, hr, hml, hown, hts, hg, hs, hlk, hnm⟩ := id hM
    refine lv_iload hx hb dX8_isWord_3 (lo_at hl 4 rfl) ?_
    refine lv_iload_n hx hb dX8_isWord_5 rfl (lo_at hl 3 rfl) ?_
    refine lv_icmp_ge (tgt := 38) hx hb dX8_isWord_6 (by decide) (fun c1 => ?_) (fun c1 => ?_)
    ·
      replace hw := (if_pos c1).mp hw
      exact hK38  h H locs ls hC (lo_sub hl [] rfl) hw
    ·
      replace hw := (if_neg c1).mp hw
      refine va_ldcS hx hb hown hs.2.1 dX8_isWord_9 ?_
      refine lv_iload_n hx hb dX8_isWord_11 rfl (lo_at hl 2 rfl) ?_
      refine lv_iload hx hb dX8_isWord_12 (lo_at hl 4 rfl) ?_
      refine lv_iadd hx hb dX8_isWord_14 ?_
      obtain ⟨k2, hw⟩ := hw
      refine res2_i hC (run2_VS (As := [.int (x2 + x4)]) (rest := []) hM hC hl.1.1 kv_RX8_61 (c_J0_charAt_5068e l G base A 0 (x2 + x4) h _ hw) k2 rfl rfl rfl ⟨Nat.le_of_ble_eq_true rfl, Nat.le_of_ble_eq_true rfl⟩ (Nat.le_of_ble_eq_true rfl) ⟨Nat.le_of_ble_eq_true rfl, Nat.le_of_ble_eq_true rfl⟩ dX8_isWord_15) (fun z4 h3 H locs hw hC => ?_)
      refine lv_aload_n hx hb dX8_isWord_18 rfl (lo_at hl 0 rfl) ?_
      obtain ⟨k5, hw⟩ := hw
      refine s_getR hx hb hts hown hg hC fb_6_0 k5 mk_f_RX8_9 dX8_isWord_19 ?_
      refine lv_iload_n hx hb dX8_isWord_22 rfl (lo_at hl 1 rfl) ?_
      refine lv_iload hx hb dX8_isWord_23 (lo_at hl 4 rfl) ?_
      refine lv_iadd hx hb dX8_isWord_25 ?_
      obtain ⟨k6, hw⟩ := hw
      refine sf_2 k6.1 ?_
      refine s_iald hx hb hg hC k6.2.1 k6.2.2 dX8_isWord_26 ?_
      refine lv_topi (fun v7 ev7 => ?_)
      replace hw := hw v7 ev7
      refine lv_icmp_eq (tgt := 32) hx hb dX8_isWord_27 (by decide) (fun c8 => ?_) (fun c8 => ?_)
      ·
        replace hw := (if_pos c8).mp hw
        obtain ⟨v9, ev9⟩ : ∃ y : Int32, y = x4 + (1 : Int32) := ⟨_, rfl⟩
        replace hw := hw v9 ev9
        refine lo_iinc (v := v9) (lv' := [(4, .int v9), (0, .ref (A o)), (1, .int x1), (2, .int x2), (3, .int x3)]) hx hb dX8_isWord_32 hl (k := 4) rfl (by rw [ev9]; rfl) (by decide) rfl (fun ls hl => ?_)
        refine lv_goto (tgt := 3) hx hb dX8_isWord_35 (by decide) ?_
        exact ih v9 h3 H locs ls hC (lo_sub hl [1, 2, 3, 4, 0] rfl) hw
      ·
        replace hw := (if_neg c8).mp hw
        exact hK30  h3 H locs ls hC (lo_sub hl [] rfl) hw
set_option maxHeartbeats 4000000 in
set_option maxRecDepth 100000 in
theorem c_X8_isWord (l : Launch) (G : GG) (base : Nat) (A : Nat → Nat) (o : Nat) (x1 : Int32) (x2 : Int32) (x3 : Int32) (h : Hp) (Q : Int32 → Hp → Prop) (hw : wp_X8_isWord o x1 x2 x3 h Q) : Met l yX8_isWord (ww yX8_isWord cX8_isWord 5 (some .boolean)) rm_X8_isWord (va_Pc [.ref (A o), .int x1, .int x2, .int x3] (PU2 G base A h A h)) (va_Qi Q (PU2 G base A h A) (fun q => base ≤ q)) 0 0 (fun q => base ≤ q) := by
  refine met2_of (own := RX8) (nm := "isWord") (by decide) rfl rfl (List.forall_mem_cons.mpr ⟨rfl, (List.forall_mem_cons.mpr ⟨rfl, (List.forall_mem_cons.mpr ⟨rfl, (List.forall_mem_cons.mpr ⟨rfl, (fun _ h => absurd h List.not_mem_nil)⟩)⟩)⟩)⟩) (Nat.le_of_ble_eq_true rfl) rfl ?_
  intro p e s m args below meth c H locs ls hM hC hl
  obtain ⟨hx, hb, hr, hml, hown, hts, hg, hs, hlk, hnm⟩ := id hM
  unfold wp_X8_isWord at hw
  refine lv_iconst (v := 0) hx hb dX8_isWord_0 (by decide) ?_
  refine lo_istore (lv' := [(4, .int ((0 : Int32))), (0, .ref (A o)), (1, .int x1), (2, .int x2), (3, .int x3)]) hx hb dX8_isWord_1 hl (by decide) rfl (fun ls hl => ?_)
  refine t_X8_isWord_L3 hM o x1 x2 x3 _ _ Q ?_ ?_ fuel (0 : Int32) h H locs ls hC (lo_sub hl [1, 2, 3, 4, 0] rfl) hw
  ·
    intro  h10 H locs ls hC hl hw
    refine lv_iconst (v := 0) hx hb dX8_isWord_30 (by decide) ?_
    exact ret2_t hM hC rfl hw dX8_isWord_31
  ·
    intro  h11 H locs ls hC hl hw
    refine lv_iconst (v := 1) hx hb dX8_isWord_38 (by decide) ?_
    exact ret2_t hM hC rfl hw dX8_isWord_39
abbrev rm_X11_barrel : Room := { frames := 5, cells := 2, slots := 39, locals := 120 }
set_option maxRecDepth 100000 in
def wp_X11_barrel (o : Nat) (x1 : Int32) (h : Hp) (Q : Int32 → Hp → Prop) : Prop := ((hpK h o).1 = 20 + 9) ∧ (wp_X11_toolAt o x1 h (fun (z3 : Option Nat) (h2 : Hp) => (if z3 = none then (Q (-1 : Int32) h2) else (((hpK h2 o).1 = 20 + 9) ∧ ((if (hpI h2 o 3) < (16 : Int32) then (okP h2 z3 ∧ (okP h2 (some o) ∧ (okP h2 (hpR h2 o 2) ∧ (∃ q7 : Nat, (hpK h2 q7).1 = 0 ∧ (∀ h8 : Hp, h8 = alc h2 q7 (20 + 1) 0 → (((hpK h8 o).1 = 20 + 9) ∧ (((hpK h8 q7).1 = 20 + 1) ∧ (okP h8 z3 ∧ (okP h8 (some o) ∧ (okP h8 (some q7) ∧ (okP h8 (hpR h2 o 2) ∧ (wp_X1_init q7 (hpI h8 o 3) x1 z3 h8 (fun (h23 : Hp) => ((hpK h23 q7).1 = 20 + 1) ∧ (okA h23 (hpR h2 o 2) 4 (hpI h2 o 3) ∧ (∀ h32 : Hp, h32 = stR h23 (ad (hpR h2 o 2)) (hpI h2 o 3).toNatClampNeg (some q7) → (((hpK h32 o).1 = 20 + 9) ∧ (∀ h34 : Hp, h34 = stI h32 o 3 ((hpI h32 o 3) + (1 : Int32)) → (okO h34 z3 7 ∧ (∀ h36 : Hp, h36 = stI h34 (ad z3) 2 ((hpI h34 (ad z3) 2) + (1 : Int32)) → (((hpK h36 o).1 = 20 + 9) ∧ (okO h36 z3 7 ∧ (okO h36 (hpR h36 o 15) 8 ∧ (wp_X10_tellShot (ad (hpR h36 o 15)) (hpI h36 (ad z3) 2) (0 : Int32) (0 : Int32) h36 (fun (h40 : Hp) => ((hpK h40 o).1 = 20 + 9) ∧ (okO h40 z3 7 ∧ (okO h40 (hpR h40 o 14) 5 ∧ (wp_X7_change (ad (hpR h40 o 14)) (hpR h40 (ad z3) 0) (260 : Int32) (hpI h40 (ad z3) 1) (hpR h40 o 15) h40 (fun (z46 : Int32) (h45 : Hp) => okO h45 z3 7 ∧ (∀ h48 : Hp, h48 = stI h45 (ad z3) 1 z46 → (((hpK h48 o).1 = 20 + 9) ∧ (Q ((hpI h48 o 3) - (1 : Int32)) h48))))))))))))))))))))))))))))))) else (Q (-1 : Int32) h2)))))))
set_option maxHeartbeats 4000000 in
set_option maxRecDepth 100000 in
theorem c_X11_barrel (l : Launch) (G : GG) (base : Nat) (A : Nat → Nat) (o : Nat) (x1 : Int32) (h : Hp) (Q : Int32 → Hp → Prop) (hw : wp_X11_barrel o x1 h Q) : Met l yX11_barrel (ww yX11_barrel cX11_barrel 3 (some .int)) rm_X11_barrel (va_Pc [.ref (A o), .int x1] (PU2 G base A h A h)) (va_Qi (fun r (u : (Nat → Nat) × Hp) => Q r u.2) (fun u t => PU2 G base A h u.1 u.2 t) (fun q => base ≤ q)) 2 39 (fun q => base ≤ q) := by
  refine met2_of (own := RX11) (nm := "barrel") (by decide) rfl rfl (List.forall_mem_cons.mpr ⟨rfl, (List.forall_mem_cons.mpr ⟨rfl, (fun _ h => absurd h List.not_mem_nil)⟩)⟩) (Nat.le_of_ble_eq_true rfl) rfl ?_
  intro p e s m args below meth c H locs ls hM hC hl
  obtain ⟨hx, hb, hr, hml, hown, hts, hg, hs, hlk, hnm⟩ := id hM
  unfold wp_X11_barrel at hw
  refine lv_aload_n hx hb dX11_barrel_0 rfl (lo_at hl 0 rfl) ?_
  refine lv_iload_n hx hb dX11_barrel_1 rfl (lo_at hl 1 rfl) ?_
  obtain ⟨k1, hw⟩ := hw
  refine res2_q hC (run2_V (As := [.int x1]) (rest := []) hM hC hl.1.1 kv_RX11_80 (c_X11_toolAt l G base A o x1 h _ hw) (hc_9) k1 rfl rfl rfl ⟨Nat.le_of_ble_eq_true rfl, Nat.le_of_ble_eq_true rfl⟩ (Nat.le_of_ble_eq_true rfl) ⟨Nat.le_of_ble_eq_true rfl, Nat.le_of_ble_eq_true rfl⟩ dX11_barrel_2) (fun z3 h2 H locs hw hC => ?_)
  refine lo_astore_n (r := Option.map A z3) (lv' := [(2, va_rf (Option.map A z3)), (0, .ref (A o)), (1, .int x1)]) hx hb dX11_barrel_5 rfl hl (by decide) rfl (fun ls hl => ?_)
  refine lo_aload_n (r := Option.map A z3) hx hb dX11_barrel_6 rfl (lo_at hl 0 rfl) ?_
  refine s_ifnull (r := z3) (A := A) (tgt := 19) hx hb dX11_barrel_7 (by decide) (fun c4 => ?_) (fun c4 => ?_)
  ·
    replace hw := (if_pos c4).mp hw
    refine lv_iconst (v := -1) hx hb dX11_barrel_19 (by decide) ?_
    refine W.widen (k := 2) (n := 39) (Nat.le_of_ble_eq_true rfl) (Nat.le_of_ble_eq_true rfl) ?_
    exact ret2_ia hM hC hw dX11_barrel_20
  ·
    replace hw := (if_neg c4).mp hw
    refine lv_aload_n hx hb dX11_barrel_10 rfl (lo_at hl 1 rfl) ?_
    obtain ⟨k5, hw⟩ := hw
    refine s_getI hx hb hts hown hg hC fb_9_3 k5 mk_f_RX11_95 dX11_barrel_11 ?_
    refine lv_bipush (v := 16) hx hb dX11_barrel_14 (by decide) ?_
    refine lv_icmp_lt (tgt := 21) hx hb dX11_barrel_16 (by decide) (fun c6 => ?_) (fun c6 => ?_)
    ·
      replace hw := (if_pos c6).mp hw
      refine lv_aload_n hx hb dX11_barrel_21 rfl (lo_at hl 1 rfl) ?_
      refine s_getR hx hb hts hown hg hC fb_9_2 k5 mk_f_RX11_17 dX11_barrel_22 ?_
      refine lv_aload_n hx hb dX11_barrel_25 rfl (lo_at hl 1 rfl) ?_
      refine s_getI hx hb hts hown hg hC fb_9_3 k5 mk_f_RX11_95 dX11_barrel_26 ?_
      obtain ⟨k10, hw⟩ := hw
      obtain ⟨k11, hw⟩ := hw
      obtain ⟨k12, hw⟩ := hw
      obtain ⟨q7, k9, hw⟩ := hw
      refine s_new hx hb hts hown hg hC cb_1 df_1 mk_c_RX11_15 mk_ins_OneBarrel_Barrel mk_ini_OneBarrel_Barrel q7 k9 (Nat.le_of_ble_eq_true rfl) (Nat.le_of_ble_eq_true rfl) dX11_barrel_29 (fun A13 h8 H eh8 hE hC => ?_)
      replace hw := hw h8 eh8
      have e14 : Option.map A z3 = Option.map A13 z3 := hE.map k10
      try rw [e14] at hl
      try rw [e14]
      have e15 : A o = A13 o := ((hE _ (k11 _ rfl)).2).symm
      try rw [e15] at hl
      try rw [e15]
      have e16 : Option.map A (hpR h2 o 2) = Option.map A13 (hpR h2 o 2) := hE.map k12
      try rw [e16] at hl
      try rw [e16]
      refine W.widen (k := 1) (n := 7) (Nat.le_of_ble_eq_true rfl) (Nat.le_of_ble_eq_true rfl) ?_
      refine lv_dup hx hb dX11_barrel_32 rfl ?_
      refine lv_aload_n hx hb dX11_barrel_33 rfl (lo_at hl 1 rfl) ?_
      obtain ⟨k17, hw⟩ := hw
      refine s_getI hx hb hts hown hg hC fb_9_3 k17 mk_f_RX11_95 dX11_barrel_34 ?_
      refine lv_iload_n hx hb dX11_barrel_37 rfl (lo_at hl 2 rfl) ?_
      refine lo_aload_n (r := Option.map A13 z3) hx hb dX11_barrel_38 rfl (lo_at hl 0 rfl) ?_
      obtain ⟨k18, hw⟩ := hw
      obtain ⟨k19, hw⟩ := hw
      obtain ⟨k20, hw⟩ := hw
      obtain ⟨k21, hw⟩ := hw
      obtain ⟨k22, hw⟩ := hw
      refine res2_va hC (run2_I (As := [.int (hpI h8 o 3), .int x1, va_rf (Option.map A13 z3)]) (rest := [.ref (A13 q7), .int (hpI h2 o 3), va_rf (Option.map A13 (hpR h2 o 2))]) hM hC hl.1.1 kv_RX11_98 (c_X1_init l G base A13 q7 (hpI h8 o 3) x1 z3 h8 _ hw) rfl rfl rfl ⟨Nat.le_of_ble_eq_true rfl, Nat.le_of_ble_eq_true rfl⟩ (rest_le (List.forall_mem_cons.mpr ⟨rfl, (List.forall_mem_cons.mpr ⟨rfl, (List.forall_mem_cons.mpr ⟨va_rf_cat _, (fun _ h => absurd h List.not_mem_nil)⟩)⟩)⟩) (Nat.le_of_ble_eq_true rfl)) ⟨Nat.le_of_ble_eq_true rfl, Nat.le_of_ble_eq_true rfl⟩ dX11_barrel_39) (fun A25 h23 H locs hw hE hC => ?_)
      have e26 : Option.map A13 z3 = Option.map A25 z3 := hE.map k19
      try rw [e26] at hl
      try rw [e26]
      have e27 : A13 o = A25 o := ((hE _ (k20 _ rfl)).2).symm
      try rw [e27] at hl
      try rw [e27]
      have e28 : A13 q7 = A25 q7 := ((hE _ (k21 _ rfl)).2).symm
      try rw [e28] at hl
      try rw [e28]
      have e29 : Option.map A13 (hpR h2 o 2) = Option.map A25 (hpR h2 o 2) := hE.map k22
      try rw [e29] at hl
      try rw [e29]
      refine W.widen (k := 2) (n := 39) (Nat.le_of_ble_eq_true rfl) (Nat.le_of_ble_eq_true rfl) ?_
      obtain ⟨k30, hw⟩ := hw
      obtain ⟨k31, hw⟩ := hw
      refine sf_3 k31.1 ?_
      refine s_aast (kd := 4) (t0 := 3) (ci := 1) (q := (RX1, TX1, 7)) hx hb hg hC k31.2.1 (by decide) rfl rfl k30 k31.2.2 dX11_barrel_42 (fun h32 H locs eh32 hC => ?_)
      replace hw := hw h32 eh32
      refine lv_aload_n hx hb dX11_barrel_43 rfl (lo_at hl 1 rfl) ?_
      refine lv_dup hx hb dX11_barrel_44 rfl ?_
      obtain ⟨k33, hw⟩ := hw
      refine s_getI hx hb hts hown hg hC fb_9_3 k33 mk_f_RX11_95 dX11_barrel_45 ?_
      refine lv_iconst (v := 1) hx hb dX11_barrel_48 (by decide) ?_
      refine lv_iadd hx hb dX11_barrel_49 ?_
      refine s_putI hx hb hts hown hg hC fb_9_3 k33 rfl rfl mk_f_RX11_95 dX11_barrel_50 (fun h34 H locs eh34 hC => ?_)
      replace hw := hw h34 eh34
      refine lo_aload_n (r := Option.map A25 z3) hx hb dX11_barrel_53 rfl (lo_at hl 0 rfl) ?_
      refine lv_dup hx hb dX11_barrel_54 (va_rf_cat _) ?_
      obtain ⟨k35, hw⟩ := hw
      refine sf_1 k35.1 ?_
      refine s_getI hx hb hts hown hg hC fb_7_2 k35.2 mk_f_RX11_101 dX11_barrel_55 ?_
      refine lv_iconst (v := 1) hx hb dX11_barrel_58 (by decide) ?_
      refine lv_iadd hx hb dX11_barrel_59 ?_
      refine sf_2 k35.1 ?_
      refine s_putI hx hb hts hown hg hC fb_7_2 k35.2 rfl rfl mk_f_RX11_101 dX11_barrel_60 (fun h36 H locs eh36 hC => ?_)
      replace hw := hw h36 eh36
      refine lv_aload_n hx hb dX11_barrel_63 rfl (lo_at hl 1 rfl) ?_
      obtain ⟨k37, hw⟩ := hw
      refine s_getR hx hb hts hown hg hC fb_9_15 k37 mk_f_RX11_69 dX11_barrel_64 ?_
      refine lo_aload_n (r := Option.map A25 z3) hx hb dX11_barrel_67 rfl (lo_at hl 0 rfl) ?_
      obtain ⟨k38, hw⟩ := hw
      refine sf_1 k38.1 ?_
      refine s_getI hx hb hts hown hg hC fb_7_2 k38.2 mk_f_RX11_101 dX11_barrel_68 ?_
      refine lv_iconst (v := 0) hx hb dX11_barrel_71 (by decide) ?_
      refine lv_iconst (v := 0) hx hb dX11_barrel_72 (by decide) ?_
      obtain ⟨k39, hw⟩ := hw
      refine sf_4 k39.1 ?_
      refine res2_v hC (run2_V (As := [.int (hpI h36 (ad z3) 2), .int ((0 : Int32)), .int ((0 : Int32))]) (rest := []) hM hC hl.1.1 kv_RX11_104 (c_X10_tellShot l G base A25 (ad (hpR h36 o 15)) (hpI h36 (ad z3) 2) (0 : Int32) (0 : Int32) h36 _ hw) (hc_8) k39.2 rfl rfl rfl ⟨Nat.le_of_ble_eq_true rfl, Nat.le_of_ble_eq_true rfl⟩ (Nat.le_of_ble_eq_true rfl) ⟨Nat.le_of_ble_eq_true rfl, Nat.le_of_ble_eq_true rfl⟩ dX11_barrel_73) (fun h40 H locs hw hC => ?_)
      refine lo_aload_n (r := Option.map A25 z3) hx hb dX11_barrel_76 rfl (lo_at hl 0 rfl) ?_
      refine lv_aload_n hx hb dX11_barrel_77 rfl (lo_at hl 1 rfl) ?_
      obtain ⟨k42, hw⟩ := hw
      refine s_getR hx hb hts hown hg hC fb_9_14 k42 mk_f_RX11_62 dX11_barrel_78 ?_
      refine lo_aload_n (r := Option.map A25 z3) hx hb dX11_barrel_81 rfl (lo_at hl 0 rfl) ?_
      obtain ⟨k43, hw⟩ := hw
      refine sf_1 k43.1 ?_
      refine s_getR hx hb hts hown hg hC fb_7_0 k43.2 mk_f_RX11_91 dX11_barrel_82 ?_
      refine lv_sipush (v := 260) hx hb dX11_barrel_85 (by decide) ?_
      refine lo_aload_n (r := Option.map A25 z3) hx hb dX11_barrel_88 rfl (lo_at hl 0 rfl) ?_
      refine sf_1 k43.1 ?_
      refine s_getI hx hb hts hown hg hC fb_7_1 k43.2 mk_f_RX11_108 dX11_barrel_89 ?_
      refine lv_aload_n hx hb dX11_barrel_92 rfl (lo_at hl 1 rfl) ?_
      refine s_getR hx hb hts hown hg hC fb_9_15 k42 mk_f_RX11_69 dX11_barrel_93 ?_
      obtain ⟨k44, hw⟩ := hw
      refine sf_5 k44.1 ?_
      refine res2_i hC (run2_V (As := [va_rf (Option.map A25 (hpR h40 (ad z3) 0)), .int ((260 : Int32)), .int (hpI h40 (ad z3) 1), va_rf (Option.map A25 (hpR h40 o 15))]) (rest := [va_rf (Option.map A25 z3)]) hM hC hl.1.1 kv_RX11_111 (c_X7_change l G base A25 (ad (hpR h40 o 14)) (hpR h40 (ad z3) 0) (260 : Int32) (hpI h40 (ad z3) 1) (hpR h40 o 15) h40 _ hw) (hc_5) k44.2 rfl rfl rfl ⟨Nat.le_of_ble_eq_true rfl, Nat.le_of_ble_eq_true rfl⟩ (rest_le (List.forall_mem_cons.mpr ⟨va_rf_cat _, (fun _ h => absurd h List.not_mem_nil)⟩) (Nat.le_of_ble_eq_true rfl)) ⟨Nat.le_of_ble_eq_true rfl, Nat.le_of_ble_eq_true rfl⟩ dX11_barrel_96) (fun z46 h45 H locs hw hC => ?_)
      obtain ⟨k47, hw⟩ := hw
      refine sf_2 k47.1 ?_
      refine s_putI hx hb hts hown hg hC fb_7_1 k47.2 rfl rfl mk_f_RX11_108 dX11_barrel_99 (fun h48 H locs eh48 hC => ?_)
      replace hw := hw h48 eh48
      refine lv_aload_n hx hb dX11_barrel_102 rfl (lo_at hl 1 rfl) ?_
      obtain ⟨k49, hw⟩ := hw
      refine s_getI hx hb hts hown hg hC fb_9_3 k49 mk_f_RX11_95 dX11_barrel_103 ?_
      refine lv_iconst (v := 1) hx hb dX11_barrel_106 (by decide) ?_
      refine lv_isub hx hb dX11_barrel_107 ?_
      exact ret2_ia hM hC hw dX11_barrel_108
    ·
      replace hw := (if_neg c6).mp hw
      refine lv_iconst (v := -1) hx hb dX11_barrel_19 (by decide) ?_
      refine W.widen (k := 2) (n := 39) (Nat.le_of_ble_eq_true rfl) (Nat.le_of_ble_eq_true rfl) ?_
      exact ret2_ia hM hC hw dX11_barrel_20
