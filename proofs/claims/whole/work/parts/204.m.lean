abbrev rm_X12_isDigit : Room := { frames := 1, cells := 0, slots := 0, locals := 23 }
set_option maxRecDepth 100000 in
def wp_X12_isDigit (o : Nat) (x1 : Int32) (h : Hp) (Q : Int32 → Hp → Prop) : Prop := ((hpK h o).1 = 20 + 10) ∧ (wp_X12_isIn o x1 (48 : Int32) (57 : Int32) h (fun (z3 : Int32) (h2 : Hp) => okZ z3 ∧ Q z3 h2))
set_option maxHeartbeats 4000000 in
set_option maxRecDepth 100000 in
theorem c_X12_isDigit (l : Launch) (G : GG) (base : Nat) (A : Nat → Nat) (o : Nat) (x1 : Int32) (h : Hp) (Q : Int32 → Hp → Prop) (hw : wp_X12_isDigit o x1 h Q) : Met l yX12_isDigit (ww yX12_isDigit cX12_isDigit 2 (some .boolean)) rm_X12_isDigit (va_Pc [.ref (A o), .int x1] (PU2 G base A h A h)) (va_Qi Q (PU2 G base A h A) (fun q => base ≤ q)) 0 0 (fun q => base ≤ q) := by
  refine met2_of (own := RX12) (nm := "isDigit") (by decide) rfl rfl (List.forall_mem_cons.mpr ⟨rfl, (List.forall_mem_cons.mpr ⟨rfl, (fun _ h => absurd h List.not_mem_nil)⟩)⟩) (Nat.le_of_ble_eq_true rfl) rfl ?_
  intro p e s m args below meth c H locs ls hM hC hl
  obtain ⟨hx, hb, hr, hml, hown, hts, hg, hs, hlk, hnm⟩ := id hM
  unfold wp_X12_isDigit at hw
  refine lv_aload_n hx hb dX12_isDigit_0 rfl (lo_at hl 0 rfl) ?_
  refine lv_iload_n hx hb dX12_isDigit_1 rfl (lo_at hl 1 rfl) ?_
  refine lv_bipush (v := 48) hx hb dX12_isDigit_2 (by decide) ?_
  refine lv_bipush (v := 57) hx hb dX12_isDigit_4 (by decide) ?_
  obtain ⟨k1, hw⟩ := hw
  refine res2_i hC (run2_V (As := [.int x1, .int ((48 : Int32)), .int ((57 : Int32))]) (rest := []) hM hC hl.1.1 kv_RX12_144 (c_X12_isIn l G base A o x1 (48 : Int32) (57 : Int32) h _ hw) (hc_10) k1 rfl rfl rfl ⟨Nat.le_of_ble_eq_true rfl, Nat.le_of_ble_eq_true rfl⟩ (Nat.le_of_ble_eq_true rfl) ⟨Nat.le_of_ble_eq_true rfl, Nat.le_of_ble_eq_true rfl⟩ dX12_isDigit_6) (fun z3 h2 H locs hw hC => ?_)
  exact ret2_t hM hC hw.1.1 hw.2 dX12_isDigit_9
abbrev rm_X12_isMarkSign : Room := { frames := 0, cells := 0, slots := 0, locals := 0 }
set_option maxRecDepth 100000 in
def wp_X12_isMarkSign (o : Nat) (x1 : Int32) (h : Hp) (Q : Int32 → Hp → Prop) : Prop := (if x1 = (59 : Int32) then (Q (1 : Int32) h) else ((if x1 = (43 : Int32) then (Q (1 : Int32) h) else ((if x1 = (45 : Int32) then (Q (1 : Int32) h) else ((if x1 = (42 : Int32) then (Q (1 : Int32) h) else ((if x1 = (47 : Int32) then (Q (1 : Int32) h) else ((if x1 = (40 : Int32) then (Q (1 : Int32) h) else ((if x1 = (41 : Int32) then (Q (1 : Int32) h) else ((if x1 = (60 : Int32) then (Q (1 : Int32) h) else ((if x1 = (61 : Int32) then (Q (1 : Int32) h) else ((if x1 = (62 : Int32) then (Q (1 : Int32) h) else (Q (0 : Int32) h))))))))))))))))))))
set_option maxHeartbeats 4000000 in
set_option maxRecDepth 100000 in
theorem c_X12_isMarkSign (l : Launch) (G : GG) (base : Nat) (A : Nat → Nat) (o : Nat) (x1 : Int32) (h : Hp) (Q : Int32 → Hp → Prop) (hw : wp_X12_isMarkSign o x1 h Q) : Met l yX12_isMarkSign (ww yX12_isMarkSign cX12_isMarkSign 2 (some .boolean)) rm_X12_isMarkSign (va_Pc [.ref (A o), .int x1] (PU2 G base A h A h)) (va_Qi Q (PU2 G base A h A) (fun q => base ≤ q)) 0 0 (fun q => base ≤ q) := by
  refine met2_of (own := RX12) (nm := "isMarkSign") (by decide) rfl rfl (List.forall_mem_cons.mpr ⟨rfl, (List.forall_mem_cons.mpr ⟨rfl, (fun _ h => absurd h List.not_mem_nil)⟩)⟩) (Nat.le_of_ble_eq_true rfl) rfl ?_
  intro p e s m args below meth c H locs ls hM hC hl
  obtain ⟨hx, hb, hr, hml, hown, hts, hg, hs, hlk, hnm⟩ := id hM
  unfold wp_X12_isMarkSign at hw
  refine lv_iload_n hx hb dX12_isMarkSign_0 rfl (lo_at hl 1 rfl) ?_
  refine lv_bipush (v := 59) hx hb dX12_isMarkSign_1 (by decide) ?_
  refine lv_icmp_eq (tgt := 60) hx hb dX12_isMarkSign_3 (by decide) (fun c1 => ?_) (fun c1 => ?_)
  ·
    replace hw := (if_pos c1).mp hw
    refine lv_iconst (v := 1) hx hb dX12_isMarkSign_60 (by decide) ?_
    refine lv_goto (tgt := 65) hx hb dX12_isMarkSign_61 (by decide) ?_
    exact ret2_t hM hC rfl hw dX12_isMarkSign_65
  ·
    replace hw := (if_neg c1).mp hw
    refine lv_iload_n hx hb dX12_isMarkSign_6 rfl (lo_at hl 1 rfl) ?_
    refine lv_bipush (v := 43) hx hb dX12_isMarkSign_7 (by decide) ?_
    refine lv_icmp_eq (tgt := 60) hx hb dX12_isMarkSign_9 (by decide) (fun c2 => ?_) (fun c2 => ?_)
    ·
      replace hw := (if_pos c2).mp hw
      refine lv_iconst (v := 1) hx hb dX12_isMarkSign_60 (by decide) ?_
      refine lv_goto (tgt := 65) hx hb dX12_isMarkSign_61 (by decide) ?_
      exact ret2_t hM hC rfl hw dX12_isMarkSign_65
    ·
      replace hw := (if_neg c2).mp hw
      refine lv_iload_n hx hb dX12_isMarkSign_12 rfl (lo_at hl 1 rfl) ?_
      refine lv_bipush (v := 45) hx hb dX12_isMarkSign_13 (by decide) ?_
      refine lv_icmp_eq (tgt := 60) hx hb dX12_isMarkSign_15 (by decide) (fun c3 => ?_) (fun c3 => ?_)
      ·
        replace hw := (if_pos c3).mp hw
        refine lv_iconst (v := 1) hx hb dX12_isMarkSign_60 (by decide) ?_
        refine lv_goto (tgt := 65) hx hb dX12_isMarkSign_61 (by decide) ?_
        exact ret2_t hM hC rfl hw dX12_isMarkSign_65
      ·
        replace hw := (if_neg c3).mp hw
        refine lv_iload_n hx hb dX12_isMarkSign_18 rfl (lo_at hl 1 rfl) ?_
        refine lv_bipush (v := 42) hx hb dX12_isMarkSign_19 (by decide) ?_
        refine lv_icmp_eq (tgt := 60) hx hb dX12_isMarkSign_21 (by decide) (fun c4 => ?_) (fun c4 => ?_)
        ·
          replace hw := (if_pos c4).mp hw
          refine lv_iconst (v := 1) hx hb dX12_isMarkSign_60 (by decide) ?_
          refine lv_goto (tgt := 65) hx hb dX12_isMarkSign_61 (by decide) ?_
          exact ret2_t hM hC rfl hw dX12_isMarkSign_65
        ·
          replace hw := (if_neg c4).mp hw
          refine lv_iload_n hx hb dX12_isMarkSign_24 rfl (lo_at hl 1 rfl) ?_
          refine lv_bipush (v := 47) hx hb dX12_isMarkSign_25 (by decide) ?_
          refine lv_icmp_eq (tgt := 60) hx hb dX12_isMarkSign_27 (by decide) (fun c5 => ?_) (fun c5 => ?_)
          ·
            replace hw := (if_pos c5).mp hw
            refine lv_iconst (v := 1) hx hb dX12_isMarkSign_60 (by decide) ?_
            refine lv_goto (tgt := 65) hx hb dX12_isMarkSign_61 (by decide) ?_
            exact ret2_t hM hC rfl hw dX12_isMarkSign_65
          ·
            replace hw := (if_neg c5).mp hw
            refine lv_iload_n hx hb dX12_isMarkSign_30 rfl (lo_at hl 1 rfl) ?_
            refine lv_bipush (v := 40) hx hb dX12_isMarkSign_31 (by decide) ?_
            refine lv_icmp_eq (tgt := 60) hx hb dX12_isMarkSign_33 (by decide) (fun c6 => ?_) (fun c6 => ?_)
            ·
              replace hw := (if_pos c6).mp hw
              refine lv_iconst (v := 1) hx hb dX12_isMarkSign_60 (by decide) ?_
              refine lv_goto (tgt := 65) hx hb dX12_isMarkSign_61 (by decide) ?_
              exact ret2_t hM hC rfl hw dX12_isMarkSign_65
            ·
              replace hw := (if_neg c6).mp hw
              refine lv_iload_n hx hb dX12_isMarkSign_36 rfl (lo_at hl 1 rfl) ?_
              refine lv_bipush (v := 41) hx hb dX12_isMarkSign_37 (by decide) ?_
              refine lv_icmp_eq (tgt := 60) hx hb dX12_isMarkSign_39 (by decide) (fun c7 => ?_) (fun c7 => ?_)
              ·
                replace hw := (if_pos c7).mp hw
                refine lv_iconst (v := 1) hx hb dX12_isMarkSign_60 (by decide) ?_
                refine lv_goto (tgt := 65) hx hb dX12_isMarkSign_61 (by decide) ?_
                exact ret2_t hM hC rfl hw dX12_isMarkSign_65
              ·
                replace hw := (if_neg c7).mp hw
                refine lv_iload_n hx hb dX12_isMarkSign_42 rfl (lo_at hl 1 rfl) ?_
                refine lv_bipush (v := 60) hx hb dX12_isMarkSign_43 (by decide) ?_
                refine lv_icmp_eq (tgt := 60) hx hb dX12_isMarkSign_45 (by decide) (fun c8 => ?_) (fun c8 => ?_)
                ·
                  replace hw := (if_pos c8).mp hw
                  refine lv_iconst (v := 1) hx hb dX12_isMarkSign_60 (by decide) ?_
                  refine lv_goto (tgt := 65) hx hb dX12_isMarkSign_61 (by decide) ?_
                  exact ret2_t hM hC rfl hw dX12_isMarkSign_65
                ·
                  replace hw := (if_neg c8).mp hw
                  refine lv_iload_n hx hb dX12_isMarkSign_48 rfl (lo_at hl 1 rfl) ?_
                  refine lv_bipush (v := 61) hx hb dX12_isMarkSign_49 (by decide) ?_
                  refine lv_icmp_eq (tgt := 60) hx hb dX12_isMarkSign_51 (by decide) (fun c9 => ?_) (fun c9 => ?_)
                  ·
                    replace hw := (if_pos c9).mp hw
                    refine lv_iconst (v := 1) hx hb dX12_isMarkSign_60 (by decide) ?_
                    refine lv_goto (tgt := 65) hx hb dX12_isMarkSign_61 (by decide) ?_
                    exact ret2_t hM hC rfl hw dX12_isMarkSign_65
                  ·
                    replace hw := (if_neg c9).mp hw
                    refine lv_iload_n hx hb dX12_isMarkSign_54 rfl (lo_at hl 1 rfl) ?_
                    refine lv_bipush (v := 62) hx hb dX12_isMarkSign_55 (by decide) ?_
                    refine lv_icmp_ne (tgt := 64) hx hb dX12_isMarkSign_57 (by decide) (fun c10 => ?_) (fun c10 => ?_)
                    ·
                      replace hw := (if_neg c10).mp hw
                      refine lv_iconst (v := 0) hx hb dX12_isMarkSign_64 (by decide) ?_
                      exact ret2_t hM hC rfl hw dX12_isMarkSign_65
                    ·
                      replace hw := (if_pos c10).mp hw
                      refine lv_iconst (v := 1) hx hb dX12_isMarkSign_60 (by decide) ?_
                      refine lv_goto (tgt := 65) hx hb dX12_isMarkSign_61 (by decide) ?_
                      exact ret2_t hM hC rfl hw dX12_isMarkSign_65
abbrev rm_X12_wordAt : Room := { frames := 0, cells := 0, slots := 0, locals := 0 }
set_option maxRecDepth 100000 in
def wp_X12_wordAt_L19 (o : Nat) (x1 : Int32) (x2 : Int32) (x3 : Int32) (x4 : Int32) (K60 : Int32 → Hp → Prop) (Q : Int32 → Hp → Prop) : Nat → Int32 → Hp → Prop
  | 0, _, _ => False
  | n + 1, x5, h => (if x2 ≤ (x1 + x5) then (K60 x5 h) else (((hpK h o).1 = 20 + 10) ∧ (okA h (hpR h o 24) 1 ((x4 + (1 : Int32)) + x5) ∧ (∀ v6 : Int32, v6 = hpI h (ad (hpR h o 24)) ((x4 + (1 : Int32)) + x5).toNatClampNeg → (okA h (hpR h o 18) 1 (x1 + x5) ∧ (∀ v8 : Int32, v8 = hpI h (ad (hpR h o 18)) (x1 + x5).toNatClampNeg → ((if v6 = v8 then (∀ v10 : Int32, v10 = x5 + (1 : Int32) → (wp_X12_wordAt_L19 o x1 x2 x3 x4 K60 Q n v10 h)) else (K60 x5 h)))))))))
set_option maxRecDepth 100000 in
def wp_X12_wordAt_L93 (o : Nat) (x1 : Int32) (x2 : Int32) (x3 : Int32) (K114 : Int32 → Hp → Prop) (Q : Int32 → Hp → Prop) : Nat → Int32 → Hp → Prop
  | 0, _, _ => False
  | n + 1, x4, h => ((hpK h o).1 = 20 + 10) ∧ (okA h (hpR h o 24) 1 x4 ∧ (∀ v17 : Int32, v17 = hpI h (ad (hpR h o 24)) (x4).toNatClampNeg → ((if v17 = (32 : Int32) then (K114 x4 h) else (∀ v19 : Int32, v19 = x4 + (1 : Int32) → (wp_X12_wordAt_L93 o x1 x2 x3 K114 Q n v19 h))))))
set_option maxRecDepth 100000 in
def wp_X12_wordAt_L5 (o : Nat) (x1 : Int32) (x2 : Int32) (K85 : Int32 → Hp → Prop) (K117 : Hp → Prop) (Q : Int32 → Hp → Prop) : Nat → Int32 → Int32 → Hp → Prop
  | 0, _, _, _ => False
  | n + 1, x3, x4, h => (if (114 : Int32) ≤ x4 then (K117 h) else (∀ v2 : Int32, v2 = x3 + (1 : Int32) → (wp_X12_wordAt_L19 o x1 x2 v2 x4 (fun (y12 : Int32) (h11 : Hp) => (if (x1 + y12) = x2 then (((hpK h11 o).1 = 20 + 10) ∧ (okA h11 (hpR h11 o 24) 1 ((x4 + (1 : Int32)) + y12) ∧ (∀ v24 : Int32, v24 = hpI h11 (ad (hpR h11 o 24)) ((x4 + (1 : Int32)) + y12).toNatClampNeg → ((if v24 = (32 : Int32) then (K85 v2 h11) else (∀ v26 : Int32, v26 = x4 + (1 : Int32) → (wp_X12_wordAt_L93 o x1 x2 v2 (fun (y28 : Int32) (h27 : Hp) => wp_X12_wordAt_L5 o x1 x2 K85 K117 Q n v2 y28 h27) Q fuel v26 h11))))))) else (∀ v14 : Int32, v14 = x4 + (1 : Int32) → (wp_X12_wordAt_L93 o x1 x2 v2 (fun (y21 : Int32) (h20 : Hp) => wp_X12_wordAt_L5 o x1 x2 K85 K117 Q n v2 y21 h20) Q fuel v14 h11)))) Q fuel (0 : Int32) h)))
set_option maxRecDepth 100000 in
def wp_X12_wordAt (o : Nat) (x1 : Int32) (x2 : Int32) (h : Hp) (Q : Int32 → Hp → Prop) : Prop := wp_X12_wordAt_L5 o x1 x2 (fun (y30 : Int32) (h29 : Hp) => Q y30 h29) (fun (h31 : Hp) => Q (-1 : Int32) h31) Q fuel (-1 : Int32) (0 : Int32) h
set_option maxHeartbeats 4000000 in
set_option maxRecDepth 100000 in
theorem t_X12_wordAt_L19 {p : Program} {l : Launch} {e : Env} {s : State} {m : MethodId} {args : Array Value} {below : List Frame} {meth : Method} {c : Code} {G : GG} {base : Nat} {A : Nat → Nat} {g0 : Hp} (hM : Mx G base p s m args meth c cX12_wordAt 6 (some .int) RX12 "wordAt") (o : Nat) (x1 : Int32) (x2 : Int32) (x3 : Int32) (x4 : Int32) (K60 : Int32 → Hp → Prop) (Q : Int32 → Hp → Prop) (hK60 : ∀ (y5 : Int32) (h : Hp) (H : Heap) (locs : List Loc) (ls : Array Slot), Cx2 G base A g0 A h s.heap H locs → lo_has ls 6 [(0, .ref (A o)), (1, .int x1), (2, .int x2), (3, .int x3), (4, .int x4), (5, .int y5)] → K60 y5 h → W p l e rm_X12_wordAt s m args below meth c H locs 0 0 (MQ below (va_Qi Q (PU2 G base A g0 A) (fun q => base ≤ q)) args s 0 0 (fun q => base ≤ q)) (F0 m 60 ls [])) : ∀ (n : Nat) (x5 : Int32) (h : Hp) (H : Heap) (locs : List Loc) (ls : Array Slot), Cx2 G base A g0 A h s.heap H locs → lo_has ls 6 [(0, .ref (A o)), (1, .int x1), (2, .int x2), (3, .int x3), (4, .int x4), (5, .int x5)] → wp_X12_wordAt_L19 o x1 x2 x3 x4 K60 Q n x5 h → W p l e rm_X12_wordAt s m args below meth c H locs 0 0 (MQ below (va_Qi Q (PU2 G base A g0 A) (fun q => base ≤ q)) args s 0 0 (fun q => base ≤ q)) (F0 m 19 ls []) := by
  intro n
  induction n with
  | zero =>
    intro x5 h H locs ls hC hl hw
    rw [wp_X12_wordAt_L19] at hw
    exact hw.elim
  | succ n ih =>
    intro x5 h H locs ls hC hl hw
    rw [wp_X12_wordAt_L19] at hw
    obtain ⟨hx, hb, hr, hml, hown, hts, hg, hs, hlk, hnm⟩ := id hM
    refine lv_iload_n hx hb dX12_wordAt_19 rfl (lo_at hl 1 rfl) ?_
    refine lv_iload hx hb dX12_wordAt_20 (lo_at hl 5 rfl) ?_
    refine lv_iadd hx hb dX12_wordAt_22 ?_
    refine lv_iload_n hx hb dX12_wordAt_23 rfl (lo_at hl 2 rfl) ?_
    refine lv_icmp_ge (tgt := 60) hx hb dX12_wordAt_24 (by decide) (fun c3 => ?_) (fun c3 => ?_)
    ·
      replace hw := (if_pos c3).mp hw
      exact hK60 x5 h H locs ls hC (lo_sub hl [0, 1, 2, 3, 4, 5] rfl) hw
    ·
      replace hw := (if_neg c3).mp hw
      refine lv_aload_n hx hb dX12_wordAt_27 rfl (lo_at hl 0 rfl) ?_
      obtain ⟨k4, hw⟩ := hw
      refine s_getR hx hb hts hown hg hC fb_10_24 k4 mk_f_RX12_52 dX12_wordAt_28 ?_
      refine lv_iload hx hb dX12_wordAt_31 (lo_at hl 4 rfl) ?_
      refine lv_iconst (v := 1) hx hb dX12_wordAt_33 (by decide) ?_
      refine lv_iadd hx hb dX12_wordAt_34 ?_
      refine lv_iload hx hb dX12_wordAt_35 (lo_at hl 5 rfl) ?_
      refine lv_iadd hx hb dX12_wordAt_37 ?_
      obtain ⟨k5, hw⟩ := hw
      refine sf_2 k5.1 ?_
      refine s_iald hx hb hg hC k5.2.1 k5.2.2 dX12_wordAt_38 ?_
      refine lv_topi (fun v6 ev6 => ?_)
      replace hw := hw v6 ev6
      refine lv_aload_n hx hb dX12_wordAt_39 rfl (lo_at hl 0 rfl) ?_
      refine s_getR hx hb hts hown hg hC fb_10_18 k4 mk_f_RX12_49 dX12_wordAt_40 ?_
      refine lv_iload_n hx hb dX12_wordAt_43 rfl (lo_at hl 1 rfl) ?_
      refine lv_iload hx hb dX12_wordAt_44 (lo_at hl 5 rfl) ?_
      refine lv_iadd hx hb dX12_wordAt_46 ?_
      obtain ⟨k7, hw⟩ := hw
      refine sf_2 k7.1 ?_
      refine s_iald hx hb hg hC k7.2.1 k7.2.2 dX12_wordAt_47 ?_
      refine lv_topi (fun v8 ev8 => ?_)
      replace hw := hw v8 ev8
      refine lv_icmp_ne (tgt := 60) hx hb dX12_wordAt_48 (by decide) (fun c9 => ?_) (fun c9 => ?_)
      ·
        replace hw := (if_neg c9).mp hw
        exact hK60 x5 h H locs ls hC (lo_sub hl [0, 1, 2, 3, 4, 5] rfl) hw
      ·
        replace hw := (if_pos c9).mp hw
        refine lv_iload hx hb dX12_wordAt_51 (lo_at hl 5 rfl) ?_
        refine lv_iconst (v := 1) hx hb dX12_wordAt_53 (by decide) ?_
        refine lv_iadd hx hb dX12_wordAt_54 ?_
        refine lv_topi (fun v10 ev10 => ?_)
        replace hw := hw v10 ev10
        refine lo_istore (lv' := [(5, .int v10), (0, .ref (A o)), (1, .int x1), (2, .int x2), (3, .int x3), (4, .int x4)]) hx hb dX12_wordAt_55 hl (by decide) rfl (fun ls hl => ?_)
        refine lv_goto (tgt := 19) hx hb dX12_wordAt_57 (by decide) ?_
        exact ih v10 h H locs ls hC (lo_sub hl [1, 2, 3, 4, 5, 0] rfl) hw
set_option maxHeartbeats 4000000 in
set_option maxRecDepth 100000 in
theorem t_X12_wordAt_L93 {p : Program} {l : Launch} {e : Env} {s : State} {m : MethodId} {args : Array Value} {below : List Frame} {meth : Method} {c : Code} {G : GG} {base : Nat} {A : Nat → Nat} {g0 : Hp} (hM : Mx G base p s m args meth c cX12_wordAt 6 (some .int) RX12 "wordAt") (o : Nat) (x1 : Int32) (x2 : Int32) (x3 : Int32) (K114 : Int32 → Hp → Prop) (Q : Int32 → Hp → Prop) (hK114 : ∀ (y4 : Int32) (h : Hp) (H : Heap) (locs : List Loc) (ls : Array Slot), Cx2 G base A g0 A h s.heap H locs → lo_has ls 6 [(0, .ref (A o)), (1, .int x1), (2, .int x2), (3, .int x3), (4, .int y4)] → K114 y4 h → W p l e rm_X12_wordAt s m args below meth c H locs 0 0 (MQ below (va_Qi Q (PU2 G base A g0 A) (fun q => base ≤ q)) args s 0 0 (fun q => base ≤ q)) (F0 m 114 ls [])) : ∀ (n : Nat) (x4 : Int32) (h : Hp) (H : Heap) (locs : List Loc) (ls : Array Slot), Cx2 G base A g0 A h s.heap H locs → lo_has ls 6 [(0, .ref (A o)), (1, .int x1), (2, .int x2), (3, .int x3), (4, .int x4)] → wp_X12_wordAt_L93 o x1 x2 x3 K114 Q n x4 h → W p l e rm_X12_wordAt s m args below meth c H locs 0 0 (MQ below (va_Qi Q (PU2 G base A g0 A) (fun q => base ≤ q)) args s 0 0 (fun q => base ≤ q)) (F0 m 93 ls []) := by
  intro n
  induction n with
  | zero =>
    intro x4 h H locs ls hC hl hw
    rw [wp_X12_wordAt_L93] at hw
    exact hw.elim
  | succ n ih =>
    intro x4 h H locs ls hC hl hw
    rw [wp_X12_wordAt_L93] at hw
    obtain ⟨hx, hb, hr, hml, hown, hts, hg, hs, hlk, hnm⟩ := id hM
    refine lv_aload_n hx hb dX12_wordAt_93 rfl (lo_at hl 0 rfl) ?_
    obtain ⟨k15, hw⟩ := hw
    refine s_getR hx hb hts hown hg hC fb_10_24 k15 mk_f_RX12_52 dX12_wordAt_94 ?_
    refine lv_iload hx hb dX12_wordAt_97 (lo_at hl 4 rfl) ?_
    obtain ⟨k16, hw⟩ := hw
    refine sf_2 k16.1 ?_
    refine s_iald hx hb hg hC k16.2.1 k16.2.2 dX12_wordAt_99 ?_
    refine lv_topi (fun v17 ev17 => ?_)
    replace hw := hw v17 ev17
    refine lv_bipush (v := 32) hx hb dX12_wordAt_100 (by decide) ?_
    refine lv_icmp_eq (tgt := 114) hx hb dX12_wordAt_102 (by decide) (fun c18 => ?_) (fun c18 => ?_)
    ·
      replace hw := (if_pos c18).mp hw
      exact hK114 x4 h H locs ls hC (lo_sub hl [0, 1, 2, 3, 4] rfl) hw
    ·
      replace hw := (if_neg c18).mp hw
      refine lv_iload hx hb dX12_wordAt_105 (lo_at hl 4 rfl) ?_
      refine lv_iconst (v := 1) hx hb dX12_wordAt_107 (by decide) ?_
      refine lv_iadd hx hb dX12_wordAt_108 ?_
      refine lv_topi (fun v19 ev19 => ?_)
      replace hw := hw v19 ev19
      refine lo_istore (lv' := [(4, .int v19), (0, .ref (A o)), (1, .int x1), (2, .int x2), (3, .int x3)]) hx hb dX12_wordAt_109 hl (by decide) rfl (fun ls hl => ?_)
      refine lv_goto (tgt := 93) hx hb dX12_wordAt_111 (by decide) ?_
      exact ih v19 h H locs ls hC (lo_sub hl [1, 2, 3, 4, 0] rfl) hw
set_option maxHeartbeats 4000000 in
set_option maxRecDepth 100000 in
theorem t_X12_wordAt_L5 {p : Program} {l : Launch} {e : Env} {s : State} {m : MethodId} {args : Array Value} {below : List Frame} {meth : Method} {c : Code} {G : GG} {base : Nat} {A : Nat → Nat} {g0 : Hp} (hM : Mx G base p s m args meth c cX12_wordAt 6 (some .int) RX12 "wordAt") (o : Nat) (x1 : Int32) (x2 : Int32) (K85 : Int32 → Hp → Prop) (K117 : Hp → Prop) (Q : Int32 → Hp → Prop) (hK85 : ∀ (y3 : Int32) (h : Hp) (H : Heap) (locs : List Loc) (ls : Array Slot), Cx2 G base A g0 A h s.heap H locs → lo_has ls 6 [(3, .int y3)] → K85 y3 h → W p l e rm_X12_wordAt s m args below meth c H locs 0 0 (MQ below (va_Qi Q (PU2 G base A g0 A) (fun q => base ≤ q)) args s 0 0 (fun q => base ≤ q)) (F0 m 85 ls [])) (hK117 : ∀ (h : Hp) (H : Heap) (locs : List Loc) (ls : Array Slot), Cx2 G base A g0 A h s.heap H locs → lo_has ls 6 [] → K117 h → W p l e rm_X12_wordAt s m args below meth c H locs 0 0 (MQ below (va_Qi Q (PU2 G base A g0 A) (fun q => base ≤ q)) args s 0 0 (fun q => base ≤ q)) (F0 m 117 ls [])) : ∀ (n : Nat) (x3 : Int32) (x4 : Int32) (h : Hp) (H : Heap) (locs : List Loc) (ls : Array Slot), Cx2 G base A g0 A h s.heap H locs → lo_has ls 6 [(0, .ref (A o)), (1, .int x1), (2, .int x2), (3, .int x3), (4, .int x4)] → wp_X12_wordAt_L5 o x1 x2 K85 K117 Q n x3 x4 h → W p l e rm_X12_wordAt s m args below meth c H locs 0 0 (MQ below (va_Qi Q (PU2 G base A g0 A) (fun q => base ≤ q)) args s 0 0 (fun q => base ≤ q)) (F0 m 5 ls []) := by
  intro n
  induction n with
  | zero =>
    intro x3 x4 h H locs ls hC hl hw
    rw [wp_X12_wordAt_L5] at hw
    exact hw.elim
  | succ n ih =>
    intro x3 x4 h H locs ls hC hl hw
    rw [wp_X12_wordAt_L5] at hw
    obtain ⟨hx, hb, hr, hml, hown, hts, hg, hs, hlk, hnm⟩ := id hM
    refine lv_iload hx hb dX12_wordAt_5 (lo_at hl 4 rfl) ?_
    refine lv_bipush (v := 114) hx hb dX12_wordAt_7 (by decide) ?_
    refine lv_icmp_ge (tgt := 117) hx hb dX12_wordAt_9 (by decide) (fun c1 => ?_) (fun c1 => ?_)
    ·
      replace hw := (if_pos c1).mp hw
      exact hK117  h H locs ls hC (lo_sub hl [] rfl) hw
    ·
      replace hw := (if_neg c1).mp hw
      refine lv_iconst (v := 0) hx hb dX12_wordAt_12 (by decide) ?_
      refine lo_istore (lv' := [(5, .int ((0 : Int32))), (0, .ref (A o)), (1, .int x1), (2, .int x2), (3, .int x3), (4, .int x4)]) hx hb dX12_wordAt_13 hl (by decide) rfl (fun ls hl => ?_)
      refine lv_iload_n hx hb dX12_wordAt_15 rfl (lo_at hl 4 rfl) ?_
      refine lv_iconst (v := 1) hx hb dX12_wordAt_16 (by decide) ?_
      refine lv_iadd hx hb dX12_wordAt_17 ?_
      refine lv_topi (fun v2 ev2 => ?_)
      replace hw := hw v2 ev2
      refine lo_istore_n (lv' := [(3, .int v2), (5, .int ((0 : Int32))), (0, .ref (A o)), (1, .int x1), (2, .int x2), (4, .int x4)]) hx hb dX12_wordAt_18 rfl hl (by decide) rfl (fun ls hl => ?_)
      refine t_X12_wordAt_L19 hM o x1 x2 v2 x4 _ Q ?_ fuel (0 : Int32) h H locs ls hC (lo_sub hl [2, 3, 4, 0, 5, 1] rfl) hw
      intro y12 h11 H locs ls hC hl hw
      refine lv_iload_n hx hb dX12_wordAt_60 rfl (lo_at hl 1 rfl) ?_
      refine lv_iload hx hb dX12_wordAt_61 (lo_at hl 5 rfl) ?_
      refine lv_iadd hx hb dX12_wordAt_63 ?_
      refine lv_iload_n hx hb dX12_wordAt_64 rfl (lo_at hl 2 rfl) ?_
      refine lv_icmp_ne (tgt := 87) hx hb dX12_wordAt_65 (by decide) (fun c13 => ?_) (fun c13 => ?_)
      ·
        replace hw := (if_neg c13).mp hw
        refine lv_iload hx hb dX12_wordAt_87 (lo_at hl 4 rfl) ?_
        refine lv_iconst (v := 1) hx hb dX12_wordAt_89 (by decide) ?_
        refine lv_iadd hx hb dX12_wordAt_90 ?_
        refine lv_topi (fun v14 ev14 => ?_)
        replace hw := hw v14 ev14
        refine lo_istore (lv' := [(4, .int v14), (0, .ref (A o)), (1, .int x1), (2, .int x2), (3, .int v2), (5, .int y12)]) hx hb dX12_wordAt_91 hl (by decide) rfl (fun ls hl => ?_)
        refine t_X12_wordAt_L93 hM o x1 x2 v2 _ Q ?_ fuel v14 h11 H locs ls hC (lo_sub hl [1, 2, 3, 4, 0] rfl) hw
        intro y21 h20 H locs ls hC hl hw
        refine lv_goto (tgt := 5) hx hb dX12_wordAt_114 (by decide) ?_
        exact ih v2 y21 h20 H locs ls hC (lo_sub hl [0, 1, 2, 3, 4] rfl) hw
      ·
        replace hw := (if_pos c13).mp hw
        refine lv_aload_n hx hb dX12_wordAt_68 rfl (lo_at hl 0 rfl) ?_
        obtain ⟨k22, hw⟩ := hw
        refine s_getR hx hb hts hown hg hC fb_10_24 k22 mk_f_RX12_52 dX12_wordAt_69 ?_
        refine lv_iload hx hb dX12_wordAt_72 (lo_at hl 4 rfl) ?_
        refine lv_iconst (v := 1) hx hb dX12_wordAt_74 (by decide) ?_
        refine lv_iadd hx hb dX12_wordAt_75 ?_
        refine lv_iload hx hb dX12_wordAt_76 (lo_at hl 5 rfl) ?_
        refine lv_iadd hx hb dX12_wordAt_78 ?_
        obtain ⟨k23, hw⟩ := hw
        refine sf_2 k23.1 ?_
        refine s_iald hx hb hg hC k23.2.1 k23.2.2 dX12_wordAt_79 ?_
        refine lv_topi (fun v24 ev24 => ?_)
        replace hw := hw v24 ev24
        refine lv_bipush (v := 32) hx hb dX12_wordAt_80 (by decide) ?_
        refine lv_icmp_ne (tgt := 87) hx hb dX12_wordAt_82 (by decide) (fun c25 => ?_) (fun c25 => ?_)
        ·
          replace hw := (if_neg c25).mp hw
          refine lv_iload hx hb dX12_wordAt_87 (lo_at hl 4 rfl) ?_
          refine lv_iconst (v := 1) hx hb dX12_wordAt_89 (by decide) ?_
          refine lv_iadd hx hb dX12_wordAt_90 ?_
          refine lv_topi (fun v26 ev26 => ?_)
          replace hw := hw v26 ev26
          refine lo_istore (lv' := [(4, .int v26), (0, .ref (A o)), (1, .int x1), (2, .int x2), (3, .int v2), (5, .int y12)]) hx hb dX12_wordAt_91 hl (by decide) rfl (fun ls hl => ?_)
          refine t_X12_wordAt_L93 hM o x1 x2 v2 _ Q ?_ fuel v26 h11 H locs ls hC (lo_sub hl [1, 2, 3, 4, 0] rfl) hw
          intro y28 h27 H locs ls hC hl hw
          refine lv_goto (tgt := 5) hx hb dX12_wordAt_114 (by decide) ?_
          exact ih v2 y28 h27 H locs ls hC (lo_sub hl [0, 1, 2, 3, 4] rfl) hw
        ·
          replace hw := (if_pos c25).mp hw
          exact hK85 v2 h11 H locs ls hC (lo_sub hl [3] rfl) hw
set_option maxHeartbeats 4000000 in
set_option maxRecDepth 100000 in
theorem c_X12_wordAt (l : Launch) (G : GG) (base : Nat) (A : Nat → Nat) (o : Nat) (x1 : Int32) (x2 : Int32) (h : Hp) (Q : Int32 → Hp → Prop) (hw : wp_X12_wordAt o x1 x2 h Q) : Met l yX12_wordAt (ww yX12_wordAt cX12_wordAt 6 (some .int)) rm_X12_wordAt (va_Pc [.ref (A o), .int x1, .int x2] (PU2 G base A h A h)) (va_Qi Q (PU2 G base A h A) (fun q => base ≤ q)) 0 0 (fun q => base ≤ q) := by
  refine met2_of (own := RX12) (nm := "wordAt") (by decide) rfl rfl (List.forall_mem_cons.mpr ⟨rfl, (List.forall_mem_cons.mpr ⟨rfl, (List.forall_mem_cons.mpr ⟨rfl, (fun _ h => absurd h List.not_mem_nil)⟩)⟩)⟩) (Nat.le_of_ble_eq_true rfl) rfl ?_
  intro p e s m args below meth c H locs ls hM hC hl
  obtain ⟨hx, hb, hr, hml, hown, hts, hg, hs, hlk, hnm⟩ := id hM
  unfold wp_X12_wordAt at hw
  refine lv_iconst (v := -1) hx hb dX12_wordAt_0 (by decide) ?_
  refine lo_istore_n (lv' := [(3, .int ((-1 : Int32))), (0, .ref (A o)), (1, .int x1), (2, .int x2)]) hx hb dX12_wordAt_1 rfl hl (by decide) rfl (fun ls hl => ?_)
  refine lv_iconst (v := 0) hx hb dX12_wordAt_2 (by decide) ?_
  refine lo_istore (lv' := [(4, .int ((0 : Int32))), (3, .int ((-1 : Int32))), (0, .ref (A o)), (1, .int x1), (2, .int x2)]) hx hb dX12_wordAt_3 hl (by decide) rfl (fun ls hl => ?_)
  refine t_X12_wordAt_L5 hM o x1 x2 _ _ Q ?_ ?_ fuel (-1 : Int32) (0 : Int32) h H locs ls hC (lo_sub hl [2, 3, 4, 1, 0] rfl) hw
  ·
    intro y30 h29 H locs ls hC hl hw
    refine lv_iload_n hx hb dX12_wordAt_85 rfl (lo_at hl 0 rfl) ?_
    exact ret2_i hM hC hw dX12_wordAt_86
  ·
    intro  h31 H locs ls hC hl hw
    refine lv_iconst (v := -1) hx hb dX12_wordAt_117 (by decide) ?_
    exact ret2_i hM hC hw dX12_wordAt_118
abbrev rm_X12_reads : Room := { frames := 2, cells := 0, slots := 0, locals := 44 }
set_option maxRecDepth 100000 in
def wp_X12_reads_J26 (o : Nat) (KH : Hp → Prop) (K39 : Hp → Prop) (Q : Hp → Prop) (h : Hp) : Prop := ((hpK h o).1 = 20 + 10) ∧ (∀ h6 : Hp, h6 = stI h o 20 ((hpI h o 20) + (1 : Int32)) → (KH h6))
set_option maxRecDepth 100000 in
def wp_X12_reads_L0 (o : Nat) (K39 : Hp → Prop) (Q : Hp → Prop) : Nat → Hp → Prop
  | 0, _ => False
  | n + 1, h => ((hpK h o).1 = 20 + 10) ∧ (wp_X12_raw o (hpI h o 20) h (fun (z3 : Int32) (h2 : Hp) => (if z3 = (32 : Int32) then (wp_X12_reads_J26 o (wp_X12_reads_L0 o K39 Q n) K39 Q h2) else (((hpK h2 o).1 = 20 + 10) ∧ (wp_X12_raw o (hpI h2 o 20) h2 (fun (z9 : Int32) (h8 : Hp) => (if z9 = (10 : Int32) then (wp_X12_reads_J26 o (wp_X12_reads_L0 o K39 Q n) K39 Q h8) else (K39 h8))))))))
set_option maxRecDepth 100000 in
def wp_X12_reads_J223 (o : Nat) (s0 : Int32) (s1 : Option Nat) (KH : Hp → Prop) (K239 : Hp → Prop) (Q : Hp → Prop) (h : Hp) : Prop := okO h s1 10 ∧ (∀ h50 : Hp, h50 = stI h (ad s1) 23 s0 → (((hpK h50 o).1 = 20 + 10) ∧ (∀ h52 : Hp, h52 = stI h50 o 20 ((hpI h50 o 20) + (1 : Int32)) → (KH h52))))
set_option maxRecDepth 100000 in
def wp_X12_reads_L171 (o : Nat) (K239 : Hp → Prop) (Q : Hp → Prop) : Nat → Hp → Prop
  | 0, _ => False
  | n + 1, h => ((hpK h o).1 = 20 + 10) ∧ (wp_X12_raw o (hpI h o 20) h (fun (z42 : Int32) (h41 : Hp) => ((hpK h41 o).1 = 20 + 10) ∧ (wp_X12_isDigit o z42 h41 (fun (z45 : Int32) (h44 : Hp) => (if z45 = 0 then (K239 h44) else (((hpK h44 o).1 = 20 + 10) ∧ ((if (10000 : Int32) ≤ (hpI h44 o 23) then (wp_X12_reads_J223 o (hpI h44 o 23) (some o) (wp_X12_reads_L171 o K239 Q n) K239 Q h44) else (wp_X12_raw o (hpI h44 o 20) h44 (fun (z54 : Int32) (h53 : Hp) => wp_X12_reads_J223 o ((((10 : Int32) * (hpI h44 o 23)) + z54) - (48 : Int32)) (some o) (wp_X12_reads_L171 o K239 Q n) K239 Q h53))))))))))
set_option maxRecDepth 100000 in
def wp_X12_reads_L95 (o : Nat) (K123 : Hp → Prop) (Q : Hp → Prop) : Nat → Hp → Prop
  | 0, _ => False
  | n + 1, h => ((hpK h o).1 = 20 + 10) ∧ (wp_X12_raw o (hpI h o 20) h (fun (z61 : Int32) (h60 : Hp) => ((hpK h60 o).1 = 20 + 10) ∧ (wp_X12_isLetter o z61 h60 (fun (z64 : Int32) (h63 : Hp) => (if z64 = 0 then (K123 h63) else (((hpK h63 o).1 = 20 + 10) ∧ (∀ h67 : Hp, h67 = stI h63 o 20 ((hpI h63 o 20) + (1 : Int32)) → (wp_X12_reads_L95 o K123 Q n h67))))))))
set_option maxRecDepth 100000 in
def wp_X12_reads (o : Nat) (h : Hp) (Q : Hp → Prop) : Prop := wp_X12_reads_L0 o (fun (h11 : Hp) => ((hpK h11 o).1 = 20 + 10) ∧ (∀ h13 : Hp, h13 = stI h11 o 21 (hpI h11 o 20) → (((hpK h13 o).1 = 20 + 10) ∧ (∀ h15 : Hp, h15 = stI h13 o 22 (1 : Int32) → (((hpK h15 o).1 = 20 + 10) ∧ (wp_X12_raw o (hpI h15 o 20) h15 (fun (z18 : Int32) (h17 : Hp) => (if z18 = (-1 : Int32) then (((hpK h17 o).1 = 20 + 10) ∧ (∀ h78 : Hp, h78 = stI h17 o 22 (0 : Int32) → (Q h78))) else (((hpK h17 o).1 = 20 + 10) ∧ (∀ h21 : Hp, h21 = stI h17 o 20 ((hpI h17 o 20) + (1 : Int32)) → (((hpK h21 o).1 = 20 + 10) ∧ (∀ h23 : Hp, h23 = stI h21 o 23 z18 → (((hpK h23 o).1 = 20 + 10) ∧ (wp_X12_isLetter o z18 h23 (fun (z26 : Int32) (h25 : Hp) => (if z26 = 0 then (((hpK h25 o).1 = 20 + 10) ∧ (wp_X12_isDigit o z18 h25 (fun (z30 : Int32) (h29 : Hp) => (if z30 = 0 then (((hpK h29 o).1 = 20 + 10) ∧ (wp_X12_isMarkSign o z18 h29 (fun (z34 : Int32) (h33 : Hp) => (if z34 = 0 then (Q h33) else (((hpK h33 o).1 = 20 + 10) ∧ (∀ h37 : Hp, h37 = stI h33 o 22 (4 : Int32) → (Q h37))))))) else (((hpK h29 o).1 = 20 + 10) ∧ (∀ h39 : Hp, h39 = stI h29 o 23 (z18 - (48 : Int32)) → (wp_X12_reads_L171 o (fun (h55 : Hp) => ((hpK h55 o).1 = 20 + 10) ∧ ((if (5 : Int32) ≤ ((hpI h55 o 20) - (hpI h55 o 21)) then (Q h55) else (∀ h58 : Hp, h58 = stI h55 o 22 (3 : Int32) → (Q h58))))) Q fuel h39))))))) else (wp_X12_reads_L95 o (fun (h68 : Hp) => ((hpK h68 o).1 = 20 + 10) ∧ (wp_X12_wordAt o (hpI h68 o 21) (hpI h68 o 20) h68 (fun (z71 : Int32) (h70 : Hp) => ((hpK h70 o).1 = 20 + 10) ∧ (∀ h73 : Hp, h73 = stI h70 o 23 z71 → (((hpK h73 o).1 = 20 + 10) ∧ ((if (hpI h73 o 23) = (-1 : Int32) then (Q h73) else (∀ h76 : Hp, h76 = stI h73 o 22 (2 : Int32) → (Q h76))))))))) Q fuel h25))))))))))))))))) Q fuel h
set_option maxHeartbeats 4000000 in
set_option maxRecDepth 100000 in
theorem t_X12_reads_J26 {p : Program} {l : Launch} {e : Env} {s : State} {m : MethodId} {args : Array Value} {below : List Frame} {meth : Method} {c : Code} {G : GG} {base : Nat} {A : Nat → Nat} {g0 : Hp} (hM : Mx G base p s m args meth c cX12_reads 2 none RX12 "reads") (o : Nat) (KH : Hp → Prop) (K39 : Hp → Prop) (Q : Hp → Prop) (hKH : ∀ (h : Hp) (H : Heap) (locs : List Loc) (ls : Array Slot), Cx2 G base A g0 A h s.heap H locs → lo_has ls 2 [(0, .ref (A o))] → KH h → W p l e rm_X12_reads s m args below meth c H locs 0 0 (MQ below (va_Qv Q (PU2 G base A g0 A) (fun q => base ≤ q)) args s 0 0 (fun q => base ≤ q)) (F0 m 0 ls [])) (hK39 : ∀ (h : Hp) (H : Heap) (locs : List Loc) (ls : Array Slot), Cx2 G base A g0 A h s.heap H locs → lo_has ls 2 [(0, .ref (A o))] → K39 h → W p l e rm_X12_reads s m args below meth c H locs 0 0 (MQ below (va_Qv Q (PU2 G base A g0 A) (fun q => base ≤ q)) args s 0 0 (fun q => base ≤ q)) (F0 m 39 ls [])) (h : Hp) (H : Heap) (locs : List Loc) (ls : Array Slot) : Cx2 G base A g0 A h s.heap H locs → lo_has ls 2 [(0, .ref (A o))] → wp_X12_reads_J26 o KH K39 Q h → W p l e rm_X12_reads s m args below meth c H locs 0 0 (MQ below (va_Qv Q (PU2 G base A g0 A) (fun q => base ≤ q)) args s 0 0 (fun q => base ≤ q)) (F0 m 26 ls []) := by
  intro hC hl hw
  unfold wp_X12_reads_J26 at hw
  obtain ⟨hx, hb, hr, hml, hown, hts, hg, hs, hlk, hnm⟩ := id hM
  refine lv_aload_n hx hb dX12_reads_26 rfl (lo_at hl 0 rfl) ?_
  refine lv_aload_n hx hb dX12_reads_27 rfl (lo_at hl 0 rfl) ?_
  obtain ⟨k5, hw⟩ := hw
  refine s_getI hx hb hts hown hg hC fb_10_20 k5 mk_f_RX12_182 dX12_reads_28 ?_
  refine lv_iconst (v := 1) hx hb dX12_reads_31 (by decide) ?_
  refine lv_iadd hx hb dX12_reads_32 ?_
  refine s_putI hx hb hts hown hg hC fb_10_20 k5 rfl rfl mk_f_RX12_182 dX12_reads_33 (fun h6 H locs eh6 hC => ?_)
  replace hw := hw h6 eh6
  refine lv_goto (tgt := 0) hx hb dX12_reads_36 (by decide) ?_
  exact hKH  h6 H locs ls hC (lo_sub hl [0] rfl) hw
set_option maxHeartbeats 4000000 in
set_option maxRecDepth 100000 in
theorem t_X12_reads_L0 {p : Program} {l : Launch} {e : Env} {s : State} {m : MethodId} {args : Array Value} {below : List Frame} {meth : Method} {c : Code} {G : GG} {base : Nat} {A : Nat → Nat} {g0 : Hp} (hM : Mx G base p s m args meth c cX12_reads 2 none RX12 "reads") (o : Nat) (K39 : Hp → Prop) (Q : Hp → Prop) (hK39 : ∀ (h : Hp) (H : Heap) (locs : List Loc) (ls : Array Slot), Cx2 G base A g0 A h s.heap H locs → lo_has ls 2 [(0, .ref (A o))] → K39 h → W p l e rm_X12_reads s m args below meth c H locs 0 0 (MQ below (va_Qv Q (PU2 G base A g0 A) (fun q => base ≤ q)) args s 0 0 (fun q => base ≤ q)) (F0 m 39 ls [])) : ∀ (n : Nat) (h : Hp) (H : Heap) (locs : List Loc) (ls : Array Slot), Cx2 G base A g0 A h s.heap H locs → lo_has ls 2 [(0, .ref (A o))] → wp_X12_reads_L0 o K39 Q n h → W p l e rm_X12_reads s m args below meth c H locs 0 0 (MQ below (va_Qv Q (PU2 G base A g0 A) (fun q => base ≤ q)) args s 0 0 (fun q => base ≤ q)) (F0 m 0 ls []) := by
  intro n
  induction n with
  | zero =>
    intro  h H locs ls hC hl hw
    rw [wp_X12_reads_L0] at hw
    exact hw.elim
  | succ n ih =>
    intro  h H locs ls hC hl hw
    rw [wp_X12_reads_L0] at hw
    obtain ⟨hx, hb, hr, hml, hown, hts, hg, hs, hlk, hnm⟩ := id hM
    refine lv_aload_n hx hb dX12_reads_0 rfl (lo_at hl 0 rfl) ?_
    refine lv_aload_n hx hb dX12_reads_1 rfl (lo_at hl 0 rfl) ?_
    obtain ⟨k1, hw⟩ := hw
    refine s_getI hx hb hts hown hg hC fb_10_20 k1 mk_f_RX12_182 dX12_reads_2 ?_
    refine res2_i hC (run2_V (As := [.int (hpI h o 20)]) (rest := []) hM hC hl.1.1 kv_RX12_185 (c_X12_raw l G base A o (hpI h o 20) h _ hw) (hc_10) k1 rfl rfl rfl ⟨Nat.le_of_ble_eq_true rfl, Nat.le_of_ble_eq_true rfl⟩ (Nat.le_of_ble_eq_true rfl) ⟨Nat.le_of_ble_eq_true rfl, Nat.le_of_ble_eq_true rfl⟩ dX12_reads_5) (fun z3 h2 H locs hw hC => ?_)
    refine lv_bipush (v := 32) hx hb dX12_reads_8 (by decide) ?_
    refine lv_icmp_eq (tgt := 26) hx hb dX12_reads_10 (by decide) (fun c4 => ?_) (fun c4 => ?_)
    ·
      replace hw := (if_pos c4).mp hw
      exact t_X12_reads_J26 hM o (wp_X12_reads_L0 o K39 Q n) K39 Q ih hK39 h2 H locs ls hC (lo_sub hl [0] rfl) hw
    ·
      replace hw := (if_neg c4).mp hw
      refine lv_aload_n hx hb dX12_reads_13 rfl (lo_at hl 0 rfl) ?_
      refine lv_aload_n hx hb dX12_reads_14 rfl (lo_at hl 0 rfl) ?_
      obtain ⟨k7, hw⟩ := hw
      refine s_getI hx hb hts hown hg hC fb_10_20 k7 mk_f_RX12_182 dX12_reads_15 ?_
      refine res2_i hC (run2_V (As := [.int (hpI h2 o 20)]) (rest := []) hM hC hl.1.1 kv_RX12_185 (c_X12_raw l G base A o (hpI h2 o 20) h2 _ hw) (hc_10) k7 rfl rfl rfl ⟨Nat.le_of_ble_eq_true rfl, Nat.le_of_ble_eq_true rfl⟩ (Nat.le_of_ble_eq_true rfl) ⟨Nat.le_of_ble_eq_true rfl, Nat.le_of_ble_eq_true rfl⟩ dX12_reads_18) (fun z9 h8 H locs hw hC => ?_)
      refine lv_bipush (v := 10) hx hb dX12_reads_21 (by decide) ?_
      refine lv_icmp_ne (tgt := 39) hx hb dX12_reads_23 (by decide) (fun c10 => ?_) (fun c10 => ?_)
      ·
        replace hw := (if_neg c10).mp hw
        exact hK39  h8 H locs ls hC (lo_sub hl [0] rfl) hw
      ·
        replace hw := (if_pos c10).mp hw
        exact t_X12_reads_J26 hM o (wp_X12_reads_L0 o K39 Q n) K39 Q ih hK39 h8 H locs ls hC (lo_sub hl [0] rfl) hw
set_option maxHeartbeats 4000000 in
set_option maxRecDepth 100000 in
theorem t_X12_reads_J223 {p : Program} {l : Launch} {e : Env} {s : State} {m : MethodId} {args : Array Value} {below : List Frame} {meth : Method} {c : Code} {G : GG} {base : Nat} {A : Nat → Nat} {g0 : Hp} (hM : Mx G base p s m args meth c cX12_reads 2 none RX12 "reads") (o : Nat) (s0 : Int32) (s1 : Option Nat) (KH : Hp → Prop) (K239 : Hp → Prop) (Q : Hp → Prop) (hKH : ∀ (h : Hp) (H : Heap) (locs : List Loc) (ls : Array Slot), Cx2 G base A g0 A h s.heap H locs → lo_has ls 2 [(0, .ref (A o))] → KH h → W p l e rm_X12_reads s m args below meth c H locs 0 0 (MQ below (va_Qv Q (PU2 G base A g0 A) (fun q => base ≤ q)) args s 0 0 (fun q => base ≤ q)) (F0 m 171 ls [])) (hK239 : ∀ (h : Hp) (H : Heap) (locs : List Loc) (ls : Array Slot), Cx2 G base A g0 A h s.heap H locs → lo_has ls 2 [(0, .ref (A o))] → K239 h → W p l e rm_X12_reads s m args below meth c H locs 0 0 (MQ below (va_Qv Q (PU2 G base A g0 A) (fun q => base ≤ q)) args s 0 0 (fun q => base ≤ q)) (F0 m 239 ls [])) (h : Hp) (H : Heap) (locs : List Loc) (ls : Array Slot) : Cx2 G base A g0 A h s.heap H locs → lo_has ls 2 [(0, .ref (A o))] → wp_X12_reads_J223 o s0 s1 KH K239 Q h → W p l e rm_X12_reads s m args below meth c H locs 0 0 (MQ below (va_Qv Q (PU2 G base A g0 A) (fun q => base ≤ q)) args s 0 0 (fun q => base ≤ q)) (F0 m 223 ls [.int s0, va_rf (Option.map A s1)]) := by
  intro hC hl hw
  unfold wp_X12_reads_J223 at hw
  obtain ⟨hx, hb, hr, hml, hown, hts, hg, hs, hlk, hnm⟩ := id hM
  obtain ⟨k49, hw⟩ := hw
  refine sf_2 k49.1 ?_
  refine s_putI hx hb hts hown hg hC fb_10_23 k49.2 rfl rfl mk_f_RX12_194 dX12_reads_223 (fun h50 H locs eh50 hC => ?_)
  replace hw := hw h50 eh50
  refine lv_aload_n hx hb dX12_reads_226 rfl (lo_at hl 0 rfl) ?_
  refine lv_aload_n hx hb dX12_reads_227 rfl (lo_at hl 0 rfl) ?_
  obtain ⟨k51, hw⟩ := hw
  refine s_getI hx hb hts hown hg hC fb_10_20 k51 mk_f_RX12_182 dX12_reads_228 ?_
  refine lv_iconst (v := 1) hx hb dX12_reads_231 (by decide) ?_
  refine lv_iadd hx hb dX12_reads_232 ?_
  refine s_putI hx hb hts hown hg hC fb_10_20 k51 rfl rfl mk_f_RX12_182 dX12_reads_233 (fun h52 H locs eh52 hC => ?_)
  replace hw := hw h52 eh52
  refine lv_goto (tgt := 171) hx hb dX12_reads_236 (by decide) ?_
  exact hKH  h52 H locs ls hC (lo_sub hl [0] rfl) hw
set_option maxHeartbeats 4000000 in
set_option maxRecDepth 100000 in
theorem t_X12_reads_L171 {p : Program} {l : Launch} {e : Env} {s : State} {m : MethodId} {args : Array Value} {below : List Frame} {meth : Method} {c : Code} {G : GG} {base : Nat} {A : Nat → Nat} {g0 : Hp} (hM : Mx G base p s m args meth c cX12_reads 2 none RX12 "reads") (o : Nat) (K239 : Hp → Prop) (Q : Hp → Prop) (hK239 : ∀ (h : Hp) (H : Heap) (locs : List Loc) (ls : Array Slot), Cx2 G base A g0 A h s.heap H locs → lo_has ls 2 [(0, .ref (A o))] → K239 h → W p l e rm_X12_reads s m args below meth c H locs 0 0 (MQ below (va_Qv Q (PU2 G base A g0 A) (fun q => base ≤ q)) args s 0 0 (fun q => base ≤ q)) (F0 m 239 ls [])) : ∀ (n : Nat) (h : Hp) (H : Heap) (locs : List Loc) (ls : Array Slot), Cx2 G base A g0 A h s.heap H locs → lo_has ls 2 [(0, .ref (A o))] → wp_X12_reads_L171 o K239 Q n h → W p l e rm_X12_reads s m args below meth c H locs 0 0 (MQ below (va_Qv Q (PU2 G base A g0 A) (fun q => base ≤ q)) args s 0 0 (fun q => base ≤ q)) (F0 m 171 ls []) := by
  intro n
  induction n with
  | zero =>
    intro  h H locs ls hC hl hw
    rw [wp_X12_reads_L171] at hw
    exact hw.elim
  | succ n ih =>
    intro  h H locs ls hC hl hw
    rw [wp_X12_reads_L171] at hw
    obtain ⟨hx, hb, hr, hml, hown, hts, hg, hs, hlk, hnm⟩ := id hM
    refine lv_aload_n hx hb dX12_reads_171 rfl (lo_at hl 0 rfl) ?_
    refine lv_aload_n hx hb dX12_reads_172 rfl (lo_at hl 0 rfl) ?_
    refine lv_aload_n hx hb dX12_reads_173 rfl (lo_at hl 0 rfl) ?_
    obtain ⟨k40, hw⟩ := hw
    refine s_getI hx hb hts hown hg hC fb_10_20 k40 mk_f_RX12_182 dX12_reads_174 ?_
    refine res2_i hC (run2_V (As := [.int (hpI h o 20)]) (rest := [.ref (A o)]) hM hC hl.1.1 kv_RX12_185 (c_X12_raw l G base A o (hpI h o 20) h _ hw) (hc_10) k40 rfl rfl rfl ⟨Nat.le_of_ble_eq_true rfl, Nat.le_of_ble_eq_true rfl⟩ (Nat.le_of_ble_eq_true rfl) ⟨Nat.le_of_ble_eq_true rfl, Nat.le_of_ble_eq_true rfl⟩ dX12_reads_177) (fun z42 h41 H locs hw hC => ?_)
    obtain ⟨k43, hw⟩ := hw
    refine res2_i hC (run2_V (As := [.int z42]) (rest := []) hM hC hl.1.1 kv_RX12_204 (c_X12_isDigit l G base A o z42 h41 _ hw) (hc_10) k43 rfl rfl rfl ⟨Nat.le_of_ble_eq_true rfl, Nat.le_of_ble_eq_true rfl⟩ (Nat.le_of_ble_eq_true rfl) ⟨Nat.le_of_ble_eq_true rfl, Nat.le_of_ble_eq_true rfl⟩ dX12_reads_180) (fun z45 h44 H locs hw hC => ?_)
    refine lv_if_eq (tgt := 239) hx hb dX12_reads_183 (by decide) (fun c46 => ?_) (fun c46 => ?_)
    ·
      replace hw := (if_pos c46).mp hw
      exact hK239  h44 H locs ls hC (lo_sub hl [0] rfl) hw
    ·
      replace hw := (if_neg c46).mp hw
      refine lv_aload_n hx hb dX12_reads_186 rfl (lo_at hl 0 rfl) ?_
      refine lv_aload_n hx hb dX12_reads_187 rfl (lo_at hl 0 rfl) ?_
      obtain ⟨k47, hw⟩ := hw
      refine s_getI hx hb hts hown hg hC fb_10_23 k47 mk_f_RX12_194 dX12_reads_188 ?_
      refine lv_sipush (v := 10000) hx hb dX12_reads_191 (by decide) ?_
      refine lv_icmp_ge (tgt := 219) hx hb dX12_reads_194 (by decide) (fun c48 => ?_) (fun c48 => ?_)
      ·
        replace hw := (if_pos c48).mp hw
        refine lv_aload_n hx hb dX12_reads_219 rfl (lo_at hl 0 rfl) ?_
        refine s_getI hx hb hts hown hg hC fb_10_23 k47 mk_f_RX12_194 dX12_reads_220 ?_
        exact t_X12_reads_J223 hM o (hpI h44 o 23) (some o) (wp_X12_reads_L171 o K239 Q n) K239 Q ih hK239 h44 H locs ls hC (lo_sub hl [0] rfl) hw
      ·
        replace hw := (if_neg c48).mp hw
        refine lv_bipush (v := 10) hx hb dX12_reads_197 (by decide) ?_
        refine lv_aload_n hx hb dX12_reads_199 rfl (lo_at hl 0 rfl) ?_
        refine s_getI hx hb hts hown hg hC fb_10_23 k47 mk_f_RX12_194 dX12_reads_200 ?_
        refine lv_imul hx hb dX12_reads_203 ?_
        refine lv_aload_n hx hb dX12_reads_204 rfl (lo_at hl 0 rfl) ?_
        refine lv_aload_n hx hb dX12_reads_205 rfl (lo_at hl 0 rfl) ?_
        refine s_getI hx hb hts hown hg hC fb_10_20 k47 mk_f_RX12_182 dX12_reads_206 ?_
        refine res2_i hC (run2_V (As := [.int (hpI h44 o 20)]) (rest := [.int ((10 : Int32) * (hpI h44 o 23)), .ref (A o)]) hM hC hl.1.1 kv_RX12_185 (c_X12_raw l G base A o (hpI h44 o 20) h44 _ hw) (hc_10) k47 rfl rfl rfl ⟨Nat.le_of_ble_eq_true rfl, Nat.le_of_ble_eq_true rfl⟩ (Nat.le_of_ble_eq_true rfl) ⟨Nat.le_of_ble_eq_true rfl, Nat.le_of_ble_eq_true rfl⟩ dX12_reads_209) (fun z54 h53 H locs hw hC => ?_)
        refine lv_iadd hx hb dX12_reads_212 ?_
        refine lv_bipush (v := 48) hx hb dX12_reads_213 (by decide) ?_
        refine lv_isub hx hb dX12_reads_215 ?_
        refine lv_goto (tgt := 223) hx hb dX12_reads_216 (by decide) ?_
        exact t_X12_reads_J223 hM o ((((10 : Int32) * (hpI h44 o 23)) + z54) - (48 : Int32)) (some o) (wp_X12_reads_L171 o K239 Q n) K239 Q ih hK239 h53 H locs ls hC (lo_sub hl [0] rfl) hw
set_option maxHeartbeats 4000000 in
set_option maxRecDepth 100000 in
theorem t_X12_reads_L95 {p : Program} {l : Launch} {e : Env} {s : State} {m : MethodId} {args : Array Value} {below : List Frame} {meth : Method} {c : Code} {G : GG} {base : Nat} {A : Nat → Nat} {g0 : Hp} (hM : Mx G base p s m args meth c cX12_reads 2 none RX12 "reads") (o : Nat) (K123 : Hp → Prop) (Q : Hp → Prop) (hK123 : ∀ (h : Hp) (H : Heap) (locs : List Loc) (ls : Array Slot), Cx2 G base A g0 A h s.heap H locs → lo_has ls 2 [(0, .ref (A o))] → K123 h → W p l e rm_X12_reads s m args below meth c H locs 0 0 (MQ below (va_Qv Q (PU2 G base A g0 A) (fun q => base ≤ q)) args s 0 0 (fun q => base ≤ q)) (F0 m 123 ls [])) : ∀ (n : Nat) (h : Hp) (H : Heap) (locs : List Loc) (ls : Array Slot), Cx2 G base A g0 A h s.heap H locs → lo_has ls 2 [(0, .ref (A o))] → wp_X12_reads_L95 o K123 Q n h → W p l e rm_X12_reads s m args below meth c H locs 0 0 (MQ below (va_Qv Q (PU2 G base A g0 A) (fun q => base ≤ q)) args s 0 0 (fun q => base ≤ q)) (F0 m 95 ls []) := by
  intro n
  induction n with
  | zero =>
    intro  h H locs ls hC hl hw
    rw [wp_X12_reads_L95] at hw
    exact hw.elim
  | succ n ih =>
    intro  h H locs ls hC hl hw
    rw [wp_X12_reads_L95] at hw
    obtain ⟨hx, hb, hr, hml, hown, hts, hg, hs, hlk, hnm⟩ := id hM
    refine lv_aload_n hx hb dX12_reads_95 rfl (lo_at hl 0 rfl) ?_
    refine lv_aload_n hx hb dX12_reads_96 rfl (lo_at hl 0 rfl) ?_
    refine lv_aload_n hx hb dX12_reads_97 rfl (lo_at hl 0 rfl) ?_
    obtain ⟨k59, hw⟩ := hw
    refine s_getI hx hb hts hown hg hC fb_10_20 k59 mk_f_RX12_182 dX12_reads_98 ?_
    refine res2_i hC (run2_V (As := [.int (hpI h o 20)]) (rest := [.ref (A o)]) hM hC hl.1.1 kv_RX12_185 (c_X12_raw l G base A o (hpI h o 20) h _ hw) (hc_10) k59 rfl rfl rfl ⟨Nat.le_of_ble_eq_true rfl, Nat.le_of_ble_eq_true rfl⟩ (Nat.le_of_ble_eq_true rfl) ⟨Nat.le_of_ble_eq_true rfl, Nat.le_of_ble_eq_true rfl⟩ dX12_reads_101) (fun z61 h60 H locs hw hC => ?_)
    obtain ⟨k62, hw⟩ := hw
    refine res2_i hC (run2_V (As := [.int z61]) (rest := []) hM hC hl.1.1 kv_RX12_197 (c_X12_isLetter l G base A o z61 h60 _ hw) (hc_10) k62 rfl rfl rfl ⟨Nat.le_of_ble_eq_true rfl, Nat.le_of_ble_eq_true rfl⟩ (Nat.le_of_ble_eq_true rfl) ⟨Nat.le_of_ble_eq_true rfl, Nat.le_of_ble_eq_true rfl⟩ dX12_reads_104) (fun z64 h63 H locs hw hC => ?_)
    refine lv_if_eq (tgt := 123) hx hb dX12_reads_107 (by decide) (fun c65 => ?_) (fun c65 => ?_)
    ·
      replace hw := (if_pos c65).mp hw
      exact hK123  h63 H locs ls hC (lo_sub hl [0] rfl) hw
    ·
      replace hw := (if_neg c65).mp hw
      refine lv_aload_n hx hb dX12_reads_110 rfl (lo_at hl 0 rfl) ?_
      refine lv_aload_n hx hb dX12_reads_111 rfl (lo_at hl 0 rfl) ?_
      obtain ⟨k66, hw⟩ := hw
      refine s_getI hx hb hts hown hg hC fb_10_20 k66 mk_f_RX12_182 dX12_reads_112 ?_
      refine lv_iconst (v := 1) hx hb dX12_reads_115 (by decide) ?_
      refine lv_iadd hx hb dX12_reads_116 ?_
      refine s_putI hx hb hts hown hg hC fb_10_20 k66 rfl rfl mk_f_RX12_182 dX12_reads_117 (fun h67 H locs eh67 hC => ?_)
      replace hw := hw h67 eh67
      refine lv_goto (tgt := 95) hx hb dX12_reads_120 (by decide) ?_
      exact ih  h67 H locs ls hC (lo_sub hl [0] rfl) hw
set_option maxHeartbeats 4000000 in
set_option maxRecDepth 100000 in
theorem c_X12_reads (l : Launch) (G : GG) (base : Nat) (A : Nat → Nat) (o : Nat) (h : Hp) (Q : Hp → Prop) (hw : wp_X12_reads o h Q) : Met l yX12_reads (ww yX12_reads cX12_reads 2 none) rm_X12_reads (va_Pc [.ref (A o)] (PU2 G base A h A h)) (va_Qv Q (PU2 G base A h A) (fun q => base ≤ q)) 0 0 (fun q => base ≤ q) := by
  refine met2_of (own := RX12) (nm := "reads") (by decide) rfl rfl (List.forall_mem_cons.mpr ⟨rfl, (fun _ h => absurd h List.not_mem_nil)⟩) (Nat.le_of_ble_eq_true rfl) rfl ?_
  intro p e s m args below meth c H locs ls hM hC hl
  obtain ⟨hx, hb, hr, hml, hown, hts, hg, hs, hlk, hnm⟩ := id hM
  unfold wp_X12_reads at hw
  refine t_X12_reads_L0 hM o _ Q ?_ fuel  h H locs ls hC (lo_sub hl [0] rfl) hw
  intro  h11 H locs ls hC hl hw
  refine lv_aload_n hx hb dX12_reads_39 rfl (lo_at hl 0 rfl) ?_
  refine lv_aload_n hx hb dX12_reads_40 rfl (lo_at hl 0 rfl) ?_
  obtain ⟨k12, hw⟩ := hw
  refine s_getI hx hb hts hown hg hC fb_10_20 k12 mk_f_RX12_182 dX12_reads_41 ?_
  refine s_putI hx hb hts hown hg hC fb_10_21 k12 rfl rfl mk_f_RX12_188 dX12_reads_44 (fun h13 H locs eh13 hC => ?_)
  replace hw := hw h13 eh13
  refine lv_aload_n hx hb dX12_reads_47 rfl (lo_at hl 0 rfl) ?_
  refine lv_iconst (v := 1) hx hb dX12_reads_48 (by decide) ?_
  obtain ⟨k14, hw⟩ := hw
  refine s_putI hx hb hts hown hg hC fb_10_22 k14 rfl rfl mk_f_RX12_191 dX12_reads_49 (fun h15 H locs eh15 hC => ?_)
  replace hw := hw h15 eh15
  refine lv_aload_n hx hb dX12_reads_52 rfl (lo_at hl 0 rfl) ?_
  refine lv_aload_n hx hb dX12_reads_53 rfl (lo_at hl 0 rfl) ?_
  obtain ⟨k16, hw⟩ := hw
  refine s_getI hx hb hts hown hg hC fb_10_20 k16 mk_f_RX12_182 dX12_reads_54 ?_
  refine res2_i hC (run2_V (As := [.int (hpI h15 o 20)]) (rest := []) hM hC hl.1.1 kv_RX12_185 (c_X12_raw l G base A o (hpI h15 o 20) h15 _ hw) (hc_10) k16 rfl rfl rfl ⟨Nat.le_of_ble_eq_true rfl, Nat.le_of_ble_eq_true rfl⟩ (Nat.le_of_ble_eq_true rfl) ⟨Nat.le_of_ble_eq_true rfl, Nat.le_of_ble_eq_true rfl⟩ dX12_reads_57) (fun z18 h17 H locs hw hC => ?_)
  refine lo_istore_n (lv' := [(1, .int z18), (0, .ref (A o))]) hx hb dX12_reads_60 rfl hl (by decide) rfl (fun ls hl => ?_)
  refine lv_iload_n hx hb dX12_reads_61 rfl (lo_at hl 0 rfl) ?_
  refine lv_iconst (v := -1) hx hb dX12_reads_62 (by decide) ?_
  refine lv_icmp_ne (tgt := 72) hx hb dX12_reads_63 (by decide) (fun c19 => ?_) (fun c19 => ?_)
  ·
    replace hw := (if_neg c19).mp hw
    refine lv_aload_n hx hb dX12_reads_72 rfl (lo_at hl 1 rfl) ?_
    refine lv_aload_n hx hb dX12_reads_73 rfl (lo_at hl 1 rfl) ?_
    obtain ⟨k20, hw⟩ := hw
    refine s_getI hx hb hts hown hg hC fb_10_20 k20 mk_f_RX12_182 dX12_reads_74 ?_
    refine lv_iconst (v := 1) hx hb dX12_reads_77 (by decide) ?_
    refine lv_iadd hx hb dX12_reads_78 ?_
    refine s_putI hx hb hts hown hg hC fb_10_20 k20 rfl rfl mk_f_RX12_182 dX12_reads_79 (fun h21 H locs eh21 hC => ?_)
    replace hw := hw h21 eh21
    refine lv_aload_n hx hb dX12_reads_82 rfl (lo_at hl 1 rfl) ?_
    refine lv_iload_n hx hb dX12_reads_83 rfl (lo_at hl 0 rfl) ?_
    obtain ⟨k22, hw⟩ := hw
    refine s_putI hx hb hts hown hg hC fb_10_23 k22 rfl rfl mk_f_RX12_194 dX12_reads_84 (fun h23 H locs eh23 hC => ?_)
    replace hw := hw h23 eh23
    refine lv_aload_n hx hb dX12_reads_87 rfl (lo_at hl 1 rfl) ?_
    refine lv_iload_n hx hb dX12_reads_88 rfl (lo_at hl 0 rfl) ?_
    obtain ⟨k24, hw⟩ := hw
    refine res2_i hC (run2_V (As := [.int z18]) (rest := []) hM hC hl.1.1 kv_RX12_197 (c_X12_isLetter l G base A o z18 h23 _ hw) (hc_10) k24 rfl rfl rfl ⟨Nat.le_of_ble_eq_true rfl, Nat.le_of_ble_eq_true rfl⟩ (Nat.le_of_ble_eq_true rfl) ⟨Nat.le_of_ble_eq_true rfl, Nat.le_of_ble_eq_true rfl⟩ dX12_reads_89) (fun z26 h25 H locs hw hC => ?_)
    refine lv_if_eq (tgt := 155) hx hb dX12_reads_92 (by decide) (fun c27 => ?_) (fun c27 => ?_)
    ·
      replace hw := (if_pos c27).mp hw
      refine lv_aload_n hx hb dX12_reads_155 rfl (lo_at hl 1 rfl) ?_
      refine lv_iload_n hx hb dX12_reads_156 rfl (lo_at hl 0 rfl) ?_
      obtain ⟨k28, hw⟩ := hw
      refine res2_i hC (run2_V (As := [.int z18]) (rest := []) hM hC hl.1.1 kv_RX12_204 (c_X12_isDigit l G base A o z18 h25 _ hw) (hc_10) k28 rfl rfl rfl ⟨Nat.le_of_ble_eq_true rfl, Nat.le_of_ble_eq_true rfl⟩ (Nat.le_of_ble_eq_true rfl) ⟨Nat.le_of_ble_eq_true rfl, Nat.le_of_ble_eq_true rfl⟩ dX12_reads_157) (fun z30 h29 H locs hw hC => ?_)
      refine lv_if_eq (tgt := 260) hx hb dX12_reads_160 (by decide) (fun c31 => ?_) (fun c31 => ?_)
      ·
        replace hw := (if_pos c31).mp hw
        refine lv_aload_n hx hb dX12_reads_260 rfl (lo_at hl 1 rfl) ?_
        refine lv_iload_n hx hb dX12_reads_261 rfl (lo_at hl 0 rfl) ?_
        obtain ⟨k32, hw⟩ := hw
        refine res2_i hC (run2_V (As := [.int z18]) (rest := []) hM hC hl.1.1 kv_RX12_207 (c_X12_isMarkSign l G base A o z18 h29 _ hw) (hc_10) k32 rfl rfl rfl ⟨Nat.le_of_ble_eq_true rfl, Nat.le_of_ble_eq_true rfl⟩ (Nat.le_of_ble_eq_true rfl) ⟨Nat.le_of_ble_eq_true rfl, Nat.le_of_ble_eq_true rfl⟩ dX12_reads_262) (fun z34 h33 H locs hw hC => ?_)
        refine lv_if_eq (tgt := 273) hx hb dX12_reads_265 (by decide) (fun c35 => ?_) (fun c35 => ?_)
        ·
          replace hw := (if_pos c35).mp hw
          exact ret2_v hM hC hw dX12_reads_273
        ·
          replace hw := (if_neg c35).mp hw
          refine lv_aload_n hx hb dX12_reads_268 rfl (lo_at hl 1 rfl) ?_
          refine lv_iconst (v := 4) hx hb dX12_reads_269 (by decide) ?_
          obtain ⟨k36, hw⟩ := hw
          refine s_putI hx hb hts hown hg hC fb_10_22 k36 rfl rfl mk_f_RX12_191 dX12_reads_270 (fun h37 H locs eh37 hC => ?_)
          replace hw := hw h37 eh37
          exact ret2_v hM hC hw dX12_reads_273
      ·
        replace hw := (if_neg c31).mp hw
        refine lv_aload_n hx hb dX12_reads_163 rfl (lo_at hl 1 rfl) ?_
        refine lv_iload_n hx hb dX12_reads_164 rfl (lo_at hl 0 rfl) ?_
        refine lv_bipush (v := 48) hx hb dX12_reads_165 (by decide) ?_
        refine lv_isub hx hb dX12_reads_167 ?_
        obtain ⟨k38, hw⟩ := hw
        refine s_putI hx hb hts hown hg hC fb_10_23 k38 rfl rfl mk_f_RX12_194 dX12_reads_168 (fun h39 H locs eh39 hC => ?_)
        replace hw := hw h39 eh39
        refine t_X12_reads_L171 hM o _ Q ?_ fuel  h39 H locs ls hC (lo_sub hl [1] rfl) hw
        intro  h55 H locs ls hC hl hw
        refine lv_aload_n hx hb dX12_reads_239 rfl (lo_at hl 0 rfl) ?_
        obtain ⟨k56, hw⟩ := hw
        refine s_getI hx hb hts hown hg hC fb_10_20 k56 mk_f_RX12_182 dX12_reads_240 ?_
        refine lv_aload_n hx hb dX12_reads_243 rfl (lo_at hl 0 rfl) ?_
        refine s_getI hx hb hts hown hg hC fb_10_21 k56 mk_f_RX12_188 dX12_reads_244 ?_
        refine lv_isub hx hb dX12_reads_247 ?_
        refine lv_iconst (v := 5) hx hb dX12_reads_248 (by decide) ?_
        refine lv_icmp_ge (tgt := 273) hx hb dX12_reads_249 (by decide) (fun c57 => ?_) (fun c57 => ?_)
        ·
          replace hw := (if_pos c57).mp hw
          exact ret2_v hM hC hw dX12_reads_273
        ·
          replace hw := (if_neg c57).mp hw
          refine lv_aload_n hx hb dX12_reads_252 rfl (lo_at hl 0 rfl) ?_
          refine lv_iconst (v := 3) hx hb dX12_reads_253 (by decide) ?_
          refine s_putI hx hb hts hown hg hC fb_10_22 k56 rfl rfl mk_f_RX12_191 dX12_reads_254 (fun h58 H locs eh58 hC => ?_)
          replace hw := hw h58 eh58
          refine lv_goto (tgt := 273) hx hb dX12_reads_257 (by decide) ?_
          exact ret2_v hM hC hw dX12_reads_273
    ·
      replace hw := (if_neg c27).mp hw
      refine t_X12_reads_L95 hM o _ Q ?_ fuel  h25 H locs ls hC (lo_sub hl [1] rfl) hw
      intro  h68 H locs ls hC hl hw
      refine lv_aload_n hx hb dX12_reads_123 rfl (lo_at hl 0 rfl) ?_
      refine lv_aload_n hx hb dX12_reads_124 rfl (lo_at hl 0 rfl) ?_
      refine lv_aload_n hx hb dX12_reads_125 rfl (lo_at hl 0 rfl) ?_
      obtain ⟨k69, hw⟩ := hw
      refine s_getI hx hb hts hown hg hC fb_10_21 k69 mk_f_RX12_188 dX12_reads_126 ?_
      refine lv_aload_n hx hb dX12_reads_129 rfl (lo_at hl 0 rfl) ?_
      refine s_getI hx hb hts hown hg hC fb_10_20 k69 mk_f_RX12_182 dX12_reads_130 ?_
      refine res2_i hC (run2_V (As := [.int (hpI h68 o 21), .int (hpI h68 o 20)]) (rest := [.ref (A o)]) hM hC hl.1.1 kv_RX12_200 (c_X12_wordAt l G base A o (hpI h68 o 21) (hpI h68 o 20) h68 _ hw) (hc_10) k69 rfl rfl rfl ⟨Nat.le_of_ble_eq_true rfl, Nat.le_of_ble_eq_true rfl⟩ (Nat.le_of_ble_eq_true rfl) ⟨Nat.le_of_ble_eq_true rfl, Nat.le_of_ble_eq_true rfl⟩ dX12_reads_133) (fun z71 h70 H locs hw hC => ?_)
      obtain ⟨k72, hw⟩ := hw
      refine s_putI hx hb hts hown hg hC fb_10_23 k72 rfl rfl mk_f_RX12_194 dX12_reads_136 (fun h73 H locs eh73 hC => ?_)
      replace hw := hw h73 eh73
      refine lv_aload_n hx hb dX12_reads_139 rfl (lo_at hl 0 rfl) ?_
      obtain ⟨k74, hw⟩ := hw
      refine s_getI hx hb hts hown hg hC fb_10_23 k74 mk_f_RX12_194 dX12_reads_140 ?_
      refine lv_iconst (v := -1) hx hb dX12_reads_143 (by decide) ?_
      refine lv_icmp_eq (tgt := 273) hx hb dX12_reads_144 (by decide) (fun c75 => ?_) (fun c75 => ?_)
      ·
        replace hw := (if_pos c75).mp hw
        exact ret2_v hM hC hw dX12_reads_273
      ·
        replace hw := (if_neg c75).mp hw
        refine lv_aload_n hx hb dX12_reads_147 rfl (lo_at hl 0 rfl) ?_
        refine lv_iconst (v := 2) hx hb dX12_reads_148 (by decide) ?_
        refine s_putI hx hb hts hown hg hC fb_10_22 k74 rfl rfl mk_f_RX12_191 dX12_reads_149 (fun h76 H locs eh76 hC => ?_)
        replace hw := hw h76 eh76
        refine lv_goto (tgt := 273) hx hb dX12_reads_152 (by decide) ?_
        exact ret2_v hM hC hw dX12_reads_273
  ·
    replace hw := (if_pos c19).mp hw
    refine lv_aload_n hx hb dX12_reads_66 rfl (lo_at hl 1 rfl) ?_
    refine lv_iconst (v := 0) hx hb dX12_reads_67 (by decide) ?_
    obtain ⟨k77, hw⟩ := hw
    refine s_putI hx hb hts hown hg hC fb_10_22 k77 rfl rfl mk_f_RX12_191 dX12_reads_68 (fun h78 H locs eh78 hC => ?_)
    replace hw := hw h78 eh78
    exact ret2_v hM hC hw dX12_reads_71
abbrev rm_X12_fails : Room := { frames := 0, cells := 0, slots := 0, locals := 0 }
set_option maxRecDepth 100000 in
def wp_X12_fails (o : Nat) (x1 : Int32) (h : Hp) (Q : Int32 → Hp → Prop) : Prop := ((hpK h o).1 = 20 + 10) ∧ (∀ h2 : Hp, h2 = stI h o 37 x1 → (((hpK h2 o).1 = 20 + 10) ∧ (∀ h4 : Hp, h4 = stI h2 o 38 (hpI h2 o 21) → (Q (-1 : Int32) h4))))
set_option maxHeartbeats 4000000 in
set_option maxRecDepth 100000 in
theorem c_X12_fails (l : Launch) (G : GG) (base : Nat) (A : Nat → Nat) (o : Nat) (x1 : Int32) (h : Hp) (Q : Int32 → Hp → Prop) (hw : wp_X12_fails o x1 h Q) : Met l yX12_fails (ww yX12_fails cX12_fails 2 (some .int)) rm_X12_fails (va_Pc [.ref (A o), .int x1] (PU2 G base A h A h)) (va_Qi Q (PU2 G base A h A) (fun q => base ≤ q)) 0 0 (fun q => base ≤ q) := by
  refine met2_of (own := RX12) (nm := "fails") (by decide) rfl rfl (List.forall_mem_cons.mpr ⟨rfl, (List.forall_mem_cons.mpr ⟨rfl, (fun _ h => absurd h List.not_mem_nil)⟩)⟩) (Nat.le_of_ble_eq_true rfl) rfl ?_
  intro p e s m args below meth c H locs ls hM hC hl
  obtain ⟨hx, hb, hr, hml, hown, hts, hg, hs, hlk, hnm⟩ := id hM
  unfold wp_X12_fails at hw
  refine lv_aload_n hx hb dX12_fails_0 rfl (lo_at hl 0 rfl) ?_
  refine lv_iload_n hx hb dX12_fails_1 rfl (lo_at hl 1 rfl) ?_
  obtain ⟨k1, hw⟩ := hw
  refine s_putI hx hb hts hown hg hC fb_10_37 k1 rfl rfl mk_f_RX12_210 dX12_fails_2 (fun h2 H locs eh2 hC => ?_)
  replace hw := hw h2 eh2
  refine lv_aload_n hx hb dX12_fails_5 rfl (lo_at hl 0 rfl) ?_
  refine lv_aload_n hx hb dX12_fails_6 rfl (lo_at hl 0 rfl) ?_
  obtain ⟨k3, hw⟩ := hw
  refine s_getI hx hb hts hown hg hC fb_10_21 k3 mk_f_RX12_188 dX12_fails_7 ?_
  refine s_putI hx hb hts hown hg hC fb_10_38 k3 rfl rfl mk_f_RX12_213 dX12_fails_10 (fun h4 H locs eh4 hC => ?_)
  replace hw := hw h4 eh4
  refine lv_iconst (v := -1) hx hb dX12_fails_13 (by decide) ?_
  exact ret2_i hM hC hw dX12_fails_14
abbrev rm_X12_isWord : Room := { frames := 0, cells := 0, slots := 0, locals := 0 }
set_option maxRecDepth 100000 in
def wp_X12_isWord (o : Nat) (x1 : Int32) (h : Hp) (Q : Int32 → Hp → Prop) : Prop := ((hpK h o).1 = 20 + 10) ∧ ((if (hpI h o 22) = (2 : Int32) then ((if (hpI h o 23) = x1 then (Q (1 : Int32) h) else (Q (0 : Int32) h))) else (Q (0 : Int32) h)))
set_option maxHeartbeats 4000000 in
set_option maxRecDepth 100000 in
theorem c_X12_isWord (l : Launch) (G : GG) (base : Nat) (A : Nat → Nat) (o : Nat) (x1 : Int32) (h : Hp) (Q : Int32 → Hp → Prop) (hw : wp_X12_isWord o x1 h Q) : Met l yX12_isWord (ww yX12_isWord cX12_isWord 2 (some .boolean)) rm_X12_isWord (va_Pc [.ref (A o), .int x1] (PU2 G base A h A h)) (va_Qi Q (PU2 G base A h A) (fun q => base ≤ q)) 0 0 (fun q => base ≤ q) := by
  refine met2_of (own := RX12) (nm := "isWord") (by decide) rfl rfl (List.forall_mem_cons.mpr ⟨rfl, (List.forall_mem_cons.mpr ⟨rfl, (fun _ h => absurd h List.not_mem_nil)⟩)⟩) (Nat.le_of_ble_eq_true rfl) rfl ?_
  intro p e s m args below meth c H locs ls hM hC hl
  obtain ⟨hx, hb, hr, hml, hown, hts, hg, hs, hlk, hnm⟩ := id hM
  unfold wp_X12_isWord at hw
  refine lv_aload_n hx hb dX12_isWord_0 rfl (lo_at hl 0 rfl) ?_
  obtain ⟨k1, hw⟩ := hw
  refine s_getI hx hb hts hown hg hC fb_10_22 k1 mk_f_RX12_191 dX12_isWord_1 ?_
  refine lv_iconst (v := 2) hx hb dX12_isWord_4 (by decide) ?_
  refine lv_icmp_ne (tgt := 20) hx hb dX12_isWord_5 (by decide) (fun c2 => ?_) (fun c2 => ?_)
  ·
    replace hw := (if_neg c2).mp hw
    refine lv_iconst (v := 0) hx hb dX12_isWord_20 (by decide) ?_
    exact ret2_t hM hC rfl hw dX12_isWord_21
  ·
    replace hw := (if_pos c2).mp hw
    refine lv_aload_n hx hb dX12_isWord_8 rfl (lo_at hl 0 rfl) ?_
    refine s_getI hx hb hts hown hg hC fb_10_23 k1 mk_f_RX12_194 dX12_isWord_9 ?_
    refine lv_iload_n hx hb dX12_isWord_12 rfl (lo_at hl 1 rfl) ?_
    refine lv_icmp_ne (tgt := 20) hx hb dX12_isWord_13 (by decide) (fun c3 => ?_) (fun c3 => ?_)
    ·
      replace hw := (if_neg c3).mp hw
      refine lv_iconst (v := 0) hx hb dX12_isWord_20 (by decide) ?_
      exact ret2_t hM hC rfl hw dX12_isWord_21
    ·
      replace hw := (if_pos c3).mp hw
      refine lv_iconst (v := 1) hx hb dX12_isWord_16 (by decide) ?_
      refine lv_goto (tgt := 21) hx hb dX12_isWord_17 (by decide) ?_
      exact ret2_t hM hC rfl hw dX12_isWord_21
abbrev rm_X12_isSign : Room := { frames := 0, cells := 0, slots := 0, locals := 0 }
set_option maxRecDepth 100000 in
def wp_X12_isSign (o : Nat) (x1 : Int32) (h : Hp) (Q : Int32 → Hp → Prop) : Prop := ((hpK h o).1 = 20 + 10) ∧ ((if (hpI h o 22) = (4 : Int32) then ((if (hpI h o 23) = x1 then (Q (1 : Int32) h) else (Q (0 : Int32) h))) else (Q (0 : Int32) h)))
set_option maxHeartbeats 4000000 in
set_option maxRecDepth 100000 in
theorem c_X12_isSign (l : Launch) (G : GG) (base : Nat) (A : Nat → Nat) (o : Nat) (x1 : Int32) (h : Hp) (Q : Int32 → Hp → Prop) (hw : wp_X12_isSign o x1 h Q) : Met l yX12_isSign (ww yX12_isSign cX12_isSign 2 (some .boolean)) rm_X12_isSign (va_Pc [.ref (A o), .int x1] (PU2 G base A h A h)) (va_Qi Q (PU2 G base A h A) (fun q => base ≤ q)) 0 0 (fun q => base ≤ q) := by
  refine met2_of (own := RX12) (nm := "isSign") (by decide) rfl rfl (List.forall_mem_cons.mpr ⟨rfl, (List.forall_mem_cons.mpr ⟨rfl, (fun _ h => absurd h List.not_mem_nil)⟩)⟩) (Nat.le_of_ble_eq_true rfl) rfl ?_
  intro p e s m args below meth c H locs ls hM hC hl
  obtain ⟨hx, hb, hr, hml, hown, hts, hg, hs, hlk, hnm⟩ := id hM
  unfold wp_X12_isSign at hw
  refine lv_aload_n hx hb dX12_isSign_0 rfl (lo_at hl 0 rfl) ?_
  obtain ⟨k1, hw⟩ := hw
  refine s_getI hx hb hts hown hg hC fb_10_22 k1 mk_f_RX12_191 dX12_isSign_1 ?_
  refine lv_iconst (v := 4) hx hb dX12_isSign_4 (by decide) ?_
  refine lv_icmp_ne (tgt := 20) hx hb dX12_isSign_5 (by decide) (fun c2 => ?_) (fun c2 => ?_)
  ·
    replace hw := (if_neg c2).mp hw
    refine lv_iconst (v := 0) hx hb dX12_isSign_20 (by decide) ?_
    exact ret2_t hM hC rfl hw dX12_isSign_21
  ·
    replace hw := (if_pos c2).mp hw
    refine lv_aload_n hx hb dX12_isSign_8 rfl (lo_at hl 0 rfl) ?_
    refine s_getI hx hb hts hown hg hC fb_10_23 k1 mk_f_RX12_194 dX12_isSign_9 ?_
    refine lv_iload_n hx hb dX12_isSign_12 rfl (lo_at hl 1 rfl) ?_
    refine lv_icmp_ne (tgt := 20) hx hb dX12_isSign_13 (by decide) (fun c3 => ?_) (fun c3 => ?_)
    ·
      replace hw := (if_neg c3).mp hw
      refine lv_iconst (v := 0) hx hb dX12_isSign_20 (by decide) ?_
      exact ret2_t hM hC rfl hw dX12_isSign_21
    ·
      replace hw := (if_pos c3).mp hw
      refine lv_iconst (v := 1) hx hb dX12_isSign_16 (by decide) ?_
      refine lv_goto (tgt := 21) hx hb dX12_isSign_17 (by decide) ?_
      exact ret2_t hM hC rfl hw dX12_isSign_21
abbrev rm_X12_emits : Room := { frames := 0, cells := 0, slots := 0, locals := 0 }
set_option maxRecDepth 100000 in
def wp_X12_emits (o : Nat) (x1 : Int32) (x2 : Int32) (h : Hp) (Q : Hp → Prop) : Prop := ((hpK h o).1 = 20 + 10) ∧ (okA h (hpR h o 30) 1 ((4200 : Int32) + (hpI h o 33)) ∧ (∀ h3 : Hp, h3 = stI h (ad (hpR h o 30)) ((4200 : Int32) + (hpI h o 33)).toNatClampNeg x1 → (((hpK h3 o).1 = 20 + 10) ∧ (okA h3 (hpR h3 o 31) 1 ((4200 : Int32) + (hpI h3 o 33)) ∧ (∀ h6 : Hp, h6 = stI h3 (ad (hpR h3 o 31)) ((4200 : Int32) + (hpI h3 o 33)).toNatClampNeg x2 → (((hpK h6 o).1 = 20 + 10) ∧ (∀ h8 : Hp, h8 = stI h6 o 33 ((hpI h6 o 33) + (1 : Int32)) → (Q h8))))))))
set_option maxHeartbeats 4000000 in
set_option maxRecDepth 100000 in
theorem c_X12_emits (l : Launch) (G : GG) (base : Nat) (A : Nat → Nat) (o : Nat) (x1 : Int32) (x2 : Int32) (h : Hp) (Q : Hp → Prop) (hw : wp_X12_emits o x1 x2 h Q) : Met l yX12_emits (ww yX12_emits cX12_emits 3 none) rm_X12_emits (va_Pc [.ref (A o), .int x1, .int x2] (PU2 G base A h A h)) (va_Qv Q (PU2 G base A h A) (fun q => base ≤ q)) 0 0 (fun q => base ≤ q) := by
  refine met2_of (own := RX12) (nm := "emits") (by decide) rfl rfl (List.forall_mem_cons.mpr ⟨rfl, (List.forall_mem_cons.mpr ⟨rfl, (List.forall_mem_cons.mpr ⟨rfl, (fun _ h => absurd h List.not_mem_nil)⟩)⟩)⟩) (Nat.le_of_ble_eq_true rfl) rfl ?_
  intro p e s m args below meth c H locs ls hM hC hl
  obtain ⟨hx, hb, hr, hml, hown, hts, hg, hs, hlk, hnm⟩ := id hM
  unfold wp_X12_emits at hw
  refine lv_aload_n hx hb dX12_emits_0 rfl (lo_at hl 0 rfl) ?_
  obtain ⟨k1, hw⟩ := hw
  refine s_getR hx hb hts hown hg hC fb_10_30 k1 mk_f_RX12_70 dX12_emits_1 ?_
  refine lv_sipush (v := 4200) hx hb dX12_emits_4 (by decide) ?_
  refine lv_aload_n hx hb dX12_emits_7 rfl (lo_at hl 0 rfl) ?_
  refine s_getI hx hb hts hown hg hC fb_10_33 k1 mk_f_RX12_216 dX12_emits_8 ?_
  refine lv_iadd hx hb dX12_emits_11 ?_
  refine lv_iload_n hx hb dX12_emits_12 rfl (lo_at hl 1 rfl) ?_
  obtain ⟨k2, hw⟩ := hw
  refine sf_3 k2.1 ?_
  refine s_iast hx hb hg hC k2.2.1 k2.2.2 dX12_emits_13 (fun h3 H locs eh3 hC => ?_)
  replace hw := hw h3 eh3
  refine lv_aload_n hx hb dX12_emits_14 rfl (lo_at hl 0 rfl) ?_
  obtain ⟨k4, hw⟩ := hw
  refine s_getR hx hb hts hown hg hC fb_10_31 k4 mk_f_RX12_73 dX12_emits_15 ?_
  refine lv_sipush (v := 4200) hx hb dX12_emits_18 (by decide) ?_
  refine lv_aload_n hx hb dX12_emits_21 rfl (lo_at hl 0 rfl) ?_
  refine s_getI hx hb hts hown hg hC fb_10_33 k4 mk_f_RX12_216 dX12_emits_22 ?_
  refine lv_iadd hx hb dX12_emits_25 ?_
  refine lv_iload_n hx hb dX12_emits_26 rfl (lo_at hl 2 rfl) ?_
  obtain ⟨k5, hw⟩ := hw
  refine sf_3 k5.1 ?_
  refine s_iast hx hb hg hC k5.2.1 k5.2.2 dX12_emits_27 (fun h6 H locs eh6 hC => ?_)
  replace hw := hw h6 eh6
  refine lv_aload_n hx hb dX12_emits_28 rfl (lo_at hl 0 rfl) ?_
  refine lv_aload_n hx hb dX12_emits_29 rfl (lo_at hl 0 rfl) ?_
  obtain ⟨k7, hw⟩ := hw
  refine s_getI hx hb hts hown hg hC fb_10_33 k7 mk_f_RX12_216 dX12_emits_30 ?_
  refine lv_iconst (v := 1) hx hb dX12_emits_33 (by decide) ?_
  refine lv_iadd hx hb dX12_emits_34 ?_
  refine s_putI hx hb hts hown hg hC fb_10_33 k7 rfl rfl mk_f_RX12_216 dX12_emits_35 (fun h8 H locs eh8 hC => ?_)
  replace hw := hw h8 eh8
  exact ret2_v hM hC hw dX12_emits_38
abbrev rm_X12_readUnit : Room := { frames := 3, cells := 0, slots := 0, locals := 65 }
set_option maxRecDepth 100000 in
def wp_X12_readUnit_J76 (o : Nat) (x1 : Int32) (s0 : Int32) (s1 : Option Nat) (Q : Int32 → Hp → Prop) (h : Hp) : Prop := (if x1 = 0 then (((hpK h o).1 = 20 + 10) ∧ (okO h s1 10 ∧ (wp_X12_emits (ad s1) s0 (hpI h o 23) h (fun (h8 : Hp) => ((hpK h8 o).1 = 20 + 10) ∧ (wp_X12_reads o h8 (fun (h11 : Hp) => Q (0 : Int32) h11)))))) else (((hpK h o).1 = 20 + 10) ∧ (okO h s1 10 ∧ (wp_X12_emits (ad s1) s0 ((hpI h o 23) - (9 : Int32)) h (fun (h15 : Hp) => ((hpK h15 o).1 = 20 + 10) ∧ (wp_X12_reads o h15 (fun (h18 : Hp) => Q (0 : Int32) h18)))))))
set_option maxRecDepth 100000 in
def wp_X12_readUnit_J66 (o : Nat) (x1 : Int32) (Q : Int32 → Hp → Prop) (h : Hp) : Prop := (if x1 = 0 then (wp_X12_readUnit_J76 o x1 (0 : Int32) (some o) Q h) else (wp_X12_readUnit_J76 o x1 (1 : Int32) (some o) Q h))
set_option maxRecDepth 100000 in
def wp_X12_readUnit_J47 (o : Nat) (s0 : Int32) (Q : Int32 → Hp → Prop) (h : Hp) : Prop := (if s0 = 0 then (((hpK h o).1 = 20 + 10) ∧ ((if (hpI h o 22) = (3 : Int32) then (wp_X12_readUnit_J66 o s0 Q h) else (wp_X12_fails o (1 : Int32) h (fun (z23 : Int32) (h22 : Hp) => Q z23 h22))))) else (wp_X12_readUnit_J66 o s0 Q h))
set_option maxRecDepth 100000 in
def wp_X12_readUnit_J46 (o : Nat) (Q : Int32 → Hp → Prop) (h : Hp) : Prop := wp_X12_readUnit_J47 o (0 : Int32) Q h
set_option maxRecDepth 100000 in
def wp_X12_readUnit_J42 (o : Nat) (Q : Int32 → Hp → Prop) (h : Hp) : Prop := wp_X12_readUnit_J47 o (1 : Int32) Q h
set_option maxRecDepth 100000 in
def wp_X12_readUnit (o : Nat) (h : Hp) (Q : Int32 → Hp → Prop) : Prop := ((hpK h o).1 = 20 + 10) ∧ ((if (hpI h o 22) = (2 : Int32) then ((if (hpI h o 32) = 0 then ((if (hpI h o 23) < (17 : Int32) then (wp_X12_readUnit_J46 o Q h) else (wp_X12_readUnit_J42 o Q h))) else (wp_X12_isIn o (hpI h o 23) (9 : Int32) (16 : Int32) h (fun (z27 : Int32) (h26 : Hp) => (if z27 = 0 then (wp_X12_readUnit_J46 o Q h26) else (wp_X12_readUnit_J42 o Q h26)))))) else (wp_X12_readUnit_J46 o Q h)))
set_option maxHeartbeats 4000000 in
set_option maxRecDepth 100000 in
theorem t_X12_readUnit_J76 {p : Program} {l : Launch} {e : Env} {s : State} {m : MethodId} {args : Array Value} {below : List Frame} {meth : Method} {c : Code} {G : GG} {base : Nat} {A : Nat → Nat} {g0 : Hp} (hM : Mx G base p s m args meth c cX12_readUnit 2 (some .int) RX12 "readUnit") (o : Nat) (x1 : Int32) (s0 : Int32) (s1 : Option Nat) (Q : Int32 → Hp → Prop) (h : Hp) (H : Heap) (locs : List Loc) (ls : Array Slot) : Cx2 G base A g0 A h s.heap H locs → lo_has ls 2 [(0, .ref (A o)), (1, .int x1)] → wp_X12_readUnit_J76 o x1 s0 s1 Q h → W p l e rm_X12_readUnit s m args below meth c H locs 0 0 (MQ below (va_Qi Q (PU2 G base A g0 A) (fun q => base ≤ q)) args s 0 0 (fun q => base ≤ q)) (F0 m 76 ls [.int s0, va_rf (Option.map A s1)]) := by
  intro hC hl hw
  unfold wp_X12_readUnit_J76 at hw
  obtain ⟨hx, hb, hr, hml, hown, hts, hg, hs, hlk, hnm⟩ := id hM
  refine lv_iload_n hx hb dX12_readUnit_76 rfl (lo_at hl 1 rfl) ?_
  refine lv_if_eq (tgt := 90) hx hb dX12_readUnit_77 (by decide) (fun c5 => ?_) (fun c5 => ?_)
  ·
    replace hw := (if_pos c5).mp hw
    refine lv_aload_n hx hb dX12_readUnit_90 rfl (lo_at hl 0 rfl) ?_
    obtain ⟨k6, hw⟩ := hw
    refine s_getI hx hb hts hown hg hC fb_10_23 k6 mk_f_RX12_194 dX12_readUnit_91 ?_
    obtain ⟨k7, hw⟩ := hw
    refine sf_3 k7.1 ?_
    refine res2_v hC (run2_V (As := [.int s0, .int (hpI h o 23)]) (rest := []) hM hC hl.1.1 kv_RX12_226 (c_X12_emits l G base A (ad s1) s0 (hpI h o 23) h _ hw) (hc_10) k7.2 rfl rfl rfl ⟨Nat.le_of_ble_eq_true rfl, Nat.le_of_ble_eq_true rfl⟩ (Nat.le_of_ble_eq_true rfl) ⟨Nat.le_of_ble_eq_true rfl, Nat.le_of_ble_eq_true rfl⟩ dX12_readUnit_94) (fun h8 H locs hw hC => ?_)
    refine lv_aload_n hx hb dX12_readUnit_97 rfl (lo_at hl 0 rfl) ?_
    obtain ⟨k10, hw⟩ := hw
    refine res2_v hC (run2_V (As := []) (rest := []) hM hC hl.1.1 kv_RX12_230 (c_X12_reads l G base A o h8 _ hw) (hc_10) k10 rfl rfl rfl ⟨Nat.le_of_ble_eq_true rfl, Nat.le_of_ble_eq_true rfl⟩ (Nat.le_of_ble_eq_true rfl) ⟨Nat.le_of_ble_eq_true rfl, Nat.le_of_ble_eq_true rfl⟩ dX12_readUnit_98) (fun h11 H locs hw hC => ?_)
    refine lv_iconst (v := 0) hx hb dX12_readUnit_101 (by decide) ?_
    exact ret2_i hM hC hw dX12_readUnit_102
  ·
    replace hw := (if_neg c5).mp hw
    refine lv_aload_n hx hb dX12_readUnit_80 rfl (lo_at hl 0 rfl) ?_
    obtain ⟨k13, hw⟩ := hw
    refine s_getI hx hb hts hown hg hC fb_10_23 k13 mk_f_RX12_194 dX12_readUnit_81 ?_
    refine lv_bipush (v := 9) hx hb dX12_readUnit_84 (by decide) ?_
    refine lv_isub hx hb dX12_readUnit_86 ?_
    refine lv_goto (tgt := 94) hx hb dX12_readUnit_87 (by decide) ?_
    obtain ⟨k14, hw⟩ := hw
    refine sf_3 k14.1 ?_
    refine res2_v hC (run2_V (As := [.int s0, .int ((hpI h o 23) - (9 : Int32))]) (rest := []) hM hC hl.1.1 kv_RX12_226 (c_X12_emits l G base A (ad s1) s0 ((hpI h o 23) - (9 : Int32)) h _ hw) (hc_10) k14.2 rfl rfl rfl ⟨Nat.le_of_ble_eq_true rfl, Nat.le_of_ble_eq_true rfl⟩ (Nat.le_of_ble_eq_true rfl) ⟨Nat.le_of_ble_eq_true rfl, Nat.le_of_ble_eq_true rfl⟩ dX12_readUnit_94) (fun h15 H locs hw hC => ?_)
    refine lv_aload_n hx hb dX12_readUnit_97 rfl (lo_at hl 0 rfl) ?_
    obtain ⟨k17, hw⟩ := hw
    refine res2_v hC (run2_V (As := []) (rest := []) hM hC hl.1.1 kv_RX12_230 (c_X12_reads l G base A o h15 _ hw) (hc_10) k17 rfl rfl rfl ⟨Nat.le_of_ble_eq_true rfl, Nat.le_of_ble_eq_true rfl⟩ (Nat.le_of_ble_eq_true rfl) ⟨Nat.le_of_ble_eq_true rfl, Nat.le_of_ble_eq_true rfl⟩ dX12_readUnit_98) (fun h18 H locs hw hC => ?_)
    refine lv_iconst (v := 0) hx hb dX12_readUnit_101 (by decide) ?_
    exact ret2_i hM hC hw dX12_readUnit_102
set_option maxHeartbeats 4000000 in
set_option maxRecDepth 100000 in
theorem t_X12_readUnit_J66 {p : Program} {l : Launch} {e : Env} {s : State} {m : MethodId} {args : Array Value} {below : List Frame} {meth : Method} {c : Code} {G : GG} {base : Nat} {A : Nat → Nat} {g0 : Hp} (hM : Mx G base p s m args meth c cX12_readUnit 2 (some .int) RX12 "readUnit") (o : Nat) (x1 : Int32) (Q : Int32 → Hp → Prop) (h : Hp) (H : Heap) (locs : List Loc) (ls : Array Slot) : Cx2 G base A g0 A h s.heap H locs → lo_has ls 2 [(0, .ref (A o)), (1, .int x1)] → wp_X12_readUnit_J66 o x1 Q h → W p l e rm_X12_readUnit s m args below meth c H locs 0 0 (MQ below (va_Qi Q (PU2 G base A g0 A) (fun q => base ≤ q)) args s 0 0 (fun q => base ≤ q)) (F0 m 66 ls []) := by
  intro hC hl hw
  unfold wp_X12_readUnit_J66 at hw
  obtain ⟨hx, hb, hr, hml, hown, hts, hg, hs, hlk, hnm⟩ := id hM
  refine lv_aload_n hx hb dX12_readUnit_66 rfl (lo_at hl 0 rfl) ?_
  refine lv_iload_n hx hb dX12_readUnit_67 rfl (lo_at hl 1 rfl) ?_
  refine lv_if_eq (tgt := 75) hx hb dX12_readUnit_68 (by decide) (fun c4 => ?_) (fun c4 => ?_)
  ·
    replace hw := (if_pos c4).mp hw
    refine lv_iconst (v := 0) hx hb dX12_readUnit_75 (by decide) ?_
    exact t_X12_readUnit_J76 hM o x1 (0 : Int32) (some o) Q  h H locs ls hC (lo_sub hl [0, 1] rfl) hw
  ·
    replace hw := (if_neg c4).mp hw
    refine lv_iconst (v := 1) hx hb dX12_readUnit_71 (by decide) ?_
    refine lv_goto (tgt := 76) hx hb dX12_readUnit_72 (by decide) ?_
    exact t_X12_readUnit_J76 hM o x1 (1 : Int32) (some o) Q  h H locs ls hC (lo_sub hl [0, 1] rfl) hw
set_option maxHeartbeats 4000000 in
set_option maxRecDepth 100000 in
theorem t_X12_readUnit_J47 {p : Program} {l : Launch} {e : Env} {s : State} {m : MethodId} {args : Array Value} {below : List Frame} {meth : Method} {c : Code} {G : GG} {base : Nat} {A : Nat → Nat} {g0 : Hp} (hM : Mx G base p s m args meth c cX12_readUnit 2 (some .int) RX12 "readUnit") (o : Nat) (s0 : Int32) (Q : Int32 → Hp → Prop) (h : Hp) (H : Heap) (locs : List Loc) (ls : Array Slot) : Cx2 G base A g0 A h s.heap H locs → lo_has ls 2 [(0, .ref (A o))] → wp_X12_readUnit_J47 o s0 Q h → W p l e rm_X12_readUnit s m args below meth c H locs 0 0 (MQ below (va_Qi Q (PU2 G base A g0 A) (fun q => base ≤ q)) args s 0 0 (fun q => base ≤ q)) (F0 m 47 ls [.int s0]) := by
  intro hC hl hw
  unfold wp_X12_readUnit_J47 at hw
  obtain ⟨hx, hb, hr, hml, hown, hts, hg, hs, hlk, hnm⟩ := id hM
  refine lo_istore_n (lv' := [(1, .int s0), (0, .ref (A o))]) hx hb dX12_readUnit_47 rfl hl (by decide) rfl (fun ls hl => ?_)
  refine lv_iload_n hx hb dX12_readUnit_48 rfl (lo_at hl 0 rfl) ?_
  refine lv_if_ne (tgt := 66) hx hb dX12_readUnit_49 (by decide) (fun c3 => ?_) (fun c3 => ?_)
  ·
    replace hw := (if_neg c3).mp hw
    exact t_X12_readUnit_J66 hM o s0 Q  h H locs ls hC (lo_sub hl [1, 0] rfl) hw
  ·
    replace hw := (if_pos c3).mp hw
    refine lv_aload_n hx hb dX12_readUnit_52 rfl (lo_at hl 1 rfl) ?_
    obtain ⟨k20, hw⟩ := hw
    refine s_getI hx hb hts hown hg hC fb_10_22 k20 mk_f_RX12_191 dX12_readUnit_53 ?_
    refine lv_iconst (v := 3) hx hb dX12_readUnit_56 (by decide) ?_
    refine lv_icmp_eq (tgt := 66) hx hb dX12_readUnit_57 (by decide) (fun c21 => ?_) (fun c21 => ?_)
    ·
      replace hw := (if_pos c21).mp hw
      exact t_X12_readUnit_J66 hM o s0 Q  h H locs ls hC (lo_sub hl [1, 0] rfl) hw
    ·
      replace hw := (if_neg c21).mp hw
      refine lv_aload_n hx hb dX12_readUnit_60 rfl (lo_at hl 1 rfl) ?_
      refine lv_iconst (v := 1) hx hb dX12_readUnit_61 (by decide) ?_
      refine res2_i hC (run2_V (As := [.int ((1 : Int32))]) (rest := []) hM hC hl.1.1 kv_RX12_223 (c_X12_fails l G base A o (1 : Int32) h _ hw) (hc_10) k20 rfl rfl rfl ⟨Nat.le_of_ble_eq_true rfl, Nat.le_of_ble_eq_true rfl⟩ (Nat.le_of_ble_eq_true rfl) ⟨Nat.le_of_ble_eq_true rfl, Nat.le_of_ble_eq_true rfl⟩ dX12_readUnit_62) (fun z23 h22 H locs hw hC => ?_)
      exact ret2_i hM hC hw dX12_readUnit_65
set_option maxHeartbeats 4000000 in
set_option maxRecDepth 100000 in
theorem t_X12_readUnit_J46 {p : Program} {l : Launch} {e : Env} {s : State} {m : MethodId} {args : Array Value} {below : List Frame} {meth : Method} {c : Code} {G : GG} {base : Nat} {A : Nat → Nat} {g0 : Hp} (hM : Mx G base p s m args meth c cX12_readUnit 2 (some .int) RX12 "readUnit") (o : Nat) (Q : Int32 → Hp → Prop) (h : Hp) (H : Heap) (locs : List Loc) (ls : Array Slot) : Cx2 G base A g0 A h s.heap H locs → lo_has ls 2 [(0, .ref (A o))] → wp_X12_readUnit_J46 o Q h → W p l e rm_X12_readUnit s m args below meth c H locs 0 0 (MQ below (va_Qi Q (PU2 G base A g0 A) (fun q => base ≤ q)) args s 0 0 (fun q => base ≤ q)) (F0 m 46 ls []) := by
  intro hC hl hw
  unfold wp_X12_readUnit_J46 at hw
  obtain ⟨hx, hb, hr, hml, hown, hts, hg, hs, hlk, hnm⟩ := id hM
  refine lv_iconst (v := 0) hx hb dX12_readUnit_46 (by decide) ?_
  exact t_X12_readUnit_J47 hM o (0 : Int32) Q  h H locs ls hC (lo_sub hl [0] rfl) hw
set_option maxHeartbeats 4000000 in
set_option maxRecDepth 100000 in
theorem t_X12_readUnit_J42 {p : Program} {l : Launch} {e : Env} {s : State} {m : MethodId} {args : Array Value} {below : List Frame} {meth : Method} {c : Code} {G : GG} {base : Nat} {A : Nat → Nat} {g0 : Hp} (hM : Mx G base p s m args meth c cX12_readUnit 2 (some .int) RX12 "readUnit") (o : Nat) (Q : Int32 → Hp → Prop) (h : Hp) (H : Heap) (locs : List Loc) (ls : Array Slot) : Cx2 G base A g0 A h s.heap H locs → lo_has ls 2 [(0, .ref (A o))] → wp_X12_readUnit_J42 o Q h → W p l e rm_X12_readUnit s m args below meth c H locs 0 0 (MQ below (va_Qi Q (PU2 G base A g0 A) (fun q => base ≤ q)) args s 0 0 (fun q => base ≤ q)) (F0 m 42 ls []) := by
  intro hC hl hw
  unfold wp_X12_readUnit_J42 at hw
  obtain ⟨hx, hb, hr, hml, hown, hts, hg, hs, hlk, hnm⟩ := id hM
  refine lv_iconst (v := 1) hx hb dX12_readUnit_42 (by decide) ?_
  refine lv_goto (tgt := 47) hx hb dX12_readUnit_43 (by decide) ?_
  exact t_X12_readUnit_J47 hM o (1 : Int32) Q  h H locs ls hC (lo_sub hl [0] rfl) hw
set_option maxHeartbeats 4000000 in
set_option maxRecDepth 100000 in
theorem c_X12_readUnit (l : Launch) (G : GG) (base : Nat) (A : Nat → Nat) (o : Nat) (h : Hp) (Q : Int32 → Hp → Prop) (hw : wp_X12_readUnit o h Q) : Met l yX12_readUnit (ww yX12_readUnit cX12_readUnit 2 (some .int)) rm_X12_readUnit (va_Pc [.ref (A o)] (PU2 G base A h A h)) (va_Qi Q (PU2 G base A h A) (fun q => base ≤ q)) 0 0 (fun q => base ≤ q) := by
  refine met2_of (own := RX12) (nm := "readUnit") (by decide) rfl rfl (List.forall_mem_cons.mpr ⟨rfl, (fun _ h => absurd h List.not_mem_nil)⟩) (Nat.le_of_ble_eq_true rfl) rfl ?_
  intro p e s m args below meth c H locs ls hM hC hl
  obtain ⟨hx, hb, hr, hml, hown, hts, hg, hs, hlk, hnm⟩ := id hM
  unfold wp_X12_readUnit at hw
  refine lv_aload_n hx hb dX12_readUnit_0 rfl (lo_at hl 0 rfl) ?_
  obtain ⟨k1, hw⟩ := hw
  refine s_getI hx hb hts hown hg hC fb_10_22 k1 mk_f_RX12_191 dX12_readUnit_1 ?_
  refine lv_iconst (v := 2) hx hb dX12_readUnit_4 (by decide) ?_
  refine lv_icmp_ne (tgt := 46) hx hb dX12_readUnit_5 (by decide) (fun c2 => ?_) (fun c2 => ?_)
  ·
    replace hw := (if_neg c2).mp hw
    exact t_X12_readUnit_J46 hM o Q  h H locs ls hC (lo_sub hl [0] rfl) hw
  ·
    replace hw := (if_pos c2).mp hw
    refine lv_aload_n hx hb dX12_readUnit_8 rfl (lo_at hl 0 rfl) ?_
    refine s_getI hx hb hts hown hg hC fb_10_32 k1 mk_f_RX12_219 dX12_readUnit_9 ?_
    refine lv_if_eq (tgt := 33) hx hb dX12_readUnit_12 (by decide) (fun c24 => ?_) (fun c24 => ?_)
    ·
      replace hw := (if_pos c24).mp hw
      refine lv_aload_n hx hb dX12_readUnit_33 rfl (lo_at hl 0 rfl) ?_
      refine s_getI hx hb hts hown hg hC fb_10_23 k1 mk_f_RX12_194 dX12_readUnit_34 ?_
      refine lv_bipush (v := 17) hx hb dX12_readUnit_37 (by decide) ?_
      refine lv_icmp_lt (tgt := 46) hx hb dX12_readUnit_39 (by decide) (fun c25 => ?_) (fun c25 => ?_)
      ·
        replace hw := (if_pos c25).mp hw
        exact t_X12_readUnit_J46 hM o Q  h H locs ls hC (lo_sub hl [0] rfl) hw
      ·
        replace hw := (if_neg c25).mp hw
        exact t_X12_readUnit_J42 hM o Q  h H locs ls hC (lo_sub hl [0] rfl) hw
    ·
      replace hw := (if_neg c24).mp hw
      refine lv_aload_n hx hb dX12_readUnit_15 rfl (lo_at hl 0 rfl) ?_
      refine lv_aload_n hx hb dX12_readUnit_16 rfl (lo_at hl 0 rfl) ?_
      refine s_getI hx hb hts hown hg hC fb_10_23 k1 mk_f_RX12_194 dX12_readUnit_17 ?_
      refine lv_bipush (v := 9) hx hb dX12_readUnit_20 (by decide) ?_
      refine lv_bipush (v := 16) hx hb dX12_readUnit_22 (by decide) ?_
      refine res2_i hC (run2_V (As := [.int (hpI h o 23), .int ((9 : Int32)), .int ((16 : Int32))]) (rest := []) hM hC hl.1.1 kv_RX12_144 (c_X12_isIn l G base A o (hpI h o 23) (9 : Int32) (16 : Int32) h _ hw) (hc_10) k1 rfl rfl rfl ⟨Nat.le_of_ble_eq_true rfl, Nat.le_of_ble_eq_true rfl⟩ (Nat.le_of_ble_eq_true rfl) ⟨Nat.le_of_ble_eq_true rfl, Nat.le_of_ble_eq_true rfl⟩ dX12_readUnit_24) (fun z27 h26 H locs hw hC => ?_)
      refine lv_if_eq (tgt := 46) hx hb dX12_readUnit_27 (by decide) (fun c28 => ?_) (fun c28 => ?_)
      ·
        replace hw := (if_pos c28).mp hw
        exact t_X12_readUnit_J46 hM o Q  h26 H locs ls hC (lo_sub hl [0] rfl) hw
      ·
        replace hw := (if_neg c28).mp hw
        refine lv_goto (tgt := 42) hx hb dX12_readUnit_30 (by decide) ?_
        exact t_X12_readUnit_J42 hM o Q  h26 H locs ls hC (lo_sub hl [0] rfl) hw
abbrev rm_X12_readProduct : Room := { frames := 4, cells := 0, slots := 0, locals := 86 }
set_option maxRecDepth 100000 in
def wp_X12_readProduct_J74 (o : Nat) (x1 : Int32) (KH : Hp → Prop) (K51 : Hp → Prop) (K68 : Hp → Prop) (K82 : Hp → Prop) (K101 : Hp → Prop) (Q : Int32 → Hp → Prop) (h : Hp) : Prop := ((hpK h o).1 = 20 + 10) ∧ (wp_X12_readUnit o h (fun (z19 : Int32) (h18 : Hp) => (if z19 = (-1 : Int32) then (K82 h18) else ((if x1 = 0 then (((hpK h18 o).1 = 20 + 10) ∧ (wp_X12_emits o (5 : Int32) (0 : Int32) h18 (fun (h23 : Hp) => KH h23))) else (((hpK h18 o).1 = 20 + 10) ∧ (wp_X12_emits o (4 : Int32) (0 : Int32) h18 (fun (h26 : Hp) => KH h26))))))))
set_option maxRecDepth 100000 in
def wp_X12_readProduct_J57 (o : Nat) (x1 : Int32) (KH : Hp → Prop) (K51 : Hp → Prop) (K68 : Hp → Prop) (K82 : Hp → Prop) (K101 : Hp → Prop) (Q : Int32 → Hp → Prop) (h : Hp) : Prop := (if x1 = 0 then (((hpK h o).1 = 20 + 10) ∧ ((if (hpI h o 23) = 0 then (K68 h) else (wp_X12_readProduct_J74 o x1 KH K51 K68 K82 K101 Q h)))) else (wp_X12_readProduct_J74 o x1 KH K51 K68 K82 K101 Q h))
set_option maxRecDepth 100000 in
def wp_X12_readProduct_J28 (o : Nat) (KH : Hp → Prop) (K51 : Hp → Prop) (K68 : Hp → Prop) (K82 : Hp → Prop) (K101 : Hp → Prop) (Q : Int32 → Hp → Prop) (h : Hp) : Prop := ((hpK h o).1 = 20 + 10) ∧ (wp_X12_isSign o (42 : Int32) h (fun (z11 : Int32) (h10 : Hp) => ((hpK h10 o).1 = 20 + 10) ∧ (wp_X12_reads o h10 (fun (h13 : Hp) => (if z11 = 0 then (((hpK h13 o).1 = 20 + 10) ∧ ((if (hpI h13 o 22) = (3 : Int32) then (wp_X12_readProduct_J57 o z11 KH K51 K68 K82 K101 Q h13) else (K51 h13)))) else (wp_X12_readProduct_J57 o z11 KH K51 K68 K82 K101 Q h13))))))
set_option maxRecDepth 100000 in
def wp_X12_readProduct_L10 (o : Nat) (K51 : Hp → Prop) (K68 : Hp → Prop) (K82 : Hp → Prop) (K101 : Hp → Prop) (Q : Int32 → Hp → Prop) : Nat → Hp → Prop
  | 0, _ => False
  | n + 1, h => ((hpK h o).1 = 20 + 10) ∧ (wp_X12_isSign o (42 : Int32) h (fun (z7 : Int32) (h6 : Hp) => (if z7 = 0 then (((hpK h6 o).1 = 20 + 10) ∧ (wp_X12_isSign o (47 : Int32) h6 (fun (z34 : Int32) (h33 : Hp) => (if z34 = 0 then (K101 h33) else (wp_X12_readProduct_J28 o (wp_X12_readProduct_L10 o K51 K68 K82 K101 Q n) K51 K68 K82 K101 Q h33))))) else (wp_X12_readProduct_J28 o (wp_X12_readProduct_L10 o K51 K68 K82 K101 Q n) K51 K68 K82 K101 Q h6))))
set_option maxRecDepth 100000 in
def wp_X12_readProduct (o : Nat) (h : Hp) (Q : Int32 → Hp → Prop) : Prop := ((hpK h o).1 = 20 + 10) ∧ (wp_X12_readUnit o h (fun (z3 : Int32) (h2 : Hp) => (if z3 = (-1 : Int32) then (Q (-1 : Int32) h2) else (wp_X12_readProduct_L10 o (fun (h36 : Hp) => ((hpK h36 o).1 = 20 + 10) ∧ (wp_X12_fails o (1 : Int32) h36 (fun (z39 : Int32) (h38 : Hp) => Q z39 h38))) (fun (h40 : Hp) => ((hpK h40 o).1 = 20 + 10) ∧ (wp_X12_fails o (2 : Int32) h40 (fun (z43 : Int32) (h42 : Hp) => Q z43 h42))) (fun (h44 : Hp) => Q (-1 : Int32) h44) (fun (h45 : Hp) => Q (0 : Int32) h45) Q fuel h2))))
set_option maxHeartbeats 4000000 in
set_option maxRecDepth 100000 in
theorem t_X12_readProduct_J74 {p : Program} {l : Launch} {e : Env} {s : State} {m : MethodId} {args : Array Value} {below : List Frame} {meth : Method} {c : Code} {G : GG} {base : Nat} {A : Nat → Nat} {g0 : Hp} (hM : Mx G base p s m args meth c cX12_readProduct 2 (some .int) RX12 "readProduct") (o : Nat) (x1 : Int32) (KH : Hp → Prop) (K51 : Hp → Prop) (K68 : Hp → Prop) (K82 : Hp → Prop) (K101 : Hp → Prop) (Q : Int32 → Hp → Prop) (hKH : ∀ (h : Hp) (H : Heap) (locs : List Loc) (ls : Array Slot), Cx2 G base A g0 A h s.heap H locs → lo_has ls 2 [(0, .ref (A o))] → KH h → W p l e rm_X12_readProduct s m args below meth c H locs 0 0 (MQ below (va_Qi Q (PU2 G base A g0 A) (fun q => base ≤ q)) args s 0 0 (fun q => base ≤ q)) (F0 m 10 ls [])) (hK51 : ∀ (h : Hp) (H : Heap) (locs : List Loc) (ls : Array Slot), Cx2 G base A g0 A h s.heap H locs → lo_has ls 2 [(0, .ref (A o))] → K51 h → W p l e rm_X12_readProduct s m args below meth c H locs 0 0 (MQ below (va_Qi Q (PU2 G base A g0 A) (fun q => base ≤ q)) args s 0 0 (fun q => base ≤ q)) (F0 m 51 ls [])) (hK68 : ∀ (h : Hp) (H : Heap) (locs : List Loc) (ls : Array Slot), Cx2 G base A g0 A h s.heap H locs → lo_has ls 2 [(0, .ref (A o))] → K68 h → W p l e rm_X12_readProduct s m args below meth c H locs 0 0 (MQ below (va_Qi Q (PU2 G base A g0 A) (fun q => base ≤ q)) args s 0 0 (fun q => base ≤ q)) (F0 m 68 ls [])) (hK82 : ∀ (h : Hp) (H : Heap) (locs : List Loc) (ls : Array Slot), Cx2 G base A g0 A h s.heap H locs → lo_has ls 2 [] → K82 h → W p l e rm_X12_readProduct s m args below meth c H locs 0 0 (MQ below (va_Qi Q (PU2 G base A g0 A) (fun q => base ≤ q)) args s 0 0 (fun q => base ≤ q)) (F0 m 82 ls [])) (hK101 : ∀ (h : Hp) (H : Heap) (locs : List Loc) (ls : Array Slot), Cx2 G base A g0 A h s.heap H locs → lo_has ls 2 [] → K101 h → W p l e rm_X12_readProduct s m args below meth c H locs 0 0 (MQ below (va_Qi Q (PU2 G base A g0 A) (fun q => base ≤ q)) args s 0 0 (fun q => base ≤ q)) (F0 m 101 ls [])) (h : Hp) (H : Heap) (locs : List Loc) (ls : Array Slot) : Cx2 G base A g0 A h s.heap H locs → lo_has ls 2 [(0, .ref (A o)), (1, .int x1)] → wp_X12_readProduct_J74 o x1 KH K51 K68 K82 K101 Q h → W p l e rm_X12_readProduct s m args below meth c H locs 0 0 (MQ below (va_Qi Q (PU2 G base A g0 A) (fun q => base ≤ q)) args s 0 0 (fun q => base ≤ q)) (F0 m 74 ls []) := by
  intro hC hl hw
  unfold wp_X12_readProduct_J74 at hw
  obtain ⟨hx, hb, hr, hml, hown, hts, hg, hs, hlk, hnm⟩ := id hM
  refine lv_aload_n hx hb dX12_readProduct_74 rfl (lo_at hl 0 rfl) ?_
  obtain ⟨k17, hw⟩ := hw
  refine res2_i hC (run2_V (As := []) (rest := []) hM hC hl.1.1 kv_RX12_233 (c_X12_readUnit l G base A o h _ hw) (hc_10) k17 rfl rfl rfl ⟨Nat.le_of_ble_eq_true rfl, Nat.le_of_ble_eq_true rfl⟩ (Nat.le_of_ble_eq_true rfl) ⟨Nat.le_of_ble_eq_true rfl, Nat.le_of_ble_eq_true rfl⟩ dX12_readProduct_75) (fun z19 h18 H locs hw hC => ?_)
  refine lv_iconst (v := -1) hx hb dX12_readProduct_78 (by decide) ?_
  refine lv_icmp_ne (tgt := 84) hx hb dX12_readProduct_79 (by decide) (fun c20 => ?_) (fun c20 => ?_)
  ·
    replace hw := (if_neg c20).mp hw
    refine lv_aload_n hx hb dX12_readProduct_84 rfl (lo_at hl 0 rfl) ?_
    refine lv_iload_n hx hb dX12_readProduct_85 rfl (lo_at hl 1 rfl) ?_
    refine lv_if_eq (tgt := 93) hx hb dX12_readProduct_86 (by decide) (fun c21 => ?_) (fun c21 => ?_)
    ·
      replace hw := (if_pos c21).mp hw
      refine lv_iconst (v := 5) hx hb dX12_readProduct_93 (by decide) ?_
      refine lv_iconst (v := 0) hx hb dX12_readProduct_94 (by decide) ?_
      obtain ⟨k22, hw⟩ := hw
      refine res2_v hC (run2_V (As := [.int ((5 : Int32)), .int ((0 : Int32))]) (rest := []) hM hC hl.1.1 kv_RX12_226 (c_X12_emits l G base A o (5 : Int32) (0 : Int32) h18 _ hw) (hc_10) k22 rfl rfl rfl ⟨Nat.le_of_ble_eq_true rfl, Nat.le_of_ble_eq_true rfl⟩ (Nat.le_of_ble_eq_true rfl) ⟨Nat.le_of_ble_eq_true rfl, Nat.le_of_ble_eq_true rfl⟩ dX12_readProduct_95) (fun h23 H locs hw hC => ?_)
      refine lv_goto (tgt := 10) hx hb dX12_readProduct_98 (by decide) ?_
      exact hKH  h23 H locs ls hC (lo_sub hl [0] rfl) hw
    ·
      replace hw := (if_neg c21).mp hw
      refine lv_iconst (v := 4) hx hb dX12_readProduct_89 (by decide) ?_
      refine lv_goto (tgt := 94) hx hb dX12_readProduct_90 (by decide) ?_
      refine lv_iconst (v := 0) hx hb dX12_readProduct_94 (by decide) ?_
      obtain ⟨k25, hw⟩ := hw
      refine res2_v hC (run2_V (As := [.int ((4 : Int32)), .int ((0 : Int32))]) (rest := []) hM hC hl.1.1 kv_RX12_226 (c_X12_emits l G base A o (4 : Int32) (0 : Int32) h18 _ hw) (hc_10) k25 rfl rfl rfl ⟨Nat.le_of_ble_eq_true rfl, Nat.le_of_ble_eq_true rfl⟩ (Nat.le_of_ble_eq_true rfl) ⟨Nat.le_of_ble_eq_true rfl, Nat.le_of_ble_eq_true rfl⟩ dX12_readProduct_95) (fun h26 H locs hw hC => ?_)
      refine lv_goto (tgt := 10) hx hb dX12_readProduct_98 (by decide) ?_
      exact hKH  h26 H locs ls hC (lo_sub hl [0] rfl) hw
  ·
    replace hw := (if_pos c20).mp hw
    exact hK82  h18 H locs ls hC (lo_sub hl [] rfl) hw
set_option maxHeartbeats 4000000 in
set_option maxRecDepth 100000 in
theorem t_X12_readProduct_J57 {p : Program} {l : Launch} {e : Env} {s : State} {m : MethodId} {args : Array Value} {below : List Frame} {meth : Method} {c : Code} {G : GG} {base : Nat} {A : Nat → Nat} {g0 : Hp} (hM : Mx G base p s m args meth c cX12_readProduct 2 (some .int) RX12 "readProduct") (o : Nat) (x1 : Int32) (KH : Hp → Prop) (K51 : Hp → Prop) (K68 : Hp → Prop) (K82 : Hp → Prop) (K101 : Hp → Prop) (Q : Int32 → Hp → Prop) (hKH : ∀ (h : Hp) (H : Heap) (locs : List Loc) (ls : Array Slot), Cx2 G base A g0 A h s.heap H locs → lo_has ls 2 [(0, .ref (A o))] → KH h → W p l e rm_X12_readProduct s m args below meth c H locs 0 0 (MQ below (va_Qi Q (PU2 G base A g0 A) (fun q => base ≤ q)) args s 0 0 (fun q => base ≤ q)) (F0 m 10 ls [])) (hK51 : ∀ (h : Hp) (H : Heap) (locs : List Loc) (ls : Array Slot), Cx2 G base A g0 A h s.heap H locs → lo_has ls 2 [(0, .ref (A o))] → K51 h → W p l e rm_X12_readProduct s m args below meth c H locs 0 0 (MQ below (va_Qi Q (PU2 G base A g0 A) (fun q => base ≤ q)) args s 0 0 (fun q => base ≤ q)) (F0 m 51 ls [])) (hK68 : ∀ (h : Hp) (H : Heap) (locs : List Loc) (ls : Array Slot), Cx2 G base A g0 A h s.heap H locs → lo_has ls 2 [(0, .ref (A o))] → K68 h → W p l e rm_X12_readProduct s m args below meth c H locs 0 0 (MQ below (va_Qi Q (PU2 G base A g0 A) (fun q => base ≤ q)) args s 0 0 (fun q => base ≤ q)) (F0 m 68 ls [])) (hK82 : ∀ (h : Hp) (H : Heap) (locs : List Loc) (ls : Array Slot), Cx2 G base A g0 A h s.heap H locs → lo_has ls 2 [] → K82 h → W p l e rm_X12_readProduct s m args below meth c H locs 0 0 (MQ below (va_Qi Q (PU2 G base A g0 A) (fun q => base ≤ q)) args s 0 0 (fun q => base ≤ q)) (F0 m 82 ls [])) (hK101 : ∀ (h : Hp) (H : Heap) (locs : List Loc) (ls : Array Slot), Cx2 G base A g0 A h s.heap H locs → lo_has ls 2 [] → K101 h → W p l e rm_X12_readProduct s m args below meth c H locs 0 0 (MQ below (va_Qi Q (PU2 G base A g0 A) (fun q => base ≤ q)) args s 0 0 (fun q => base ≤ q)) (F0 m 101 ls [])) (h : Hp) (H : Heap) (locs : List Loc) (ls : Array Slot) : Cx2 G base A g0 A h s.heap H locs → lo_has ls 2 [(0, .ref (A o)), (1, .int x1)] → wp_X12_readProduct_J57 o x1 KH K51 K68 K82 K101 Q h → W p l e rm_X12_readProduct s m args below meth c H locs 0 0 (MQ below (va_Qi Q (PU2 G base A g0 A) (fun q => base ≤ q)) args s 0 0 (fun q => base ≤ q)) (F0 m 57 ls []) := by
  intro hC hl hw
  unfold wp_X12_readProduct_J57 at hw
  obtain ⟨hx, hb, hr, hml, hown, hts, hg, hs, hlk, hnm⟩ := id hM
  refine lv_iload_n hx hb dX12_readProduct_57 rfl (lo_at hl 1 rfl) ?_
  refine lv_if_ne (tgt := 74) hx hb dX12_readProduct_58 (by decide) (fun c16 => ?_) (fun c16 => ?_)
  ·
    replace hw := (if_neg c16).mp hw
    exact t_X12_readProduct_J74 hM o x1 KH K51 K68 K82 K101 Q hKH hK51 hK68 hK82 hK101 h H locs ls hC (lo_sub hl [0, 1] rfl) hw
  ·
    replace hw := (if_pos c16).mp hw
    refine lv_aload_n hx hb dX12_readProduct_61 rfl (lo_at hl 0 rfl) ?_
    obtain ⟨k28, hw⟩ := hw
    refine s_getI hx hb hts hown hg hC fb_10_23 k28 mk_f_RX12_194 dX12_readProduct_62 ?_
    refine lv_if_ne (tgt := 74) hx hb dX12_readProduct_65 (by decide) (fun c29 => ?_) (fun c29 => ?_)
    ·
      replace hw := (if_neg c29).mp hw
      exact t_X12_readProduct_J74 hM o x1 KH K51 K68 K82 K101 Q hKH hK51 hK68 hK82 hK101 h H locs ls hC (lo_sub hl [0, 1] rfl) hw
    ·
      replace hw := (if_pos c29).mp hw
      exact hK68  h H locs ls hC (lo_sub hl [0] rfl) hw
set_option maxHeartbeats 4000000 in
set_option maxRecDepth 100000 in
theorem t_X12_readProduct_J28 {p : Program} {l : Launch} {e : Env} {s : State} {m : MethodId} {args : Array Value} {below : List Frame} {meth : Method} {c : Code} {G : GG} {base : Nat} {A : Nat → Nat} {g0 : Hp} (hM : Mx G base p s m args meth c cX12_readProduct 2 (some .int) RX12 "readProduct") (o : Nat) (KH : Hp → Prop) (K51 : Hp → Prop) (K68 : Hp → Prop) (K82 : Hp → Prop) (K101 : Hp → Prop) (Q : Int32 → Hp → Prop) (hKH : ∀ (h : Hp) (H : Heap) (locs : List Loc) (ls : Array Slot), Cx2 G base A g0 A h s.heap H locs → lo_has ls 2 [(0, .ref (A o))] → KH h → W p l e rm_X12_readProduct s m args below meth c H locs 0 0 (MQ below (va_Qi Q (PU2 G base A g0 A) (fun q => base ≤ q)) args s 0 0 (fun q => base ≤ q)) (F0 m 10 ls [])) (hK51 : ∀ (h : Hp) (H : Heap) (locs : List Loc) (ls : Array Slot), Cx2 G base A g0 A h s.heap H locs → lo_has ls 2 [(0, .ref (A o))] → K51 h → W p l e rm_X12_readProduct s m args below meth c H locs 0 0 (MQ below (va_Qi Q (PU2 G base A g0 A) (fun q => base ≤ q)) args s 0 0 (fun q => base ≤ q)) (F0 m 51 ls [])) (hK68 : ∀ (h : Hp) (H : Heap) (locs : List Loc) (ls : Array Slot), Cx2 G base A g0 A h s.heap H locs → lo_has ls 2 [(0, .ref (A o))] → K68 h → W p l e rm_X12_readProduct s m args below meth c H locs 0 0 (MQ below (va_Qi Q (PU2 G base A g0 A) (fun q => base ≤ q)) args s 0 0 (fun q => base ≤ q)) (F0 m 68 ls [])) (hK82 : ∀ (h : Hp) (H : Heap) (locs : List Loc) (ls : Array Slot), Cx2 G base A g0 A h s.heap H locs → lo_has ls 2 [] → K82 h → W p l e rm_X12_readProduct s m args below meth c H locs 0 0 (MQ below (va_Qi Q (PU2 G base A g0 A) (fun q => base ≤ q)) args s 0 0 (fun q => base ≤ q)) (F0 m 82 ls [])) (hK101 : ∀ (h : Hp) (H : Heap) (locs : List Loc) (ls : Array Slot), Cx2 G base A g0 A h s.heap H locs → lo_has ls 2 [] → K101 h → W p l e rm_X12_readProduct s m args below meth c H locs 0 0 (MQ below (va_Qi Q (PU2 G base A g0 A) (fun q => base ≤ q)) args s 0 0 (fun q => base ≤ q)) (F0 m 101 ls [])) (h : Hp) (H : Heap) (locs : List Loc) (ls : Array Slot) : Cx2 G base A g0 A h s.heap H locs → lo_has ls 2 [(0, .ref (A o))] → wp_X12_readProduct_J28 o KH K51 K68 K82 K101 Q h → W p l e rm_X12_readProduct s m args below meth c H locs 0 0 (MQ below (va_Qi Q (PU2 G base A g0 A) (fun q => base ≤ q)) args s 0 0 (fun q => base ≤ q)) (F0 m 28 ls []) := by
  intro hC hl hw
  unfold wp_X12_readProduct_J28 at hw
  obtain ⟨hx, hb, hr, hml, hown, hts, hg, hs, hlk, hnm⟩ := id hM
  refine lv_aload_n hx hb dX12_readProduct_28 rfl (lo_at hl 0 rfl) ?_
  refine lv_bipush (v := 42) hx hb dX12_readProduct_29 (by decide) ?_
  obtain ⟨k9, hw⟩ := hw
  refine res2_i hC (run2_V (As := [.int ((42 : Int32))]) (rest := []) hM hC hl.1.1 kv_RX12_237 (c_X12_isSign l G base A o (42 : Int32) h _ hw) (hc_10) k9 rfl rfl rfl ⟨Nat.le_of_ble_eq_true rfl, Nat.le_of_ble_eq_true rfl⟩ (Nat.le_of_ble_eq_true rfl) ⟨Nat.le_of_ble_eq_true rfl, Nat.le_of_ble_eq_true rfl⟩ dX12_readProduct_31) (fun z11 h10 H locs hw hC => ?_)
  refine lo_istore_n (lv' := [(1, .int z11), (0, .ref (A o))]) hx hb dX12_readProduct_34 rfl hl (by decide) rfl (fun ls hl => ?_)
  refine lv_aload_n hx hb dX12_readProduct_35 rfl (lo_at hl 1 rfl) ?_
  obtain ⟨k12, hw⟩ := hw
  refine res2_v hC (run2_V (As := []) (rest := []) hM hC hl.1.1 kv_RX12_230 (c_X12_reads l G base A o h10 _ hw) (hc_10) k12 rfl rfl rfl ⟨Nat.le_of_ble_eq_true rfl, Nat.le_of_ble_eq_true rfl⟩ (Nat.le_of_ble_eq_true rfl) ⟨Nat.le_of_ble_eq_true rfl, Nat.le_of_ble_eq_true rfl⟩ dX12_readProduct_36) (fun h13 H locs hw hC => ?_)
  refine lv_iload_n hx hb dX12_readProduct_39 rfl (lo_at hl 0 rfl) ?_
  refine lv_if_ne (tgt := 57) hx hb dX12_readProduct_40 (by decide) (fun c15 => ?_) (fun c15 => ?_)
  ·
    replace hw := (if_neg c15).mp hw
    exact t_X12_readProduct_J57 hM o z11 KH K51 K68 K82 K101 Q hKH hK51 hK68 hK82 hK101 h13 H locs ls hC (lo_sub hl [1, 0] rfl) hw
  ·
    replace hw := (if_pos c15).mp hw
    refine lv_aload_n hx hb dX12_readProduct_43 rfl (lo_at hl 1 rfl) ?_
    obtain ⟨k30, hw⟩ := hw
    refine s_getI hx hb hts hown hg hC fb_10_22 k30 mk_f_RX12_191 dX12_readProduct_44 ?_
    refine lv_iconst (v := 3) hx hb dX12_readProduct_47 (by decide) ?_
    refine lv_icmp_eq (tgt := 57) hx hb dX12_readProduct_48 (by decide) (fun c31 => ?_) (fun c31 => ?_)
    ·
      replace hw := (if_pos c31).mp hw
      exact t_X12_readProduct_J57 hM o z11 KH K51 K68 K82 K101 Q hKH hK51 hK68 hK82 hK101 h13 H locs ls hC (lo_sub hl [1, 0] rfl) hw
    ·
      replace hw := (if_neg c31).mp hw
      exact hK51  h13 H locs ls hC (lo_sub hl [1] rfl) hw
set_option maxHeartbeats 4000000 in
set_option maxRecDepth 100000 in
theorem t_X12_readProduct_L10 {p : Program} {l : Launch} {e : Env} {s : State} {m : MethodId} {args : Array Value} {below : List Frame} {meth : Method} {c : Code} {G : GG} {base : Nat} {A : Nat → Nat} {g0 : Hp} (hM : Mx G base p s m args meth c cX12_readProduct 2 (some .int) RX12 "readProduct") (o : Nat) (K51 : Hp → Prop) (K68 : Hp → Prop) (K82 : Hp → Prop) (K101 : Hp → Prop) (Q : Int32 → Hp → Prop) (hK51 : ∀ (h : Hp) (H : Heap) (locs : List Loc) (ls : Array Slot), Cx2 G base A g0 A h s.heap H locs → lo_has ls 2 [(0, .ref (A o))] → K51 h → W p l e rm_X12_readProduct s m args below meth c H locs 0 0 (MQ below (va_Qi Q (PU2 G base A g0 A) (fun q => base ≤ q)) args s 0 0 (fun q => base ≤ q)) (F0 m 51 ls [])) (hK68 : ∀ (h : Hp) (H : Heap) (locs : List Loc) (ls : Array Slot), Cx2 G base A g0 A h s.heap H locs → lo_has ls 2 [(0, .ref (A o))] → K68 h → W p l e rm_X12_readProduct s m args below meth c H locs 0 0 (MQ below (va_Qi Q (PU2 G base A g0 A) (fun q => base ≤ q)) args s 0 0 (fun q => base ≤ q)) (F0 m 68 ls [])) (hK82 : ∀ (h : Hp) (H : Heap) (locs : List Loc) (ls : Array Slot), Cx2 G base A g0 A h s.heap H locs → lo_has ls 2 [] → K82 h → W p l e rm_X12_readProduct s m args below meth c H locs 0 0 (MQ below (va_Qi Q (PU2 G base A g0 A) (fun q => base ≤ q)) args s 0 0 (fun q => base ≤ q)) (F0 m 82 ls [])) (hK101 : ∀ (h : Hp) (H : Heap) (locs : List Loc) (ls : Array Slot), Cx2 G base A g0 A h s.heap H locs → lo_has ls 2 [] → K101 h → W p l e rm_X12_readProduct s m args below meth c H locs 0 0 (MQ below (va_Qi Q (PU2 G base A g0 A) (fun q => base ≤ q)) args s 0 0 (fun q => base ≤ q)) (F0 m 101 ls [])) : ∀ (n : Nat) (h : Hp) (H : Heap) (locs : List Loc) (ls : Array Slot), Cx2 G base A g0 A h s.heap H locs → lo_has ls 2 [(0, .ref (A o))] → wp_X12_readProduct_L10 o K51 K68 K82 K101 Q n h → W p l e rm_X12_readProduct s m args below meth c H locs 0 0 (MQ below (va_Qi Q (PU2 G base A g0 A) (fun q => base ≤ q)) args s 0 0 (fun q => base ≤ q)) (F0 m 10 ls []) := by
  intro n
  induction n with
  | zero =>
    intro  h H locs ls hC hl hw
    rw [wp_X12_readProduct_L10] at hw
    exact hw.elim
  | succ n ih =>
    intro  h H locs ls hC hl hw
    rw [wp_X12_readProduct_L10] at hw
    obtain ⟨hx, hb, hr, hml, hown, hts, hg, hs, hlk, hnm⟩ := id hM
    refine lv_aload_n hx hb dX12_readProduct_10 rfl (lo_at hl 0 rfl) ?_
    refine lv_bipush (v := 42) hx hb dX12_readProduct_11 (by decide) ?_
    obtain ⟨k5, hw⟩ := hw
    refine res2_i hC (run2_V (As := [.int ((42 : Int32))]) (rest := []) hM hC hl.1.1 kv_RX12_237 (c_X12_isSign l G base A o (42 : Int32) h _ hw) (hc_10) k5 rfl rfl rfl ⟨Nat.le_of_ble_eq_true rfl, Nat.le_of_ble_eq_true rfl⟩ (Nat.le_of_ble_eq_true rfl) ⟨Nat.le_of_ble_eq_true rfl, Nat.le_of_ble_eq_true rfl⟩ dX12_readProduct_13) (fun z7 h6 H locs hw hC => ?_)
    refine lv_if_ne (tgt := 28) hx hb dX12_readProduct_16 (by decide) (fun c8 => ?_) (fun c8 => ?_)
    ·
      replace hw := (if_neg c8).mp hw
      exact t_X12_readProduct_J28 hM o (wp_X12_readProduct_L10 o K51 K68 K82 K101 Q n) K51 K68 K82 K101 Q ih hK51 hK68 hK82 hK101 h6 H locs ls hC (lo_sub hl [0] rfl) hw
    ·
      replace hw := (if_pos c8).mp hw
      refine lv_aload_n hx hb dX12_readProduct_19 rfl (lo_at hl 0 rfl) ?_
      refine lv_bipush (v := 47) hx hb dX12_readProduct_20 (by decide) ?_
      obtain ⟨k32, hw⟩ := hw
      refine res2_i hC (run2_V (As := [.int ((47 : Int32))]) (rest := []) hM hC hl.1.1 kv_RX12_237 (c_X12_isSign l G base A o (47 : Int32) h6 _ hw) (hc_10) k32 rfl rfl rfl ⟨Nat.le_of_ble_eq_true rfl, Nat.le_of_ble_eq_true rfl⟩ (Nat.le_of_ble_eq_true rfl) ⟨Nat.le_of_ble_eq_true rfl, Nat.le_of_ble_eq_true rfl⟩ dX12_readProduct_22) (fun z34 h33 H locs hw hC => ?_)
      refine lv_if_eq (tgt := 101) hx hb dX12_readProduct_25 (by decide) (fun c35 => ?_) (fun c35 => ?_)
      ·
        replace hw := (if_pos c35).mp hw
        exact hK101  h33 H locs ls hC (lo_sub hl [] rfl) hw
      ·
        replace hw := (if_neg c35).mp hw
        exact t_X12_readProduct_J28 hM o (wp_X12_readProduct_L10 o K51 K68 K82 K101 Q n) K51 K68 K82 K101 Q ih hK51 hK68 hK82 hK101 h33 H locs ls hC (lo_sub hl [0] rfl) hw
set_option maxHeartbeats 4000000 in
set_option maxRecDepth 100000 in
theorem c_X12_readProduct (l : Launch) (G : GG) (base : Nat) (A : Nat → Nat) (o : Nat) (h : Hp) (Q : Int32 → Hp → Prop) (hw : wp_X12_readProduct o h Q) : Met l yX12_readProduct (ww yX12_readProduct cX12_readProduct 2 (some .int)) rm_X12_readProduct (va_Pc [.ref (A o)] (PU2 G base A h A h)) (va_Qi Q (PU2 G base A h A) (fun q => base ≤ q)) 0 0 (fun q => base ≤ q) := by
  refine met2_of (own := RX12) (nm := "readProduct") (by decide) rfl rfl (List.forall_mem_cons.mpr ⟨rfl, (fun _ h => absurd h List.not_mem_nil)⟩) (Nat.le_of_ble_eq_true rfl) rfl ?_
  intro p e s m args below meth c H locs ls hM hC hl
  obtain ⟨hx, hb, hr, hml, hown, hts, hg, hs, hlk, hnm⟩ := id hM
  unfold wp_X12_readProduct at hw
  refine lv_aload_n hx hb dX12_readProduct_0 rfl (lo_at hl 0 rfl) ?_
  obtain ⟨k1, hw⟩ := hw
  refine res2_i hC (run2_V (As := []) (rest := []) hM hC hl.1.1 kv_RX12_233 (c_X12_readUnit l G base A o h _ hw) (hc_10) k1 rfl rfl rfl ⟨Nat.le_of_ble_eq_true rfl, Nat.le_of_ble_eq_true rfl⟩ (Nat.le_of_ble_eq_true rfl) ⟨Nat.le_of_ble_eq_true rfl, Nat.le_of_ble_eq_true rfl⟩ dX12_readProduct_1) (fun z3 h2 H locs hw hC => ?_)
  refine lv_iconst (v := -1) hx hb dX12_readProduct_4 (by decide) ?_
  refine lv_icmp_ne (tgt := 10) hx hb dX12_readProduct_5 (by decide) (fun c4 => ?_) (fun c4 => ?_)
  ·
    replace hw := (if_neg c4).mp hw
    refine t_X12_readProduct_L10 hM o _ _ _ _ Q ?_ ?_ ?_ ?_ fuel  h2 H locs ls hC (lo_sub hl [0] rfl) hw
    ·
      intro  h36 H locs ls hC hl hw
      refine lv_aload_n hx hb dX12_readProduct_51 rfl (lo_at hl 0 rfl) ?_
      refine lv_iconst (v := 1) hx hb dX12_readProduct_52 (by decide) ?_
      obtain ⟨k37, hw⟩ := hw
      refine res2_i hC (run2_V (As := [.int ((1 : Int32))]) (rest := []) hM hC hl.1.1 kv_RX12_223 (c_X12_fails l G base A o (1 : Int32) h36 _ hw) (hc_10) k37 rfl rfl rfl ⟨Nat.le_of_ble_eq_true rfl, Nat.le_of_ble_eq_true rfl⟩ (Nat.le_of_ble_eq_true rfl) ⟨Nat.le_of_ble_eq_true rfl, Nat.le_of_ble_eq_true rfl⟩ dX12_readProduct_53) (fun z39 h38 H locs hw hC => ?_)
      exact ret2_i hM hC hw dX12_readProduct_56
    ·
      intro  h40 H locs ls hC hl hw
      refine lv_aload_n hx hb dX12_readProduct_68 rfl (lo_at hl 0 rfl) ?_
      refine lv_iconst (v := 2) hx hb dX12_readProduct_69 (by decide) ?_
      obtain ⟨k41, hw⟩ := hw
      refine res2_i hC (run2_V (As := [.int ((2 : Int32))]) (rest := []) hM hC hl.1.1 kv_RX12_223 (c_X12_fails l G base A o (2 : Int32) h40 _ hw) (hc_10) k41 rfl rfl rfl ⟨Nat.le_of_ble_eq_true rfl, Nat.le_of_ble_eq_true rfl⟩ (Nat.le_of_ble_eq_true rfl) ⟨Nat.le_of_ble_eq_true rfl, Nat.le_of_ble_eq_true rfl⟩ dX12_readProduct_70) (fun z43 h42 H locs hw hC => ?_)
      exact ret2_i hM hC hw dX12_readProduct_73
    ·
      intro  h44 H locs ls hC hl hw
      refine lv_iconst (v := -1) hx hb dX12_readProduct_82 (by decide) ?_
      exact ret2_i hM hC hw dX12_readProduct_83
    ·
      intro  h45 H locs ls hC hl hw
      refine lv_iconst (v := 0) hx hb dX12_readProduct_101 (by decide) ?_
      exact ret2_i hM hC hw dX12_readProduct_102
  ·
    replace hw := (if_pos c4).mp hw
    refine lv_iconst (v := -1) hx hb dX12_readProduct_8 (by decide) ?_
    exact ret2_i hM hC hw dX12_readProduct_9
