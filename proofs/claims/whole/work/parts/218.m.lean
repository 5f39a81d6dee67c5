abbrev rm_X11_round : Room := { frames := 8, cells := 0, slots := 0, locals := 218 }
set_option maxRecDepth 100000 in
def wp_X11_round (o : Nat) (x1 : Int32) (x2 : Int32) (h : Hp) (Q : Int32 → Hp → Prop) : Prop := (if x1 ≤ 0 then (Q (-1 : Int32) h) else (((hpK h o).1 = 20 + 9) ∧ ((if ((1 : Int32) <<< ((hpI h o 8) &&& 31)) ≤ x1 then (Q (-1 : Int32) h) else ((if x2 < 0 then (Q (-1 : Int32) h) else ((if x2 ≤ (1 : Int32) then (wp_X11_markMisled o h (fun (h6 : Hp) => ((hpK h6 o).1 = 20 + 9) ∧ (wp_X11_cheapestRound o x1 h6 (fun (z10 : Int32) (h9 : Hp) => (if x2 = 0 then (Q z10 h9) else ((if z10 = (-1 : Int32) then (Q z10 h9) else (((hpK h9 o).1 = 20 + 9) ∧ (wp_X11_hoursOf o z10 h9 (fun (z15 : Int32) (h14 : Hp) => Q z15 h14)))))))))) else (Q (-1 : Int32) h)))))))))
set_option maxHeartbeats 4000000 in
set_option maxRecDepth 100000 in
theorem c_X11_round (l : Launch) (G : GG) (base : Nat) (A : Nat → Nat) (o : Nat) (x1 : Int32) (x2 : Int32) (h : Hp) (Q : Int32 → Hp → Prop) (hw : wp_X11_round o x1 x2 h Q) : Met l yX11_round (ww yX11_round cX11_round 4 (some .int)) rm_X11_round (va_Pc [.ref (A o), .int x1, .int x2] (PU2 G base A h A h)) (va_Qi Q (PU2 G base A h A) (fun q => base ≤ q)) 0 0 (fun q => base ≤ q) := by
  refine met2_of (own := RX11) (nm := "round") (by decide) rfl rfl (List.forall_mem_cons.mpr ⟨rfl, (List.forall_mem_cons.mpr ⟨rfl, (List.forall_mem_cons.mpr ⟨rfl, (fun _ h => absurd h List.not_mem_nil)⟩)⟩)⟩) (Nat.le_of_ble_eq_true rfl) rfl ?_
  intro p e s m args below meth c H locs ls hM hC hl
  obtain ⟨hx, hb, hr, hml, hown, hts, hg, hs, hlk, hnm⟩ := id hM
  unfold wp_X11_round at hw
  refine lv_iload_n hx hb dX11_round_0 rfl (lo_at hl 1 rfl) ?_
  refine lv_if_le (tgt := 23) hx hb dX11_round_1 (by decide) (fun c1 => ?_) (fun c1 => ?_)
  ·
    replace hw := (if_pos c1).mp hw
    refine lv_iconst (v := -1) hx hb dX11_round_23 (by decide) ?_
    exact ret2_i hM hC hw dX11_round_24
  ·
    replace hw := (if_neg c1).mp hw
    refine lv_iload_n hx hb dX11_round_4 rfl (lo_at hl 1 rfl) ?_
    refine lv_iconst (v := 1) hx hb dX11_round_5 (by decide) ?_
    refine lv_aload_n hx hb dX11_round_6 rfl (lo_at hl 0 rfl) ?_
    obtain ⟨k2, hw⟩ := hw
    refine s_getI hx hb hts hown hg hC fb_9_8 k2 mk_f_RX11_195 dX11_round_7 ?_
    refine lv_ishl hx hb dX11_round_10 ?_
    refine lv_icmp_ge (tgt := 23) hx hb dX11_round_11 (by decide) (fun c3 => ?_) (fun c3 => ?_)
    ·
      replace hw := (if_pos c3).mp hw
      refine lv_iconst (v := -1) hx hb dX11_round_23 (by decide) ?_
      exact ret2_i hM hC hw dX11_round_24
    ·
      replace hw := (if_neg c3).mp hw
      refine lv_iload_n hx hb dX11_round_14 rfl (lo_at hl 2 rfl) ?_
      refine lv_if_lt (tgt := 23) hx hb dX11_round_15 (by decide) (fun c4 => ?_) (fun c4 => ?_)
      ·
        replace hw := (if_pos c4).mp hw
        refine lv_iconst (v := -1) hx hb dX11_round_23 (by decide) ?_
        exact ret2_i hM hC hw dX11_round_24
      ·
        replace hw := (if_neg c4).mp hw
        refine lv_iload_n hx hb dX11_round_18 rfl (lo_at hl 2 rfl) ?_
        refine lv_iconst (v := 1) hx hb dX11_round_19 (by decide) ?_
        refine lv_icmp_le (tgt := 25) hx hb dX11_round_20 (by decide) (fun c5 => ?_) (fun c5 => ?_)
        ·
          replace hw := (if_pos c5).mp hw
          refine lv_aload_n hx hb dX11_round_25 rfl (lo_at hl 0 rfl) ?_
          refine res2_v hC (run2_V (As := []) (rest := []) hM hC hl.1.1 kv_RX11_268 (c_X11_markMisled l G base A o h _ hw) (hc_9) k2 rfl rfl rfl ⟨Nat.le_of_ble_eq_true rfl, Nat.le_of_ble_eq_true rfl⟩ (Nat.le_of_ble_eq_true rfl) ⟨Nat.le_of_ble_eq_true rfl, Nat.le_of_ble_eq_true rfl⟩ dX11_round_26) (fun h6 H locs hw hC => ?_)
          refine lv_aload_n hx hb dX11_round_29 rfl (lo_at hl 0 rfl) ?_
          refine lv_iload_n hx hb dX11_round_30 rfl (lo_at hl 1 rfl) ?_
          obtain ⟨k8, hw⟩ := hw
          refine res2_i hC (run2_V (As := [.int x1]) (rest := []) hM hC hl.1.1 kv_RX11_271 (c_X11_cheapestRound l G base A o x1 h6 _ hw) (hc_9) k8 rfl rfl rfl ⟨Nat.le_of_ble_eq_true rfl, Nat.le_of_ble_eq_true rfl⟩ (Nat.le_of_ble_eq_true rfl) ⟨Nat.le_of_ble_eq_true rfl, Nat.le_of_ble_eq_true rfl⟩ dX11_round_31) (fun z10 h9 H locs hw hC => ?_)
          refine lo_istore_n (lv' := [(3, .int z10), (0, .ref (A o)), (1, .int x1), (2, .int x2)]) hx hb dX11_round_34 rfl hl (by decide) rfl (fun ls hl => ?_)
          refine lv_iload_n hx hb dX11_round_35 rfl (lo_at hl 3 rfl) ?_
          refine lv_if_eq (tgt := 44) hx hb dX11_round_36 (by decide) (fun c11 => ?_) (fun c11 => ?_)
          ·
            replace hw := (if_pos c11).mp hw
            refine lv_iload_n hx hb dX11_round_44 rfl (lo_at hl 0 rfl) ?_
            refine lv_goto (tgt := 53) hx hb dX11_round_45 (by decide) ?_
            exact ret2_i hM hC hw dX11_round_53
          ·
            replace hw := (if_neg c11).mp hw
            refine lv_iload_n hx hb dX11_round_39 rfl (lo_at hl 0 rfl) ?_
            refine lv_iconst (v := -1) hx hb dX11_round_40 (by decide) ?_
            refine lv_icmp_ne (tgt := 48) hx hb dX11_round_41 (by decide) (fun c12 => ?_) (fun c12 => ?_)
            ·
              replace hw := (if_neg c12).mp hw
              refine lv_aload_n hx hb dX11_round_48 rfl (lo_at hl 1 rfl) ?_
              refine lv_iload_n hx hb dX11_round_49 rfl (lo_at hl 0 rfl) ?_
              obtain ⟨k13, hw⟩ := hw
              refine res2_i hC (run2_V (As := [.int z10]) (rest := []) hM hC hl.1.1 kv_RX11_274 (c_X11_hoursOf l G base A o z10 h9 _ hw) (hc_9) k13 rfl rfl rfl ⟨Nat.le_of_ble_eq_true rfl, Nat.le_of_ble_eq_true rfl⟩ (Nat.le_of_ble_eq_true rfl) ⟨Nat.le_of_ble_eq_true rfl, Nat.le_of_ble_eq_true rfl⟩ dX11_round_50) (fun z15 h14 H locs hw hC => ?_)
              exact ret2_i hM hC hw dX11_round_53
            ·
              replace hw := (if_pos c12).mp hw
              refine lv_iload_n hx hb dX11_round_44 rfl (lo_at hl 0 rfl) ?_
              refine lv_goto (tgt := 53) hx hb dX11_round_45 (by decide) ?_
              exact ret2_i hM hC hw dX11_round_53
        ·
          replace hw := (if_neg c5).mp hw
          refine lv_iconst (v := -1) hx hb dX11_round_23 (by decide) ?_
          exact ret2_i hM hC hw dX11_round_24
abbrev rm_X11_joined : Room := { frames := 8, cells := 0, slots := 0, locals := 223 }
set_option maxRecDepth 100000 in
def wp_X11_joined_J22 (o : Nat) (x2 : Int32) (r3 : Option Nat) (Q : Int32 → Hp → Prop) (h : Hp) : Prop := ((hpK h o).1 = 20 + 9) ∧ (wp_X11_weakest o r3 h (fun (z8 : Int32) (h7 : Hp) => (if z8 = (-1 : Int32) then (Q (-1 : Int32) h7) else ((if x2 = (1 : Int32) then (Q (z8 - z8 / (64 : Int32) * (64 : Int32)) h7) else (Q (z8 / (64 : Int32)) h7))))))
set_option maxRecDepth 100000 in
def wp_X11_joined (o : Nat) (x1 : Int32) (x2 : Int32) (h : Hp) (Q : Int32 → Hp → Prop) : Prop := ((hpK h o).1 = 20 + 9) ∧ (wp_X11_lookerAt o x1 h (fun (z3 : Option Nat) (h2 : Hp) => (if z3 = none then (Q (-1 : Int32) h2) else ((if x2 = (1 : Int32) then (wp_X11_joined_J22 o x2 z3 Q h2) else ((if x2 = (2 : Int32) then (wp_X11_joined_J22 o x2 z3 Q h2) else ((if x2 = 0 then (((hpK h2 o).1 = 20 + 9) ∧ (wp_X11_makeGroups o z3 h2 (fun (h27 : Hp) => ((hpK h27 o).1 = 20 + 9) ∧ (wp_X11_groupCount o h27 (fun (z31 : Int32) (h30 : Hp) => Q z31 h30))))) else (∀ v13 : Int32, v13 = x2 - (10 : Int32) → ((if v13 < 0 then (Q (-1 : Int32) h2) else ((if (8 : Int32) ≤ v13 then (Q (-1 : Int32) h2) else (((hpK h2 o).1 = 20 + 9) ∧ (okA h2 (hpR h2 o 11) 2 v13 ∧ (∀ v18 : Int64, v18 = hpL h2 (ad (hpR h2 o 11)) (v13).toNatClampNeg → ((if (lg_cmp v18 (0 : Int64)) = 0 then (Q (-1 : Int32) h2) else (wp_X11_makeGroups o z3 h2 (fun (h20 : Hp) => ((hpK h20 o).1 = 20 + 9) ∧ (okO h20 (hpR h20 o 15) 8 ∧ (okA h20 (hpR h20 (ad (hpR h20 o 15)) 5) 1 v13 ∧ (∀ v25 : Int32, v25 = hpI h20 (ad (hpR h20 (ad (hpR h20 o 15)) 5)) (v13).toNatClampNeg → (Q v25 h20)))))))))))))))))))))))))
set_option maxHeartbeats 4000000 in
set_option maxRecDepth 100000 in
theorem t_X11_joined_J22 {p : Program} {l : Launch} {e : Env} {s : State} {m : MethodId} {args : Array Value} {below : List Frame} {meth : Method} {c : Code} {G : GG} {base : Nat} {A : Nat → Nat} {g0 : Hp} (hM : Mx G base p s m args meth c cX11_joined 5 (some .int) RX11 "joined") (o : Nat) (x2 : Int32) (r3 : Option Nat) (Q : Int32 → Hp → Prop) (h : Hp) (H : Heap) (locs : List Loc) (ls : Array Slot) : Cx2 G base A g0 A h s.heap H locs → lo_has ls 5 [(0, .ref (A o)), (2, .int x2), (3, va_rf (Option.map A r3))] → wp_X11_joined_J22 o x2 r3 Q h → W p l e rm_X11_joined s m args below meth c H locs 0 0 (MQ below (va_Qi Q (PU2 G base A g0 A) (fun q => base ≤ q)) args s 0 0 (fun q => base ≤ q)) (F0 m 22 ls []) := by
  intro hC hl hw
  unfold wp_X11_joined_J22 at hw
  obtain ⟨hx, hb, hr, hml, hown, hts, hg, hs, hlk, hnm⟩ := id hM
  refine lv_aload_n hx hb dX11_joined_22 rfl (lo_at hl 0 rfl) ?_
  refine lo_aload_n (r := Option.map A r3) hx hb dX11_joined_23 rfl (lo_at hl 2 rfl) ?_
  obtain ⟨k6, hw⟩ := hw
  refine res2_i hC (run2_V (As := [va_rf (Option.map A r3)]) (rest := []) hM hC hl.1.1 kv_RX11_288 (c_X11_weakest l G base A o r3 h _ hw) (hc_9) k6 rfl rfl rfl ⟨Nat.le_of_ble_eq_true rfl, Nat.le_of_ble_eq_true rfl⟩ (Nat.le_of_ble_eq_true rfl) ⟨Nat.le_of_ble_eq_true rfl, Nat.le_of_ble_eq_true rfl⟩ dX11_joined_24) (fun z8 h7 H locs hw hC => ?_)
  refine lo_istore (lv' := [(4, .int z8), (0, .ref (A o)), (2, .int x2), (3, va_rf (Option.map A r3))]) hx hb dX11_joined_27 hl (by decide) rfl (fun ls hl => ?_)
  refine lv_iload hx hb dX11_joined_29 (lo_at hl 0 rfl) ?_
  refine lv_iconst (v := -1) hx hb dX11_joined_31 (by decide) ?_
  refine lv_icmp_ne (tgt := 39) hx hb dX11_joined_32 (by decide) (fun c9 => ?_) (fun c9 => ?_)
  ·
    replace hw := (if_neg c9).mp hw
    refine lv_iload_n hx hb dX11_joined_39 rfl (lo_at hl 2 rfl) ?_
    refine lv_iconst (v := 1) hx hb dX11_joined_40 (by decide) ?_
    refine lv_icmp_ne (tgt := 52) hx hb dX11_joined_41 (by decide) (fun c10 => ?_) (fun c10 => ?_)
    ·
      replace hw := (if_neg c10).mp hw
      refine lv_iload hx hb dX11_joined_52 (lo_at hl 0 rfl) ?_
      refine lv_bipush (v := 64) hx hb dX11_joined_54 (by decide) ?_
      refine lv_idiv hx hb dX11_joined_56 (by decide) ?_
      exact ret2_i hM hC hw dX11_joined_57
    ·
      replace hw := (if_pos c10).mp hw
      refine lv_iload hx hb dX11_joined_44 (lo_at hl 0 rfl) ?_
      refine lv_bipush (v := 64) hx hb dX11_joined_46 (by decide) ?_
      refine lv_irem hx hb dX11_joined_48 (by decide) ?_
      refine lv_goto (tgt := 57) hx hb dX11_joined_49 (by decide) ?_
      exact ret2_i hM hC hw dX11_joined_57
  ·
    replace hw := (if_pos c9).mp hw
    refine lv_iconst (v := -1) hx hb dX11_joined_35 (by decide) ?_
    refine lv_goto (tgt := 57) hx hb dX11_joined_36 (by decide) ?_
    exact ret2_i hM hC hw dX11_joined_57
set_option maxHeartbeats 4000000 in
set_option maxRecDepth 100000 in
theorem c_X11_joined (l : Launch) (G : GG) (base : Nat) (A : Nat → Nat) (o : Nat) (x1 : Int32) (x2 : Int32) (h : Hp) (Q : Int32 → Hp → Prop) (hw : wp_X11_joined o x1 x2 h Q) : Met l yX11_joined (ww yX11_joined cX11_joined 5 (some .int)) rm_X11_joined (va_Pc [.ref (A o), .int x1, .int x2] (PU2 G base A h A h)) (va_Qi Q (PU2 G base A h A) (fun q => base ≤ q)) 0 0 (fun q => base ≤ q) := by
  refine met2_of (own := RX11) (nm := "joined") (by decide) rfl rfl (List.forall_mem_cons.mpr ⟨rfl, (List.forall_mem_cons.mpr ⟨rfl, (List.forall_mem_cons.mpr ⟨rfl, (fun _ h => absurd h List.not_mem_nil)⟩)⟩)⟩) (Nat.le_of_ble_eq_true rfl) rfl ?_
  intro p e s m args below meth c H locs ls hM hC hl
  obtain ⟨hx, hb, hr, hml, hown, hts, hg, hs, hlk, hnm⟩ := id hM
  unfold wp_X11_joined at hw
  refine lv_aload_n hx hb dX11_joined_0 rfl (lo_at hl 0 rfl) ?_
  refine lv_iload_n hx hb dX11_joined_1 rfl (lo_at hl 1 rfl) ?_
  obtain ⟨k1, hw⟩ := hw
  refine res2_q hC (run2_V (As := [.int x1]) (rest := []) hM hC hl.1.1 kv_RX11_144 (c_X11_lookerAt l G base A o x1 h _ hw) (hc_9) k1 rfl rfl rfl ⟨Nat.le_of_ble_eq_true rfl, Nat.le_of_ble_eq_true rfl⟩ (Nat.le_of_ble_eq_true rfl) ⟨Nat.le_of_ble_eq_true rfl, Nat.le_of_ble_eq_true rfl⟩ dX11_joined_2) (fun z3 h2 H locs hw hC => ?_)
  refine lo_astore_n (r := Option.map A z3) (lv' := [(3, va_rf (Option.map A z3)), (0, .ref (A o)), (1, .int x1), (2, .int x2)]) hx hb dX11_joined_5 rfl hl (by decide) rfl (fun ls hl => ?_)
  refine lo_aload_n (r := Option.map A z3) hx hb dX11_joined_6 rfl (lo_at hl 0 rfl) ?_
  refine s_ifnonnull (r := z3) (A := A) (tgt := 12) hx hb dX11_joined_7 (by decide) (fun c4 => ?_) (fun c4 => ?_)
  ·
    replace hw := (if_neg c4).mp hw
    refine lv_iload_n hx hb dX11_joined_12 rfl (lo_at hl 3 rfl) ?_
    refine lv_iconst (v := 1) hx hb dX11_joined_13 (by decide) ?_
    refine lv_icmp_eq (tgt := 22) hx hb dX11_joined_14 (by decide) (fun c5 => ?_) (fun c5 => ?_)
    ·
      replace hw := (if_pos c5).mp hw
      exact t_X11_joined_J22 hM o x2 z3 Q  h2 H locs ls hC (lo_sub hl [1, 3, 0] rfl) hw
    ·
      replace hw := (if_neg c5).mp hw
      refine lv_iload_n hx hb dX11_joined_17 rfl (lo_at hl 3 rfl) ?_
      refine lv_iconst (v := 2) hx hb dX11_joined_18 (by decide) ?_
      refine lv_icmp_ne (tgt := 58) hx hb dX11_joined_19 (by decide) (fun c11 => ?_) (fun c11 => ?_)
      ·
        replace hw := (if_neg c11).mp hw
        refine lv_iload_n hx hb dX11_joined_58 rfl (lo_at hl 3 rfl) ?_
        refine lv_if_ne (tgt := 72) hx hb dX11_joined_59 (by decide) (fun c12 => ?_) (fun c12 => ?_)
        ·
          replace hw := (if_neg c12).mp hw
          refine lv_iload_n hx hb dX11_joined_72 rfl (lo_at hl 3 rfl) ?_
          refine lv_bipush (v := 10) hx hb dX11_joined_73 (by decide) ?_
          refine lv_isub hx hb dX11_joined_75 ?_
          refine lv_topi (fun v13 ev13 => ?_)
          replace hw := hw v13 ev13
          refine lo_istore (lv' := [(4, .int v13), (3, va_rf (Option.map A z3)), (0, .ref (A o)), (1, .int x1), (2, .int x2)]) hx hb dX11_joined_76 hl (by decide) rfl (fun ls hl => ?_)
          refine lv_iload hx hb dX11_joined_78 (lo_at hl 0 rfl) ?_
          refine lv_if_lt (tgt := 102) hx hb dX11_joined_80 (by decide) (fun c14 => ?_) (fun c14 => ?_)
          ·
            replace hw := (if_pos c14).mp hw
            refine lv_iconst (v := -1) hx hb dX11_joined_102 (by decide) ?_
            exact ret2_i hM hC hw dX11_joined_103
          ·
            replace hw := (if_neg c14).mp hw
            refine lv_iload hx hb dX11_joined_83 (lo_at hl 0 rfl) ?_
            refine lv_bipush (v := 8) hx hb dX11_joined_85 (by decide) ?_
            refine lv_icmp_ge (tgt := 102) hx hb dX11_joined_87 (by decide) (fun c15 => ?_) (fun c15 => ?_)
            ·
              replace hw := (if_pos c15).mp hw
              refine lv_iconst (v := -1) hx hb dX11_joined_102 (by decide) ?_
              exact ret2_i hM hC hw dX11_joined_103
            ·
              replace hw := (if_neg c15).mp hw
              refine lv_aload_n hx hb dX11_joined_90 rfl (lo_at hl 2 rfl) ?_
              obtain ⟨k16, hw⟩ := hw
              refine s_getR hx hb hts hown hg hC fb_9_11 k16 mk_f_RX11_39 dX11_joined_91 ?_
              refine lv_iload hx hb dX11_joined_94 (lo_at hl 0 rfl) ?_
              obtain ⟨k17, hw⟩ := hw
              refine sf_2 k17.1 ?_
              refine s_lald hx hb hg hC k17.2.1 k17.2.2 dX11_joined_96 ?_
              refine lv_topl (fun v18 ev18 => ?_)
              replace hw := hw v18 ev18
              refine lv_lconst (v := 0) hx hb dX11_joined_97 (by decide) ?_
              refine W.lcmp hx hb dX11_joined_98 ?_
              refine lv_if_ne (tgt := 104) hx hb dX11_joined_99 (by decide) (fun c19 => ?_) (fun c19 => ?_)
              ·
                replace hw := (if_neg c19).mp hw
                refine lv_aload_n hx hb dX11_joined_104 rfl (lo_at hl 2 rfl) ?_
                refine lo_aload_n (r := Option.map A z3) hx hb dX11_joined_105 rfl (lo_at hl 1 rfl) ?_
                refine res2_v hC (run2_V (As := [va_rf (Option.map A z3)]) (rest := []) hM hC hl.1.1 kv_RX11_292 (c_X11_makeGroups l G base A o z3 h2 _ hw) (hc_9) k16 rfl rfl rfl ⟨Nat.le_of_ble_eq_true rfl, Nat.le_of_ble_eq_true rfl⟩ (Nat.le_of_ble_eq_true rfl) ⟨Nat.le_of_ble_eq_true rfl, Nat.le_of_ble_eq_true rfl⟩ dX11_joined_106) (fun h20 H locs hw hC => ?_)
                refine lv_aload_n hx hb dX11_joined_109 rfl (lo_at hl 2 rfl) ?_
                obtain ⟨k22, hw⟩ := hw
                refine s_getR hx hb hts hown hg hC fb_9_15 k22 mk_f_RX11_69 dX11_joined_110 ?_
                obtain ⟨k23, hw⟩ := hw
                refine sf_1 k23.1 ?_
                refine s_getR hx hb hts hown hg hC fb_8_5 k23.2 mk_f_RX11_299 dX11_joined_113 ?_
                refine lv_iload hx hb dX11_joined_116 (lo_at hl 0 rfl) ?_
                obtain ⟨k24, hw⟩ := hw
                refine sf_2 k24.1 ?_
                refine s_iald hx hb hg hC k24.2.1 k24.2.2 dX11_joined_118 ?_
                refine lv_topi (fun v25 ev25 => ?_)
                replace hw := hw v25 ev25
                exact ret2_i hM hC hw dX11_joined_119
              ·
                replace hw := (if_pos c19).mp hw
                refine lv_iconst (v := -1) hx hb dX11_joined_102 (by decide) ?_
                exact ret2_i hM hC hw dX11_joined_103
        ·
          replace hw := (if_pos c12).mp hw
          refine lv_aload_n hx hb dX11_joined_62 rfl (lo_at hl 1 rfl) ?_
          refine lo_aload_n (r := Option.map A z3) hx hb dX11_joined_63 rfl (lo_at hl 0 rfl) ?_
          obtain ⟨k26, hw⟩ := hw
          refine res2_v hC (run2_V (As := [va_rf (Option.map A z3)]) (rest := []) hM hC hl.1.1 kv_RX11_292 (c_X11_makeGroups l G base A o z3 h2 _ hw) (hc_9) k26 rfl rfl rfl ⟨Nat.le_of_ble_eq_true rfl, Nat.le_of_ble_eq_true rfl⟩ (Nat.le_of_ble_eq_true rfl) ⟨Nat.le_of_ble_eq_true rfl, Nat.le_of_ble_eq_true rfl⟩ dX11_joined_64) (fun h27 H locs hw hC => ?_)
          refine lv_aload_n hx hb dX11_joined_67 rfl (lo_at hl 1 rfl) ?_
          obtain ⟨k29, hw⟩ := hw
          refine res2_i hC (run2_V (As := []) (rest := []) hM hC hl.1.1 kv_RX11_296 (c_X11_groupCount l G base A o h27 _ hw) (hc_9) k29 rfl rfl rfl ⟨Nat.le_of_ble_eq_true rfl, Nat.le_of_ble_eq_true rfl⟩ (Nat.le_of_ble_eq_true rfl) ⟨Nat.le_of_ble_eq_true rfl, Nat.le_of_ble_eq_true rfl⟩ dX11_joined_68) (fun z31 h30 H locs hw hC => ?_)
          exact ret2_i hM hC hw dX11_joined_71
      ·
        replace hw := (if_pos c11).mp hw
        exact t_X11_joined_J22 hM o x2 z3 Q  h2 H locs ls hC (lo_sub hl [1, 3, 0] rfl) hw
  ·
    replace hw := (if_pos c4).mp hw
    refine lv_iconst (v := -1) hx hb dX11_joined_10 (by decide) ?_
    exact ret2_i hM hC hw dX11_joined_11
abbrev rm_X8_scan : Room := { frames := 7, cells := 0, slots := 0, locals := 156 }
set_option maxRecDepth 100000 in
def wp_X8_scan_L7 (o : Nat) (K63 : Hp → Prop) (Q : Hp → Prop) : Nat → Int32 → Hp → Prop
  | 0, _, _ => False
  | n + 1, x1, h => ((hpK h o).1 = 20 + 6) ∧ ((if (hpI h o 1) ≤ x1 then (K63 h) else (wp_X8_isStart o x1 h (fun (z6 : Int32) (h5 : Hp) => (if z6 = 0 then (∀ v8 : Int32, v8 = x1 + (1 : Int32) → (wp_X8_scan_L7 o K63 Q n v8 h5)) else (((hpK h5 o).1 = 20 + 6) ∧ (wp_X8_kindAt o x1 h5 (fun (z11 : Int32) (h10 : Hp) => okA h10 (hpR h5 o 2) 1 (hpI h5 o 4) ∧ (∀ h13 : Hp, h13 = stI h10 (ad (hpR h5 o 2)) (hpI h5 o 4).toNatClampNeg z11 → (((hpK h13 o).1 = 20 + 6) ∧ (okA h13 (hpR h13 o 3) 1 (hpI h13 o 4) ∧ (∀ h16 : Hp, h16 = stI h13 (ad (hpR h13 o 3)) (hpI h13 o 4).toNatClampNeg x1 → (((hpK h16 o).1 = 20 + 6) ∧ (∀ h18 : Hp, h18 = stI h16 o 4 ((hpI h16 o 4) + (1 : Int32)) → (∀ v19 : Int32, v19 = x1 + (1 : Int32) → (wp_X8_scan_L7 o K63 Q n v19 h18))))))))))))))))
set_option maxRecDepth 100000 in
def wp_X8_scan (o : Nat) (h : Hp) (Q : Hp → Prop) : Prop := ((hpK h o).1 = 20 + 6) ∧ (∀ h2 : Hp, h2 = stI h o 4 (0 : Int32) → (wp_X8_scan_L7 o (fun (h20 : Hp) => ((hpK h20 o).1 = 20 + 6) ∧ (okA h20 (hpR h20 o 2) 1 (hpI h20 o 4) ∧ (∀ h23 : Hp, h23 = stI h20 (ad (hpR h20 o 2)) (hpI h20 o 4).toNatClampNeg (0 : Int32) → (((hpK h23 o).1 = 20 + 6) ∧ (okA h23 (hpR h23 o 3) 1 (hpI h23 o 4) ∧ (∀ h26 : Hp, h26 = stI h23 (ad (hpR h23 o 3)) (hpI h23 o 4).toNatClampNeg (hpI h23 o 1) → (Q h26))))))) Q fuel (0 : Int32) h2))
set_option maxHeartbeats 4000000 in
set_option maxRecDepth 100000 in
theorem t_X8_scan_L7 {p : Program} {l : Launch} {e : Env} {s : State} {m : MethodId} {args : Array Value} {below : List Frame} {meth : Method} {c : Code} {G : GG} {base : Nat} {A : Nat → Nat} {g0 : Hp} (hM : Mx G base p s m args meth c cX8_scan 2 none RX8 "scan") (o : Nat) (K63 : Hp → Prop) (Q : Hp → Prop) (hK63 : ∀ (h : Hp) (H : Heap) (locs : List Loc) (ls : Array Slot), Cx2 G base A g0 A h s.heap H locs → lo_has ls 2 [(0, .ref (A o))] → K63 h → W p l e rm_X8_scan s m args below meth c H locs 0 0 (MQ below (va_Qv Q (PU2 G base A g0 A) (fun q => base ≤ q)) args s 0 0 (fun q => base ≤ q)) (F0 m 63 ls [])) : ∀ (n : Nat) (x1 : Int32) (h : Hp) (H : Heap) (locs : List Loc) (ls : Array Slot), Cx2 G base A g0 A h s.heap H locs → lo_has ls 2 [(0, .ref (A o)), (1, .int x1)] → wp_X8_scan_L7 o K63 Q n x1 h → W p l e rm_X8_scan s m args below meth c H locs 0 0 (MQ below (va_Qv Q (PU2 G base A g0 A) (fun q => base ≤ q)) args s 0 0 (fun q => base ≤ q)) (F0 m 7 ls []) := by
  intro n
  induction n with
  | zero =>
    intro x1 h H locs ls hC hl hw
    rw [wp_X8_scan_L7] at hw
    exact hw.elim
  | succ n ih =>
    intro x1 h H locs ls hC hl hw
    rw [wp_X8_scan_L7] at hw
    obtain ⟨hx, hb, hr, hml, hown, hts, hg, hs, hlk, hnm⟩ := id hM
    refine lv_iload_n hx hb dX8_scan_7 rfl (lo_at hl 1 rfl) ?_
    refine lv_aload_n hx hb dX8_scan_8 rfl (lo_at hl 0 rfl) ?_
    obtain ⟨k3, hw⟩ := hw
    refine s_getI hx hb hts hown hg hC fb_6_1 k3 mk_f_RX8_21 dX8_scan_9 ?_
    refine lv_icmp_ge (tgt := 63) hx hb dX8_scan_12 (by decide) (fun c4 => ?_) (fun c4 => ?_)
    ·
      replace hw := (if_pos c4).mp hw
      exact hK63  h H locs ls hC (lo_sub hl [0] rfl) hw
    ·
      replace hw := (if_neg c4).mp hw
      refine lv_aload_n hx hb dX8_scan_15 rfl (lo_at hl 0 rfl) ?_
      refine lv_iload_n hx hb dX8_scan_16 rfl (lo_at hl 1 rfl) ?_
      refine res2_i hC (run2_V (As := [.int x1]) (rest := []) hM hC hl.1.1 kv_RX8_28 (c_X8_isStart l G base A o x1 h _ hw) (hc_6) k3 rfl rfl rfl ⟨Nat.le_of_ble_eq_true rfl, Nat.le_of_ble_eq_true rfl⟩ (Nat.le_of_ble_eq_true rfl) ⟨Nat.le_of_ble_eq_true rfl, Nat.le_of_ble_eq_true rfl⟩ dX8_scan_17) (fun z6 h5 H locs hw hC => ?_)
      refine lv_if_eq (tgt := 57) hx hb dX8_scan_20 (by decide) (fun c7 => ?_) (fun c7 => ?_)
      ·
        replace hw := (if_pos c7).mp hw
        obtain ⟨v8, ev8⟩ : ∃ y : Int32, y = x1 + (1 : Int32) := ⟨_, rfl⟩
        replace hw := hw v8 ev8
        refine lo_iinc (v := v8) (lv' := [(1, .int v8), (0, .ref (A o))]) hx hb dX8_scan_57 hl (k := 1) rfl (by rw [ev8]; rfl) (by decide) rfl (fun ls hl => ?_)
        refine lv_goto (tgt := 7) hx hb dX8_scan_60 (by decide) ?_
        exact ih v8 h5 H locs ls hC (lo_sub hl [1, 0] rfl) hw
      ·
        replace hw := (if_neg c7).mp hw
        refine lv_aload_n hx hb dX8_scan_23 rfl (lo_at hl 0 rfl) ?_
        obtain ⟨k9, hw⟩ := hw
        refine s_getR hx hb hts hown hg hC fb_6_2 k9 mk_f_RX8_15 dX8_scan_24 ?_
        refine lv_aload_n hx hb dX8_scan_27 rfl (lo_at hl 0 rfl) ?_
        refine s_getI hx hb hts hown hg hC fb_6_4 k9 mk_f_RX8_25 dX8_scan_28 ?_
        refine lv_aload_n hx hb dX8_scan_31 rfl (lo_at hl 0 rfl) ?_
        refine lv_iload_n hx hb dX8_scan_32 rfl (lo_at hl 1 rfl) ?_
        refine res2_i hC (run2_V (As := [.int x1]) (rest := [.int (hpI h5 o 4), va_rf (Option.map A (hpR h5 o 2))]) hM hC hl.1.1 kv_RX8_32 (c_X8_kindAt l G base A o x1 h5 _ hw) (hc_6) k9 rfl rfl rfl ⟨Nat.le_of_ble_eq_true rfl, Nat.le_of_ble_eq_true rfl⟩ (rest_le (List.forall_mem_cons.mpr ⟨rfl, (List.forall_mem_cons.mpr ⟨va_rf_cat _, (fun _ h => absurd h List.not_mem_nil)⟩)⟩) (Nat.le_of_ble_eq_true rfl)) ⟨Nat.le_of_ble_eq_true rfl, Nat.le_of_ble_eq_true rfl⟩ dX8_scan_33) (fun z11 h10 H locs hw hC => ?_)
        obtain ⟨k12, hw⟩ := hw
        refine sf_3 k12.1 ?_
        refine s_iast hx hb hg hC k12.2.1 k12.2.2 dX8_scan_36 (fun h13 H locs eh13 hC => ?_)
        replace hw := hw h13 eh13
        refine lv_aload_n hx hb dX8_scan_37 rfl (lo_at hl 0 rfl) ?_
        obtain ⟨k14, hw⟩ := hw
        refine s_getR hx hb hts hown hg hC fb_6_3 k14 mk_f_RX8_18 dX8_scan_38 ?_
        refine lv_aload_n hx hb dX8_scan_41 rfl (lo_at hl 0 rfl) ?_
        refine s_getI hx hb hts hown hg hC fb_6_4 k14 mk_f_RX8_25 dX8_scan_42 ?_
        refine lv_iload_n hx hb dX8_scan_45 rfl (lo_at hl 1 rfl) ?_
        obtain ⟨k15, hw⟩ := hw
        refine sf_3 k15.1 ?_
        refine s_iast hx hb hg hC k15.2.1 k15.2.2 dX8_scan_46 (fun h16 H locs eh16 hC => ?_)
        replace hw := hw h16 eh16
        refine lv_aload_n hx hb dX8_scan_47 rfl (lo_at hl 0 rfl) ?_
        refine lv_dup hx hb dX8_scan_48 rfl ?_
        obtain ⟨k17, hw⟩ := hw
        refine s_getI hx hb hts hown hg hC fb_6_4 k17 mk_f_RX8_25 dX8_scan_49 ?_
        refine lv_iconst (v := 1) hx hb dX8_scan_52 (by decide) ?_
        refine lv_iadd hx hb dX8_scan_53 ?_
        refine s_putI hx hb hts hown hg hC fb_6_4 k17 rfl rfl mk_f_RX8_25 dX8_scan_54 (fun h18 H locs eh18 hC => ?_)
        replace hw := hw h18 eh18
        obtain ⟨v19, ev19⟩ : ∃ y : Int32, y = x1 + (1 : Int32) := ⟨_, rfl⟩
        replace hw := hw v19 ev19
        refine lo_iinc (v := v19) (lv' := [(1, .int v19), (0, .ref (A o))]) hx hb dX8_scan_57 hl (k := 1) rfl (by rw [ev19]; rfl) (by decide) rfl (fun ls hl => ?_)
        refine lv_goto (tgt := 7) hx hb dX8_scan_60 (by decide) ?_
        exact ih v19 h18 H locs ls hC (lo_sub hl [1, 0] rfl) hw
set_option maxHeartbeats 4000000 in
set_option maxRecDepth 100000 in
theorem c_X8_scan (l : Launch) (G : GG) (base : Nat) (A : Nat → Nat) (o : Nat) (h : Hp) (Q : Hp → Prop) (hw : wp_X8_scan o h Q) : Met l yX8_scan (ww yX8_scan cX8_scan 2 none) rm_X8_scan (va_Pc [.ref (A o)] (PU2 G base A h A h)) (va_Qv Q (PU2 G base A h A) (fun q => base ≤ q)) 0 0 (fun q => base ≤ q) := by
  refine met2_of (own := RX8) (nm := "scan") (by decide) rfl rfl (List.forall_mem_cons.mpr ⟨rfl, (fun _ h => absurd h List.not_mem_nil)⟩) (Nat.le_of_ble_eq_true rfl) rfl ?_
  intro p e s m args below meth c H locs ls hM hC hl
  obtain ⟨hx, hb, hr, hml, hown, hts, hg, hs, hlk, hnm⟩ := id hM
  unfold wp_X8_scan at hw
  refine lv_aload_n hx hb dX8_scan_0 rfl (lo_at hl 0 rfl) ?_
  refine lv_iconst (v := 0) hx hb dX8_scan_1 (by decide) ?_
  obtain ⟨k1, hw⟩ := hw
  refine s_putI hx hb hts hown hg hC fb_6_4 k1 rfl rfl mk_f_RX8_25 dX8_scan_2 (fun h2 H locs eh2 hC => ?_)
  replace hw := hw h2 eh2
  refine lv_iconst (v := 0) hx hb dX8_scan_5 (by decide) ?_
  refine lo_istore_n (lv' := [(1, .int ((0 : Int32))), (0, .ref (A o))]) hx hb dX8_scan_6 rfl hl (by decide) rfl (fun ls hl => ?_)
  refine t_X8_scan_L7 hM o _ Q ?_ fuel (0 : Int32) h2 H locs ls hC (lo_sub hl [1, 0] rfl) hw
  intro  h20 H locs ls hC hl hw
  refine lv_aload_n hx hb dX8_scan_63 rfl (lo_at hl 0 rfl) ?_
  obtain ⟨k21, hw⟩ := hw
  refine s_getR hx hb hts hown hg hC fb_6_2 k21 mk_f_RX8_15 dX8_scan_64 ?_
  refine lv_aload_n hx hb dX8_scan_67 rfl (lo_at hl 0 rfl) ?_
  refine s_getI hx hb hts hown hg hC fb_6_4 k21 mk_f_RX8_25 dX8_scan_68 ?_
  refine lv_iconst (v := 0) hx hb dX8_scan_71 (by decide) ?_
  obtain ⟨k22, hw⟩ := hw
  refine sf_3 k22.1 ?_
  refine s_iast hx hb hg hC k22.2.1 k22.2.2 dX8_scan_72 (fun h23 H locs eh23 hC => ?_)
  replace hw := hw h23 eh23
  refine lv_aload_n hx hb dX8_scan_73 rfl (lo_at hl 0 rfl) ?_
  obtain ⟨k24, hw⟩ := hw
  refine s_getR hx hb hts hown hg hC fb_6_3 k24 mk_f_RX8_18 dX8_scan_74 ?_
  refine lv_aload_n hx hb dX8_scan_77 rfl (lo_at hl 0 rfl) ?_
  refine s_getI hx hb hts hown hg hC fb_6_4 k24 mk_f_RX8_25 dX8_scan_78 ?_
  refine lv_aload_n hx hb dX8_scan_81 rfl (lo_at hl 0 rfl) ?_
  refine s_getI hx hb hts hown hg hC fb_6_1 k24 mk_f_RX8_21 dX8_scan_82 ?_
  obtain ⟨k25, hw⟩ := hw
  refine sf_3 k25.1 ?_
  refine s_iast hx hb hg hC k25.2.1 k25.2.2 dX8_scan_85 (fun h26 H locs eh26 hC => ?_)
  replace hw := hw h26 eh26
  exact ret2_v hM hC hw dX8_scan_86
abbrev rm_X5_read : Room := { frames := 166, cells := 0, slots := 0, locals := 3523 }
set_option maxRecDepth 100000 in
def wp_X5_read_L36 (o : Nat) (K66 : Hp → Prop) (Q : Int32 → Hp → Prop) : Nat → Int32 → Hp → Prop
  | 0, _, _ => False
  | n + 1, x2, h => (if (16 : Int32) < x2 then (K66 h) else (((hpK h o).1 = 20 + 4) ∧ ((if (hpI h o 0) = 0 then (wp_X5_kind o h (fun (z22 : Int32) (h21 : Hp) => (if z22 = 0 then (K66 h21) else (((hpK h21 o).1 = 20 + 4) ∧ (wp_X5_readLine o h21 (fun (h25 : Hp) => ∀ v27 : Int32, v27 = x2 + (1 : Int32) → (wp_X5_read_L36 o K66 Q n v27 h25))))))) else (K66 h)))))
set_option maxRecDepth 100000 in
def wp_X5_read (o : Nat) (x1 : Int32) (h : Hp) (Q : Int32 → Hp → Prop) : Prop := ((hpK h o).1 = 20 + 4) ∧ (okZ x1 ∧ (∀ h2 : Hp, h2 = stI h o 4 x1 → (((hpK h2 o).1 = 20 + 4) ∧ (∀ h5 : Hp, h5 = stI h2 o 5 (0 : Int32) → (((hpK h5 o).1 = 20 + 4) ∧ (∀ h7 : Hp, h7 = stI h5 o 0 (0 : Int32) → (((hpK h7 o).1 = 20 + 4) ∧ (∀ h9 : Hp, h9 = stI h7 o 1 (-1 : Int32) → (((hpK h9 o).1 = 20 + 4) ∧ (okO h9 (hpR h9 o 2) 6 ∧ (wp_X8_scan (ad (hpR h9 o 2)) h9 (fun (h12 : Hp) => ((hpK h12 o).1 = 20 + 4) ∧ (okO h12 (hpR h12 o 3) 5 ∧ (wp_X7_clear (ad (hpR h12 o 3)) h12 (fun (h16 : Hp) => wp_X5_read_L36 o (fun (h28 : Hp) => ((hpK h28 o).1 = 20 + 4) ∧ (okO h28 (hpR h28 o 2) 6 ∧ (∀ h31 : Hp, h31 = stI h28 (ad (hpR h28 o 2)) 1 (0 : Int32) → (((hpK h31 o).1 = 20 + 4) ∧ ((if (hpI h31 o 0) = 0 then (Q (1 : Int32) h31) else (Q (0 : Int32) h31))))))) Q fuel (0 : Int32) h16)))))))))))))))
set_option maxHeartbeats 4000000 in
set_option maxRecDepth 100000 in
theorem t_X5_read_L36 {p : Program} {l : Launch} {e : Env} {s : State} {m : MethodId} {args : Array Value} {below : List Frame} {meth : Method} {c : Code} {G : GG} {base : Nat} {A : Nat → Nat} {g0 : Hp} (hM : Mx G base p s m args meth c cX5_read 3 (some .boolean) RX5 "read") (o : Nat) (K66 : Hp → Prop) (Q : Int32 → Hp → Prop) (hK66 : ∀ (h : Hp) (H : Heap) (locs : List Loc) (ls : Array Slot), Cx2 G base A g0 A h s.heap H locs → lo_has ls 3 [(0, .ref (A o))] → K66 h → W p l e rm_X5_read s m args below meth c H locs 0 0 (MQ below (va_Qi Q (PU2 G base A g0 A) (fun q => base ≤ q)) args s 0 0 (fun q => base ≤ q)) (F0 m 66 ls [])) : ∀ (n : Nat) (x2 : Int32) (h : Hp) (H : Heap) (locs : List Loc) (ls : Array Slot), Cx2 G base A g0 A h s.heap H locs → lo_has ls 3 [(0, .ref (A o)), (2, .int x2)] → wp_X5_read_L36 o K66 Q n x2 h → W p l e rm_X5_read s m args below meth c H locs 0 0 (MQ below (va_Qi Q (PU2 G base A g0 A) (fun q => base ≤ q)) args s 0 0 (fun q => base ≤ q)) (F0 m 36 ls []) := by
  intro n
  induction n with
  | zero =>
    intro x2 h H locs ls hC hl hw
    rw [wp_X5_read_L36] at hw
    exact hw.elim
  | succ n ih =>
    intro x2 h H locs ls hC hl hw
    rw [wp_X5_read_L36] at hw
    obtain ⟨hx, hb, hr, hml, hown, hts, hg, hs, hlk, hnm⟩ := id hM
    refine lv_iload_n hx hb dX5_read_36 rfl (lo_at hl 1 rfl) ?_
    refine lv_bipush (v := 16) hx hb dX5_read_37 (by decide) ?_
    refine lv_icmp_gt (tgt := 66) hx hb dX5_read_39 (by decide) (fun c18 => ?_) (fun c18 => ?_)
    ·
      replace hw := (if_pos c18).mp hw
      exact hK66  h H locs ls hC (lo_sub hl [0] rfl) hw
    ·
      replace hw := (if_neg c18).mp hw
      refine lv_aload_n hx hb dX5_read_42 rfl (lo_at hl 0 rfl) ?_
      obtain ⟨k19, hw⟩ := hw
      refine s_getI hx hb hts hown hg hC fb_4_0 k19 mk_f_RX5_33 dX5_read_43 ?_
      refine lv_if_ne (tgt := 66) hx hb dX5_read_46 (by decide) (fun c20 => ?_) (fun c20 => ?_)
      ·
        replace hw := (if_neg c20).mp hw
        exact hK66  h H locs ls hC (lo_sub hl [0] rfl) hw
      ·
        replace hw := (if_pos c20).mp hw
        refine lv_aload_n hx hb dX5_read_49 rfl (lo_at hl 0 rfl) ?_
        refine res2_i hC (run2_V (As := []) (rest := []) hM hC hl.1.1 kv_RX5_44 (c_X5_kind l G base A o h _ hw) (hc_4) k19 rfl rfl rfl ⟨Nat.le_of_ble_eq_true rfl, Nat.le_of_ble_eq_true rfl⟩ (Nat.le_of_ble_eq_true rfl) ⟨Nat.le_of_ble_eq_true rfl, Nat.le_of_ble_eq_true rfl⟩ dX5_read_50) (fun z22 h21 H locs hw hC => ?_)
        refine lv_if_eq (tgt := 66) hx hb dX5_read_53 (by decide) (fun c23 => ?_) (fun c23 => ?_)
        ·
          replace hw := (if_pos c23).mp hw
          exact hK66  h21 H locs ls hC (lo_sub hl [0] rfl) hw
        ·
          replace hw := (if_neg c23).mp hw
          refine lv_aload_n hx hb dX5_read_56 rfl (lo_at hl 0 rfl) ?_
          obtain ⟨k24, hw⟩ := hw
          refine res2_v hC (run2_V (As := []) (rest := []) hM hC hl.1.1 kv_RX5_48 (c_X5_readLine l G base A o h21 _ hw) (hc_4) k24 rfl rfl rfl ⟨Nat.le_of_ble_eq_true rfl, Nat.le_of_ble_eq_true rfl⟩ (Nat.le_of_ble_eq_true rfl) ⟨Nat.le_of_ble_eq_true rfl, Nat.le_of_ble_eq_true rfl⟩ dX5_read_57) (fun h25 H locs hw hC => ?_)
          obtain ⟨v27, ev27⟩ : ∃ y : Int32, y = x2 + (1 : Int32) := ⟨_, rfl⟩
          replace hw := hw v27 ev27
          refine lo_iinc (v := v27) (lv' := [(2, .int v27), (0, .ref (A o))]) hx hb dX5_read_60 hl (k := 1) rfl (by rw [ev27]; rfl) (by decide) rfl (fun ls hl => ?_)
          refine lv_goto (tgt := 36) hx hb dX5_read_63 (by decide) ?_
          exact ih v27 h25 H locs ls hC (lo_sub hl [1, 0] rfl) hw
set_option maxHeartbeats 4000000 in
set_option maxRecDepth 100000 in
theorem c_X5_read (l : Launch) (G : GG) (base : Nat) (A : Nat → Nat) (o : Nat) (x1 : Int32) (h : Hp) (Q : Int32 → Hp → Prop) (hw : wp_X5_read o x1 h Q) : Met l yX5_read (ww yX5_read cX5_read 3 (some .boolean)) rm_X5_read (va_Pc [.ref (A o), .int x1] (PU2 G base A h A h)) (va_Qi Q (PU2 G base A h A) (fun q => base ≤ q)) 0 0 (fun q => base ≤ q) := by
  refine met2_of (own := RX5) (nm := "read") (by decide) rfl rfl (List.forall_mem_cons.mpr ⟨rfl, (List.forall_mem_cons.mpr ⟨rfl, (fun _ h => absurd h List.not_mem_nil)⟩)⟩) (Nat.le_of_ble_eq_true rfl) rfl ?_
  intro p e s m args below meth c H locs ls hM hC hl
  obtain ⟨hx, hb, hr, hml, hown, hts, hg, hs, hlk, hnm⟩ := id hM
  unfold wp_X5_read at hw
  refine lv_aload_n hx hb dX5_read_0 rfl (lo_at hl 0 rfl) ?_
  refine lv_iload_n hx hb dX5_read_1 rfl (lo_at hl 1 rfl) ?_
  obtain ⟨k1, hw⟩ := hw
  obtain ⟨k3, hw⟩ := hw
  refine s_putI hx hb hts hown hg hC fb_4_4 k1 k3.1 k3.2 mk_f_RX5_26 dX5_read_2 (fun h2 H locs eh2 hC => ?_)
  replace hw := hw h2 eh2
  refine lv_aload_n hx hb dX5_read_5 rfl (lo_at hl 0 rfl) ?_
  refine lv_iconst (v := 0) hx hb dX5_read_6 (by decide) ?_
  obtain ⟨k4, hw⟩ := hw
  refine s_putI hx hb hts hown hg hC fb_4_5 k4 rfl rfl mk_f_RX5_30 dX5_read_7 (fun h5 H locs eh5 hC => ?_)
  replace hw := hw h5 eh5
  refine lv_aload_n hx hb dX5_read_10 rfl (lo_at hl 0 rfl) ?_
  refine lv_iconst (v := 0) hx hb dX5_read_11 (by decide) ?_
  obtain ⟨k6, hw⟩ := hw
  refine s_putI hx hb hts hown hg hC fb_4_0 k6 rfl rfl mk_f_RX5_33 dX5_read_12 (fun h7 H locs eh7 hC => ?_)
  replace hw := hw h7 eh7
  refine lv_aload_n hx hb dX5_read_15 rfl (lo_at hl 0 rfl) ?_
  refine lv_iconst (v := -1) hx hb dX5_read_16 (by decide) ?_
  obtain ⟨k8, hw⟩ := hw
  refine s_putI hx hb hts hown hg hC fb_4_1 k8 rfl rfl mk_f_RX5_9 dX5_read_17 (fun h9 H locs eh9 hC => ?_)
  replace hw := hw h9 eh9
  refine lv_aload_n hx hb dX5_read_20 rfl (lo_at hl 0 rfl) ?_
  obtain ⟨k10, hw⟩ := hw
  refine s_getR hx hb hts hown hg hC fb_4_2 k10 mk_f_RX5_22 dX5_read_21 ?_
  obtain ⟨k11, hw⟩ := hw
  refine sf_1 k11.1 ?_
  refine res2_v hC (run2_V (As := []) (rest := []) hM hC hl.1.1 kv_RX5_36 (c_X8_scan l G base A (ad (hpR h9 o 2)) h9 _ hw) (hc_6) k11.2 rfl rfl rfl ⟨Nat.le_of_ble_eq_true rfl, Nat.le_of_ble_eq_true rfl⟩ (Nat.le_of_ble_eq_true rfl) ⟨Nat.le_of_ble_eq_true rfl, Nat.le_of_ble_eq_true rfl⟩ dX5_read_24) (fun h12 H locs hw hC => ?_)
  refine lv_aload_n hx hb dX5_read_27 rfl (lo_at hl 0 rfl) ?_
  obtain ⟨k14, hw⟩ := hw
  refine s_getR hx hb hts hown hg hC fb_4_3 k14 mk_f_RX5_18 dX5_read_28 ?_
  obtain ⟨k15, hw⟩ := hw
  refine sf_1 k15.1 ?_
  refine res2_v hC (run2_V (As := []) (rest := []) hM hC hl.1.1 kv_RX5_41 (c_X7_clear l G base A (ad (hpR h12 o 3)) h12 _ hw) (hc_5) k15.2 rfl rfl rfl ⟨Nat.le_of_ble_eq_true rfl, Nat.le_of_ble_eq_true rfl⟩ (Nat.le_of_ble_eq_true rfl) ⟨Nat.le_of_ble_eq_true rfl, Nat.le_of_ble_eq_true rfl⟩ dX5_read_31) (fun h16 H locs hw hC => ?_)
  refine lv_iconst (v := 0) hx hb dX5_read_34 (by decide) ?_
  refine lo_istore_n (lv' := [(2, .int ((0 : Int32))), (0, .ref (A o)), (1, .int x1)]) hx hb dX5_read_35 rfl hl (by decide) rfl (fun ls hl => ?_)
  refine t_X5_read_L36 hM o _ Q ?_ fuel (0 : Int32) h16 H locs ls hC (lo_sub hl [1, 0] rfl) hw
  intro  h28 H locs ls hC hl hw
  refine lv_aload_n hx hb dX5_read_66 rfl (lo_at hl 0 rfl) ?_
  obtain ⟨k29, hw⟩ := hw
  refine s_getR hx hb hts hown hg hC fb_4_2 k29 mk_f_RX5_22 dX5_read_67 ?_
  refine lv_iconst (v := 0) hx hb dX5_read_70 (by decide) ?_
  obtain ⟨k30, hw⟩ := hw
  refine sf_2 k30.1 ?_
  refine s_putI hx hb hts hown hg hC fb_6_1 k30.2 rfl rfl mk_f_RX5_51 dX5_read_71 (fun h31 H locs eh31 hC => ?_)
  replace hw := hw h31 eh31
  refine lv_aload_n hx hb dX5_read_74 rfl (lo_at hl 0 rfl) ?_
  obtain ⟨k32, hw⟩ := hw
  refine s_getI hx hb hts hown hg hC fb_4_0 k32 mk_f_RX5_33 dX5_read_75 ?_
  refine lv_if_ne (tgt := 85) hx hb dX5_read_78 (by decide) (fun c33 => ?_) (fun c33 => ?_)
  ·
    replace hw := (if_neg c33).mp hw
    refine lv_iconst (v := 0) hx hb dX5_read_85 (by decide) ?_
    exact ret2_t hM hC rfl hw dX5_read_86
  ·
    replace hw := (if_pos c33).mp hw
    refine lv_iconst (v := 1) hx hb dX5_read_81 (by decide) ?_
    refine lv_goto (tgt := 86) hx hb dX5_read_82 (by decide) ?_
    exact ret2_t hM hC rfl hw dX5_read_86
abbrev rm_X11_laws : Room := { frames := 167, cells := 0, slots := 0, locals := 3545 }
set_option maxRecDepth 100000 in
def wp_X11_laws (o : Nat) (h : Hp) (Q : Int32 → Hp → Prop) : Prop := ((hpK h o).1 = 20 + 9) ∧ (okO h (hpR h o 13) 4 ∧ (wp_X5_read (ad (hpR h o 13)) (1 : Int32) h (fun (z4 : Int32) (h3 : Hp) => (if z4 = 0 then (Q (-1 : Int32) h3) else (((hpK h3 o).1 = 20 + 9) ∧ (okO h3 (hpR h3 o 13) 4 ∧ (wp_X5_exchange (ad (hpR h3 o 13)) (hpR h3 o 14) h3 (fun (z9 : Option Nat) (h8 : Hp) => ((hpK h8 o).1 = 20 + 9) ∧ (okP h8 z9 ∧ (∀ h11 : Hp, h11 = stR h8 o 14 z9 → (((hpK h11 o).1 = 20 + 9) ∧ (okO h11 (hpR h11 o 14) 5 ∧ (Q (hpI h11 (ad (hpR h11 o 14)) 7) h11)))))))))))))
set_option maxHeartbeats 4000000 in
set_option maxRecDepth 100000 in
theorem c_X11_laws (l : Launch) (G : GG) (base : Nat) (A : Nat → Nat) (o : Nat) (h : Hp) (Q : Int32 → Hp → Prop) (hw : wp_X11_laws o h Q) : Met l yX11_laws (ww yX11_laws cX11_laws 1 (some .int)) rm_X11_laws (va_Pc [.ref (A o)] (PU2 G base A h A h)) (va_Qi Q (PU2 G base A h A) (fun q => base ≤ q)) 0 0 (fun q => base ≤ q) := by
  refine met2_of (own := RX11) (nm := "laws") (by decide) rfl rfl (List.forall_mem_cons.mpr ⟨rfl, (fun _ h => absurd h List.not_mem_nil)⟩) (Nat.le_of_ble_eq_true rfl) rfl ?_
  intro p e s m args below meth c H locs ls hM hC hl
  obtain ⟨hx, hb, hr, hml, hown, hts, hg, hs, hlk, hnm⟩ := id hM
  unfold wp_X11_laws at hw
  refine lv_aload_n hx hb dX11_laws_0 rfl (lo_at hl 0 rfl) ?_
  obtain ⟨k1, hw⟩ := hw
  refine s_getR hx hb hts hown hg hC fb_9_13 k1 mk_f_RX11_55 dX11_laws_1 ?_
  refine lv_iconst (v := 1) hx hb dX11_laws_4 (by decide) ?_
  obtain ⟨k2, hw⟩ := hw
  refine sf_2 k2.1 ?_
  refine res2_i hC (run2_V (As := [.int ((1 : Int32))]) (rest := []) hM hC hl.1.1 kv_RX11_169 (c_X5_read l G base A (ad (hpR h o 13)) (1 : Int32) h _ hw) (hc_4) k2.2 rfl rfl rfl ⟨Nat.le_of_ble_eq_true rfl, Nat.le_of_ble_eq_true rfl⟩ (Nat.le_of_ble_eq_true rfl) ⟨Nat.le_of_ble_eq_true rfl, Nat.le_of_ble_eq_true rfl⟩ dX11_laws_5) (fun z4 h3 H locs hw hC => ?_)
  refine lv_if_ne (tgt := 13) hx hb dX11_laws_8 (by decide) (fun c5 => ?_) (fun c5 => ?_)
  ·
    replace hw := (if_neg c5).mp hw
    refine lv_aload_n hx hb dX11_laws_13 rfl (lo_at hl 0 rfl) ?_
    refine lv_aload_n hx hb dX11_laws_14 rfl (lo_at hl 0 rfl) ?_
    obtain ⟨k6, hw⟩ := hw
    refine s_getR hx hb hts hown hg hC fb_9_13 k6 mk_f_RX11_55 dX11_laws_15 ?_
    refine lv_aload_n hx hb dX11_laws_18 rfl (lo_at hl 0 rfl) ?_
    refine s_getR hx hb hts hown hg hC fb_9_14 k6 mk_f_RX11_62 dX11_laws_19 ?_
    obtain ⟨k7, hw⟩ := hw
    refine sf_2 k7.1 ?_
    refine res2_q hC (run2_V (As := [va_rf (Option.map A (hpR h3 o 14))]) (rest := [.ref (A o)]) hM hC hl.1.1 kv_RX11_173 (c_X5_exchange l G base A (ad (hpR h3 o 13)) (hpR h3 o 14) h3 _ hw) (hc_4) k7.2 rfl rfl rfl ⟨Nat.le_of_ble_eq_true rfl, Nat.le_of_ble_eq_true rfl⟩ (Nat.le_of_ble_eq_true rfl) ⟨Nat.le_of_ble_eq_true rfl, Nat.le_of_ble_eq_true rfl⟩ dX11_laws_22) (fun z9 h8 H locs hw hC => ?_)
    obtain ⟨k10, hw⟩ := hw
    obtain ⟨k12, hw⟩ := hw
    refine s_putR (v := z9) hx hb hts hown hg hC fb_9_14 k10 k12 (nv_o) (fv_o) mk_f_RX11_62 dX11_laws_25 (fun h11 H locs eh11 hC => ?_)
    replace hw := hw h11 eh11
    refine lv_aload_n hx hb dX11_laws_28 rfl (lo_at hl 0 rfl) ?_
    obtain ⟨k13, hw⟩ := hw
    refine s_getR hx hb hts hown hg hC fb_9_14 k13 mk_f_RX11_62 dX11_laws_29 ?_
    obtain ⟨k14, hw⟩ := hw
    refine sf_1 k14.1 ?_
    refine s_getI hx hb hts hown hg hC fb_5_7 k14.2 mk_f_RX11_177 dX11_laws_32 ?_
    exact ret2_i hM hC hw dX11_laws_35
  ·
    replace hw := (if_pos c5).mp hw
    refine lv_iconst (v := -1) hx hb dX11_laws_11 (by decide) ?_
    exact ret2_i hM hC hw dX11_laws_12
abbrev rm_X11_judgement : Room := { frames := 167, cells := 0, slots := 0, locals := 3545 }
set_option maxRecDepth 100000 in
def wp_X11_judgement (o : Nat) (x1 : Int32) (h : Hp) (Q : Int32 → Hp → Prop) : Prop := ((hpK h o).1 = 20 + 9) ∧ (wp_X11_lookerAt o x1 h (fun (z3 : Option Nat) (h2 : Hp) => (if z3 = none then (((hpK h2 o).1 = 20 + 9) ∧ (okO h2 (hpR h2 o 13) 4 ∧ (wp_X5_pass (ad (hpR h2 o 13)) h2 (fun (h25 : Hp) => Q (-1 : Int32) h25)))) else (((hpK h2 o).1 = 20 + 9) ∧ (okO h2 (hpR h2 o 13) 4 ∧ (wp_X5_read (ad (hpR h2 o 13)) (0 : Int32) h2 (fun (z8 : Int32) (h7 : Hp) => (if z8 = 0 then (Q (-1 : Int32) h7) else (((hpK h7 o).1 = 20 + 9) ∧ (okO h7 z3 2 ∧ (okO h7 (hpR h7 o 13) 4 ∧ (wp_X5_exchange (ad (hpR h7 o 13)) (hpR h7 (ad z3) 1) h7 (fun (z14 : Option Nat) (h13 : Hp) => okO h13 z3 2 ∧ (okP h13 z14 ∧ (∀ h16 : Hp, h16 = stR h13 (ad z3) 1 z14 → (okO h16 z3 2 ∧ (wp_X3_forgetSaid (ad z3) h16 (fun (h19 : Hp) => okO h19 z3 2 ∧ (okO h19 (hpR h19 (ad z3) 1) 5 ∧ (Q (hpI h19 (ad (hpR h19 (ad z3) 1)) 7) h19))))))))))))))))))))
set_option maxHeartbeats 4000000 in
set_option maxRecDepth 100000 in
theorem c_X11_judgement (l : Launch) (G : GG) (base : Nat) (A : Nat → Nat) (o : Nat) (x1 : Int32) (h : Hp) (Q : Int32 → Hp → Prop) (hw : wp_X11_judgement o x1 h Q) : Met l yX11_judgement (ww yX11_judgement cX11_judgement 3 (some .int)) rm_X11_judgement (va_Pc [.ref (A o), .int x1] (PU2 G base A h A h)) (va_Qi Q (PU2 G base A h A) (fun q => base ≤ q)) 0 0 (fun q => base ≤ q) := by
  refine met2_of (own := RX11) (nm := "judgement") (by decide) rfl rfl (List.forall_mem_cons.mpr ⟨rfl, (List.forall_mem_cons.mpr ⟨rfl, (fun _ h => absurd h List.not_mem_nil)⟩)⟩) (Nat.le_of_ble_eq_true rfl) rfl ?_
  intro p e s m args below meth c H locs ls hM hC hl
  obtain ⟨hx, hb, hr, hml, hown, hts, hg, hs, hlk, hnm⟩ := id hM
  unfold wp_X11_judgement at hw
  refine lv_aload_n hx hb dX11_judgement_0 rfl (lo_at hl 0 rfl) ?_
  refine lv_iload_n hx hb dX11_judgement_1 rfl (lo_at hl 1 rfl) ?_
  obtain ⟨k1, hw⟩ := hw
  refine res2_q hC (run2_V (As := [.int x1]) (rest := []) hM hC hl.1.1 kv_RX11_144 (c_X11_lookerAt l G base A o x1 h _ hw) (hc_9) k1 rfl rfl rfl ⟨Nat.le_of_ble_eq_true rfl, Nat.le_of_ble_eq_true rfl⟩ (Nat.le_of_ble_eq_true rfl) ⟨Nat.le_of_ble_eq_true rfl, Nat.le_of_ble_eq_true rfl⟩ dX11_judgement_2) (fun z3 h2 H locs hw hC => ?_)
  refine lo_astore_n (r := Option.map A z3) (lv' := [(2, va_rf (Option.map A z3)), (0, .ref (A o)), (1, .int x1)]) hx hb dX11_judgement_5 rfl hl (by decide) rfl (fun ls hl => ?_)
  refine lo_aload_n (r := Option.map A z3) hx hb dX11_judgement_6 rfl (lo_at hl 0 rfl) ?_
  refine s_ifnonnull (r := z3) (A := A) (tgt := 19) hx hb dX11_judgement_7 (by decide) (fun c4 => ?_) (fun c4 => ?_)
  ·
    replace hw := (if_neg c4).mp hw
    refine lv_aload_n hx hb dX11_judgement_19 rfl (lo_at hl 1 rfl) ?_
    obtain ⟨k5, hw⟩ := hw
    refine s_getR hx hb hts hown hg hC fb_9_13 k5 mk_f_RX11_55 dX11_judgement_20 ?_
    refine lv_iconst (v := 0) hx hb dX11_judgement_23 (by decide) ?_
    obtain ⟨k6, hw⟩ := hw
    refine sf_2 k6.1 ?_
    refine res2_i hC (run2_V (As := [.int ((0 : Int32))]) (rest := []) hM hC hl.1.1 kv_RX11_169 (c_X5_read l G base A (ad (hpR h2 o 13)) (0 : Int32) h2 _ hw) (hc_4) k6.2 rfl rfl rfl ⟨Nat.le_of_ble_eq_true rfl, Nat.le_of_ble_eq_true rfl⟩ (Nat.le_of_ble_eq_true rfl) ⟨Nat.le_of_ble_eq_true rfl, Nat.le_of_ble_eq_true rfl⟩ dX11_judgement_24) (fun z8 h7 H locs hw hC => ?_)
    refine lv_if_ne (tgt := 32) hx hb dX11_judgement_27 (by decide) (fun c9 => ?_) (fun c9 => ?_)
    ·
      replace hw := (if_neg c9).mp hw
      refine lo_aload_n (r := Option.map A z3) hx hb dX11_judgement_32 rfl (lo_at hl 0 rfl) ?_
      refine lv_aload_n hx hb dX11_judgement_33 rfl (lo_at hl 1 rfl) ?_
      obtain ⟨k10, hw⟩ := hw
      refine s_getR hx hb hts hown hg hC fb_9_13 k10 mk_f_RX11_55 dX11_judgement_34 ?_
      refine lo_aload_n (r := Option.map A z3) hx hb dX11_judgement_37 rfl (lo_at hl 0 rfl) ?_
      obtain ⟨k11, hw⟩ := hw
      refine sf_1 k11.1 ?_
      refine s_getR hx hb hts hown hg hC fb_2_1 k11.2 mk_f_RX11_183 dX11_judgement_38 ?_
      obtain ⟨k12, hw⟩ := hw
      refine sf_2 k12.1 ?_
      refine res2_q hC (run2_V (As := [va_rf (Option.map A (hpR h7 (ad z3) 1))]) (rest := [va_rf (Option.map A z3)]) hM hC hl.1.1 kv_RX11_173 (c_X5_exchange l G base A (ad (hpR h7 o 13)) (hpR h7 (ad z3) 1) h7 _ hw) (hc_4) k12.2 rfl rfl rfl ⟨Nat.le_of_ble_eq_true rfl, Nat.le_of_ble_eq_true rfl⟩ (rest_le (List.forall_mem_cons.mpr ⟨va_rf_cat _, (fun _ h => absurd h List.not_mem_nil)⟩) (Nat.le_of_ble_eq_true rfl)) ⟨Nat.le_of_ble_eq_true rfl, Nat.le_of_ble_eq_true rfl⟩ dX11_judgement_41) (fun z14 h13 H locs hw hC => ?_)
      obtain ⟨k15, hw⟩ := hw
      refine sf_2 k15.1 ?_
      obtain ⟨k17, hw⟩ := hw
      refine s_putR (v := z14) hx hb hts hown hg hC fb_2_1 k15.2 k17 (nv_o) (fv_o) mk_f_RX11_183 dX11_judgement_44 (fun h16 H locs eh16 hC => ?_)
      replace hw := hw h16 eh16
      refine lo_aload_n (r := Option.map A z3) hx hb dX11_judgement_47 rfl (lo_at hl 0 rfl) ?_
      obtain ⟨k18, hw⟩ := hw
      refine sf_1 k18.1 ?_
      refine res2_v hC (run2_V (As := []) (rest := []) hM hC hl.1.1 kv_RX11_186 (c_X3_forgetSaid l G base A (ad z3) h16 _ hw) (hc_2) k18.2 rfl rfl rfl ⟨Nat.le_of_ble_eq_true rfl, Nat.le_of_ble_eq_true rfl⟩ (Nat.le_of_ble_eq_true rfl) ⟨Nat.le_of_ble_eq_true rfl, Nat.le_of_ble_eq_true rfl⟩ dX11_judgement_48) (fun h19 H locs hw hC => ?_)
      refine lo_aload_n (r := Option.map A z3) hx hb dX11_judgement_51 rfl (lo_at hl 0 rfl) ?_
      obtain ⟨k21, hw⟩ := hw
      refine sf_1 k21.1 ?_
      refine s_getR hx hb hts hown hg hC fb_2_1 k21.2 mk_f_RX11_183 dX11_judgement_52 ?_
      obtain ⟨k22, hw⟩ := hw
      refine sf_1 k22.1 ?_
      refine s_getI hx hb hts hown hg hC fb_5_7 k22.2 mk_f_RX11_177 dX11_judgement_55 ?_
      exact ret2_i hM hC hw dX11_judgement_58
    ·
      replace hw := (if_pos c9).mp hw
      refine lv_iconst (v := -1) hx hb dX11_judgement_30 (by decide) ?_
      exact ret2_i hM hC hw dX11_judgement_31
  ·
    replace hw := (if_pos c4).mp hw
    refine lv_aload_n hx hb dX11_judgement_10 rfl (lo_at hl 1 rfl) ?_
    obtain ⟨k23, hw⟩ := hw
    refine s_getR hx hb hts hown hg hC fb_9_13 k23 mk_f_RX11_55 dX11_judgement_11 ?_
    obtain ⟨k24, hw⟩ := hw
    refine sf_1 k24.1 ?_
    refine res2_v hC (run2_V (As := []) (rest := []) hM hC hl.1.1 kv_RX11_180 (c_X5_pass l G base A (ad (hpR h2 o 13)) h2 _ hw) (hc_4) k24.2 rfl rfl rfl ⟨Nat.le_of_ble_eq_true rfl, Nat.le_of_ble_eq_true rfl⟩ (Nat.le_of_ble_eq_true rfl) ⟨Nat.le_of_ble_eq_true rfl, Nat.le_of_ble_eq_true rfl⟩ dX11_judgement_14) (fun h25 H locs hw hC => ?_)
    refine lv_iconst (v := -1) hx hb dX11_judgement_17 (by decide) ?_
    exact ret2_i hM hC hw dX11_judgement_18
