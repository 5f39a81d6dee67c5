abbrev rm_X12_readSum : Room := { frames := 5, cells := 0, slots := 0, locals := 107 }
set_option maxRecDepth 100000 in
def wp_X12_readSum_J42 (o : Nat) (s0 : Int32) (KH : Hp → Prop) (K55 : Hp → Prop) (K66 : Hp → Prop) (Q : Int32 → Hp → Prop) (h : Hp) : Prop := ((hpK h o).1 = 20 + 10) ∧ (wp_X12_reads o h (fun (h12 : Hp) => ((hpK h12 o).1 = 20 + 10) ∧ (wp_X12_readProduct o h12 (fun (z16 : Int32) (h15 : Hp) => (if z16 = (-1 : Int32) then (K55 h15) else (((hpK h15 o).1 = 20 + 10) ∧ (wp_X12_emits o s0 (0 : Int32) h15 (fun (h19 : Hp) => KH h19))))))))
set_option maxRecDepth 100000 in
def wp_X12_readSum_J28 (o : Nat) (KH : Hp → Prop) (K55 : Hp → Prop) (K66 : Hp → Prop) (Q : Int32 → Hp → Prop) (h : Hp) : Prop := ((hpK h o).1 = 20 + 10) ∧ ((if (hpI h o 23) = (43 : Int32) then (wp_X12_readSum_J42 o (2 : Int32) KH K55 K66 Q h) else (wp_X12_readSum_J42 o (3 : Int32) KH K55 K66 Q h)))
set_option maxRecDepth 100000 in
def wp_X12_readSum_L10 (o : Nat) (K55 : Hp → Prop) (K66 : Hp → Prop) (Q : Int32 → Hp → Prop) : Nat → Hp → Prop
  | 0, _ => False
  | n + 1, h => ((hpK h o).1 = 20 + 10) ∧ (wp_X12_isSign o (43 : Int32) h (fun (z7 : Int32) (h6 : Hp) => (if z7 = 0 then (((hpK h6 o).1 = 20 + 10) ∧ (wp_X12_isSign o (45 : Int32) h6 (fun (z23 : Int32) (h22 : Hp) => (if z23 = 0 then (K66 h22) else (wp_X12_readSum_J28 o (wp_X12_readSum_L10 o K55 K66 Q n) K55 K66 Q h22))))) else (wp_X12_readSum_J28 o (wp_X12_readSum_L10 o K55 K66 Q n) K55 K66 Q h6))))
set_option maxRecDepth 100000 in
def wp_X12_readSum (o : Nat) (h : Hp) (Q : Int32 → Hp → Prop) : Prop := ((hpK h o).1 = 20 + 10) ∧ (wp_X12_readProduct o h (fun (z3 : Int32) (h2 : Hp) => (if z3 = (-1 : Int32) then (Q (-1 : Int32) h2) else (wp_X12_readSum_L10 o (fun (h25 : Hp) => Q (-1 : Int32) h25) (fun (h26 : Hp) => Q (0 : Int32) h26) Q fuel h2))))
set_option maxHeartbeats 4000000 in
set_option maxRecDepth 100000 in
theorem t_X12_readSum_J42 {p : Program} {l : Launch} {e : Env} {s : State} {m : MethodId} {args : Array Value} {below : List Frame} {meth : Method} {c : Code} {G : GG} {base : Nat} {A : Nat → Nat} {g0 : Hp} (hM : Mx G base p s m args meth c cX12_readSum 2 (some .int) RX12 "readSum") (o : Nat) (s0 : Int32) (KH : Hp → Prop) (K55 : Hp → Prop) (K66 : Hp → Prop) (Q : Int32 → Hp → Prop) (hKH : ∀ (h : Hp) (H : Heap) (locs : List Loc) (ls : Array Slot), Cx2 G base A g0 A h s.heap H locs → lo_has ls 2 [(0, .ref (A o))] → KH h → W p l e rm_X12_readSum s m args below meth c H locs 0 0 (MQ below (va_Qi Q (PU2 G base A g0 A) (fun q => base ≤ q)) args s 0 0 (fun q => base ≤ q)) (F0 m 10 ls [])) (hK55 : ∀ (h : Hp) (H : Heap) (locs : List Loc) (ls : Array Slot), Cx2 G base A g0 A h s.heap H locs → lo_has ls 2 [] → K55 h → W p l e rm_X12_readSum s m args below meth c H locs 0 0 (MQ below (va_Qi Q (PU2 G base A g0 A) (fun q => base ≤ q)) args s 0 0 (fun q => base ≤ q)) (F0 m 55 ls [])) (hK66 : ∀ (h : Hp) (H : Heap) (locs : List Loc) (ls : Array Slot), Cx2 G base A g0 A h s.heap H locs → lo_has ls 2 [] → K66 h → W p l e rm_X12_readSum s m args below meth c H locs 0 0 (MQ below (va_Qi Q (PU2 G base A g0 A) (fun q => base ≤ q)) args s 0 0 (fun q => base ≤ q)) (F0 m 66 ls [])) (h : Hp) (H : Heap) (locs : List Loc) (ls : Array Slot) : Cx2 G base A g0 A h s.heap H locs → lo_has ls 2 [(0, .ref (A o))] → wp_X12_readSum_J42 o s0 KH K55 K66 Q h → W p l e rm_X12_readSum s m args below meth c H locs 0 0 (MQ below (va_Qi Q (PU2 G base A g0 A) (fun q => base ≤ q)) args s 0 0 (fun q => base ≤ q)) (F0 m 42 ls [.int s0]) := by
  intro hC hl hw
  unfold wp_X12_readSum_J42 at hw
  obtain ⟨hx, hb, hr, hml, hown, hts, hg, hs, hlk, hnm⟩ := id hM
  refine lo_istore_n (lv' := [(1, .int s0), (0, .ref (A o))]) hx hb dX12_readSum_42 rfl hl (by decide) rfl (fun ls hl => ?_)
  refine lv_aload_n hx hb dX12_readSum_43 rfl (lo_at hl 1 rfl) ?_
  obtain ⟨k11, hw⟩ := hw
  refine res2_v hC (run2_V (As := []) (rest := []) hM hC hl.1.1 kv_RX12_230 (c_X12_reads l G base A o h _ hw) (hc_10) k11 rfl rfl rfl ⟨Nat.le_of_ble_eq_true rfl, Nat.le_of_ble_eq_true rfl⟩ (Nat.le_of_ble_eq_true rfl) ⟨Nat.le_of_ble_eq_true rfl, Nat.le_of_ble_eq_true rfl⟩ dX12_readSum_44) (fun h12 H locs hw hC => ?_)
  refine lv_aload_n hx hb dX12_readSum_47 rfl (lo_at hl 1 rfl) ?_
  obtain ⟨k14, hw⟩ := hw
  refine res2_i hC (run2_V (As := []) (rest := []) hM hC hl.1.1 kv_RX12_240 (c_X12_readProduct l G base A o h12 _ hw) (hc_10) k14 rfl rfl rfl ⟨Nat.le_of_ble_eq_true rfl, Nat.le_of_ble_eq_true rfl⟩ (Nat.le_of_ble_eq_true rfl) ⟨Nat.le_of_ble_eq_true rfl, Nat.le_of_ble_eq_true rfl⟩ dX12_readSum_48) (fun z16 h15 H locs hw hC => ?_)
  refine lv_iconst (v := -1) hx hb dX12_readSum_51 (by decide) ?_
  refine lv_icmp_ne (tgt := 57) hx hb dX12_readSum_52 (by decide) (fun c17 => ?_) (fun c17 => ?_)
  ·
    replace hw := (if_neg c17).mp hw
    refine lv_aload_n hx hb dX12_readSum_57 rfl (lo_at hl 1 rfl) ?_
    refine lv_iload_n hx hb dX12_readSum_58 rfl (lo_at hl 0 rfl) ?_
    refine lv_iconst (v := 0) hx hb dX12_readSum_59 (by decide) ?_
    obtain ⟨k18, hw⟩ := hw
    refine res2_v hC (run2_V (As := [.int s0, .int ((0 : Int32))]) (rest := []) hM hC hl.1.1 kv_RX12_226 (c_X12_emits l G base A o s0 (0 : Int32) h15 _ hw) (hc_10) k18 rfl rfl rfl ⟨Nat.le_of_ble_eq_true rfl, Nat.le_of_ble_eq_true rfl⟩ (Nat.le_of_ble_eq_true rfl) ⟨Nat.le_of_ble_eq_true rfl, Nat.le_of_ble_eq_true rfl⟩ dX12_readSum_60) (fun h19 H locs hw hC => ?_)
    refine lv_goto (tgt := 10) hx hb dX12_readSum_63 (by decide) ?_
    exact hKH  h19 H locs ls hC (lo_sub hl [1] rfl) hw
  ·
    replace hw := (if_pos c17).mp hw
    exact hK55  h15 H locs ls hC (lo_sub hl [] rfl) hw
set_option maxHeartbeats 4000000 in
set_option maxRecDepth 100000 in
theorem t_X12_readSum_J28 {p : Program} {l : Launch} {e : Env} {s : State} {m : MethodId} {args : Array Value} {below : List Frame} {meth : Method} {c : Code} {G : GG} {base : Nat} {A : Nat → Nat} {g0 : Hp} (hM : Mx G base p s m args meth c cX12_readSum 2 (some .int) RX12 "readSum") (o : Nat) (KH : Hp → Prop) (K55 : Hp → Prop) (K66 : Hp → Prop) (Q : Int32 → Hp → Prop) (hKH : ∀ (h : Hp) (H : Heap) (locs : List Loc) (ls : Array Slot), Cx2 G base A g0 A h s.heap H locs → lo_has ls 2 [(0, .ref (A o))] → KH h → W p l e rm_X12_readSum s m args below meth c H locs 0 0 (MQ below (va_Qi Q (PU2 G base A g0 A) (fun q => base ≤ q)) args s 0 0 (fun q => base ≤ q)) (F0 m 10 ls [])) (hK55 : ∀ (h : Hp) (H : Heap) (locs : List Loc) (ls : Array Slot), Cx2 G base A g0 A h s.heap H locs → lo_has ls 2 [] → K55 h → W p l e rm_X12_readSum s m args below meth c H locs 0 0 (MQ below (va_Qi Q (PU2 G base A g0 A) (fun q => base ≤ q)) args s 0 0 (fun q => base ≤ q)) (F0 m 55 ls [])) (hK66 : ∀ (h : Hp) (H : Heap) (locs : List Loc) (ls : Array Slot), Cx2 G base A g0 A h s.heap H locs → lo_has ls 2 [] → K66 h → W p l e rm_X12_readSum s m args below meth c H locs 0 0 (MQ below (va_Qi Q (PU2 G base A g0 A) (fun q => base ≤ q)) args s 0 0 (fun q => base ≤ q)) (F0 m 66 ls [])) (h : Hp) (H : Heap) (locs : List Loc) (ls : Array Slot) : Cx2 G base A g0 A h s.heap H locs → lo_has ls 2 [(0, .ref (A o))] → wp_X12_readSum_J28 o KH K55 K66 Q h → W p l e rm_X12_readSum s m args below meth c H locs 0 0 (MQ below (va_Qi Q (PU2 G base A g0 A) (fun q => base ≤ q)) args s 0 0 (fun q => base ≤ q)) (F0 m 28 ls []) := by
  intro hC hl hw
  unfold wp_X12_readSum_J28 at hw
  obtain ⟨hx, hb, hr, hml, hown, hts, hg, hs, hlk, hnm⟩ := id hM
  refine lv_aload_n hx hb dX12_readSum_28 rfl (lo_at hl 0 rfl) ?_
  obtain ⟨k9, hw⟩ := hw
  refine s_getI hx hb hts hown hg hC fb_10_23 k9 mk_f_RX12_194 dX12_readSum_29 ?_
  refine lv_bipush (v := 43) hx hb dX12_readSum_32 (by decide) ?_
  refine lv_icmp_ne (tgt := 41) hx hb dX12_readSum_34 (by decide) (fun c10 => ?_) (fun c10 => ?_)
  ·
    replace hw := (if_neg c10).mp hw
    refine lv_iconst (v := 3) hx hb dX12_readSum_41 (by decide) ?_
    exact t_X12_readSum_J42 hM o (3 : Int32) KH K55 K66 Q hKH hK55 hK66 h H locs ls hC (lo_sub hl [0] rfl) hw
  ·
    replace hw := (if_pos c10).mp hw
    refine lv_iconst (v := 2) hx hb dX12_readSum_37 (by decide) ?_
    refine lv_goto (tgt := 42) hx hb dX12_readSum_38 (by decide) ?_
    exact t_X12_readSum_J42 hM o (2 : Int32) KH K55 K66 Q hKH hK55 hK66 h H locs ls hC (lo_sub hl [0] rfl) hw
set_option maxHeartbeats 4000000 in
set_option maxRecDepth 100000 in
theorem t_X12_readSum_L10 {p : Program} {l : Launch} {e : Env} {s : State} {m : MethodId} {args : Array Value} {below : List Frame} {meth : Method} {c : Code} {G : GG} {base : Nat} {A : Nat → Nat} {g0 : Hp} (hM : Mx G base p s m args meth c cX12_readSum 2 (some .int) RX12 "readSum") (o : Nat) (K55 : Hp → Prop) (K66 : Hp → Prop) (Q : Int32 → Hp → Prop) (hK55 : ∀ (h : Hp) (H : Heap) (locs : List Loc) (ls : Array Slot), Cx2 G base A g0 A h s.heap H locs → lo_has ls 2 [] → K55 h → W p l e rm_X12_readSum s m args below meth c H locs 0 0 (MQ below (va_Qi Q (PU2 G base A g0 A) (fun q => base ≤ q)) args s 0 0 (fun q => base ≤ q)) (F0 m 55 ls [])) (hK66 : ∀ (h : Hp) (H : Heap) (locs : List Loc) (ls : Array Slot), Cx2 G base A g0 A h s.heap H locs → lo_has ls 2 [] → K66 h → W p l e rm_X12_readSum s m args below meth c H locs 0 0 (MQ below (va_Qi Q (PU2 G base A g0 A) (fun q => base ≤ q)) args s 0 0 (fun q => base ≤ q)) (F0 m 66 ls [])) : ∀ (n : Nat) (h : Hp) (H : Heap) (locs : List Loc) (ls : Array Slot), Cx2 G base A g0 A h s.heap H locs → lo_has ls 2 [(0, .ref (A o))] → wp_X12_readSum_L10 o K55 K66 Q n h → W p l e rm_X12_readSum s m args below meth c H locs 0 0 (MQ below (va_Qi Q (PU2 G base A g0 A) (fun q => base ≤ q)) args s 0 0 (fun q => base ≤ q)) (F0 m 10 ls []) := by
  intro n
  induction n with
  | zero =>
    intro  h H locs ls hC hl hw
    rw [wp_X12_readSum_L10] at hw
    exact hw.elim
  | succ n ih =>
    intro  h H locs ls hC hl hw
    rw [wp_X12_readSum_L10] at hw
    obtain ⟨hx, hb, hr, hml, hown, hts, hg, hs, hlk, hnm⟩ := id hM
    refine lv_aload_n hx hb dX12_readSum_10 rfl (lo_at hl 0 rfl) ?_
    refine lv_bipush (v := 43) hx hb dX12_readSum_11 (by decide) ?_
    obtain ⟨k5, hw⟩ := hw
    refine res2_i hC (run2_V (As := [.int ((43 : Int32))]) (rest := []) hM hC hl.1.1 kv_RX12_237 (c_X12_isSign l G base A o (43 : Int32) h _ hw) (hc_10) k5 rfl rfl rfl ⟨Nat.le_of_ble_eq_true rfl, Nat.le_of_ble_eq_true rfl⟩ (Nat.le_of_ble_eq_true rfl) ⟨Nat.le_of_ble_eq_true rfl, Nat.le_of_ble_eq_true rfl⟩ dX12_readSum_13) (fun z7 h6 H locs hw hC => ?_)
    refine lv_if_ne (tgt := 28) hx hb dX12_readSum_16 (by decide) (fun c8 => ?_) (fun c8 => ?_)
    ·
      replace hw := (if_neg c8).mp hw
      exact t_X12_readSum_J28 hM o (wp_X12_readSum_L10 o K55 K66 Q n) K55 K66 Q ih hK55 hK66 h6 H locs ls hC (lo_sub hl [0] rfl) hw
    ·
      replace hw := (if_pos c8).mp hw
      refine lv_aload_n hx hb dX12_readSum_19 rfl (lo_at hl 0 rfl) ?_
      refine lv_bipush (v := 45) hx hb dX12_readSum_20 (by decide) ?_
      obtain ⟨k21, hw⟩ := hw
      refine res2_i hC (run2_V (As := [.int ((45 : Int32))]) (rest := []) hM hC hl.1.1 kv_RX12_237 (c_X12_isSign l G base A o (45 : Int32) h6 _ hw) (hc_10) k21 rfl rfl rfl ⟨Nat.le_of_ble_eq_true rfl, Nat.le_of_ble_eq_true rfl⟩ (Nat.le_of_ble_eq_true rfl) ⟨Nat.le_of_ble_eq_true rfl, Nat.le_of_ble_eq_true rfl⟩ dX12_readSum_22) (fun z23 h22 H locs hw hC => ?_)
      refine lv_if_eq (tgt := 66) hx hb dX12_readSum_25 (by decide) (fun c24 => ?_) (fun c24 => ?_)
      ·
        replace hw := (if_pos c24).mp hw
        exact hK66  h22 H locs ls hC (lo_sub hl [] rfl) hw
      ·
        replace hw := (if_neg c24).mp hw
        exact t_X12_readSum_J28 hM o (wp_X12_readSum_L10 o K55 K66 Q n) K55 K66 Q ih hK55 hK66 h22 H locs ls hC (lo_sub hl [0] rfl) hw
set_option maxHeartbeats 4000000 in
set_option maxRecDepth 100000 in
theorem c_X12_readSum (l : Launch) (G : GG) (base : Nat) (A : Nat → Nat) (o : Nat) (h : Hp) (Q : Int32 → Hp → Prop) (hw : wp_X12_readSum o h Q) : Met l yX12_readSum (ww yX12_readSum cX12_readSum 2 (some .int)) rm_X12_readSum (va_Pc [.ref (A o)] (PU2 G base A h A h)) (va_Qi Q (PU2 G base A h A) (fun q => base ≤ q)) 0 0 (fun q => base ≤ q) := by
  refine met2_of (own := RX12) (nm := "readSum") (by decide) rfl rfl (List.forall_mem_cons.mpr ⟨rfl, (fun _ h => absurd h List.not_mem_nil)⟩) (Nat.le_of_ble_eq_true rfl) rfl ?_
  intro p e s m args below meth c H locs ls hM hC hl
  obtain ⟨hx, hb, hr, hml, hown, hts, hg, hs, hlk, hnm⟩ := id hM
  unfold wp_X12_readSum at hw
  refine lv_aload_n hx hb dX12_readSum_0 rfl (lo_at hl 0 rfl) ?_
  obtain ⟨k1, hw⟩ := hw
  refine res2_i hC (run2_V (As := []) (rest := []) hM hC hl.1.1 kv_RX12_240 (c_X12_readProduct l G base A o h _ hw) (hc_10) k1 rfl rfl rfl ⟨Nat.le_of_ble_eq_true rfl, Nat.le_of_ble_eq_true rfl⟩ (Nat.le_of_ble_eq_true rfl) ⟨Nat.le_of_ble_eq_true rfl, Nat.le_of_ble_eq_true rfl⟩ dX12_readSum_1) (fun z3 h2 H locs hw hC => ?_)
  refine lv_iconst (v := -1) hx hb dX12_readSum_4 (by decide) ?_
  refine lv_icmp_ne (tgt := 10) hx hb dX12_readSum_5 (by decide) (fun c4 => ?_) (fun c4 => ?_)
  ·
    replace hw := (if_neg c4).mp hw
    refine t_X12_readSum_L10 hM o _ _ Q ?_ ?_ fuel  h2 H locs ls hC (lo_sub hl [0] rfl) hw
    ·
      intro  h25 H locs ls hC hl hw
      refine lv_iconst (v := -1) hx hb dX12_readSum_55 (by decide) ?_
      exact ret2_i hM hC hw dX12_readSum_56
    ·
      intro  h26 H locs ls hC hl hw
      refine lv_iconst (v := 0) hx hb dX12_readSum_66 (by decide) ?_
      exact ret2_i hM hC hw dX12_readSum_67
  ·
    replace hw := (if_pos c4).mp hw
    refine lv_iconst (v := -1) hx hb dX12_readSum_8 (by decide) ?_
    exact ret2_i hM hC hw dX12_readSum_9
abbrev rm_X12_readCompared : Room := { frames := 6, cells := 0, slots := 0, locals := 128 }
set_option maxRecDepth 100000 in
def wp_X12_readCompared_J73 (o : Nat) (s0 : Int32) (Q : Int32 → Hp → Prop) (h : Hp) : Prop := ((hpK h o).1 = 20 + 10) ∧ (wp_X12_reads o h (fun (h13 : Hp) => ((hpK h13 o).1 = 20 + 10) ∧ (wp_X12_readSum o h13 (fun (z17 : Int32) (h16 : Hp) => (if z17 = (-1 : Int32) then (Q (-1 : Int32) h16) else (((hpK h16 o).1 = 20 + 10) ∧ (wp_X12_emits o s0 (0 : Int32) h16 (fun (h20 : Hp) => Q (0 : Int32) h20))))))))
set_option maxRecDepth 100000 in
def wp_X12_readCompared_J43 (o : Nat) (Q : Int32 → Hp → Prop) (h : Hp) : Prop := ((hpK h o).1 = 20 + 10) ∧ ((if (hpI h o 23) = (60 : Int32) then (wp_X12_readCompared_J73 o (6 : Int32) Q h) else ((if (hpI h o 23) = (61 : Int32) then (wp_X12_readCompared_J73 o (7 : Int32) Q h) else (wp_X12_readCompared_J73 o (8 : Int32) Q h)))))
set_option maxRecDepth 100000 in
def wp_X12_readCompared (o : Nat) (h : Hp) (Q : Int32 → Hp → Prop) : Prop := ((hpK h o).1 = 20 + 10) ∧ (wp_X12_readSum o h (fun (z3 : Int32) (h2 : Hp) => (if z3 = (-1 : Int32) then (Q (-1 : Int32) h2) else (((hpK h2 o).1 = 20 + 10) ∧ (wp_X12_isSign o (60 : Int32) h2 (fun (z7 : Int32) (h6 : Hp) => (if z7 = 0 then (((hpK h6 o).1 = 20 + 10) ∧ (wp_X12_isSign o (61 : Int32) h6 (fun (z24 : Int32) (h23 : Hp) => (if z24 = 0 then (((hpK h23 o).1 = 20 + 10) ∧ (wp_X12_isSign o (62 : Int32) h23 (fun (z28 : Int32) (h27 : Hp) => (if z28 = 0 then (((hpK h27 o).1 = 20 + 10) ∧ (wp_X12_fails o (1 : Int32) h27 (fun (z32 : Int32) (h31 : Hp) => Q z32 h31))) else (wp_X12_readCompared_J43 o Q h27))))) else (wp_X12_readCompared_J43 o Q h23))))) else (wp_X12_readCompared_J43 o Q h6))))))))
set_option maxHeartbeats 4000000 in
set_option maxRecDepth 100000 in
theorem t_X12_readCompared_J73 {p : Program} {l : Launch} {e : Env} {s : State} {m : MethodId} {args : Array Value} {below : List Frame} {meth : Method} {c : Code} {G : GG} {base : Nat} {A : Nat → Nat} {g0 : Hp} (hM : Mx G base p s m args meth c cX12_readCompared 2 (some .int) RX12 "readCompared") (o : Nat) (s0 : Int32) (Q : Int32 → Hp → Prop) (h : Hp) (H : Heap) (locs : List Loc) (ls : Array Slot) : Cx2 G base A g0 A h s.heap H locs → lo_has ls 2 [(0, .ref (A o))] → wp_X12_readCompared_J73 o s0 Q h → W p l e rm_X12_readCompared s m args below meth c H locs 0 0 (MQ below (va_Qi Q (PU2 G base A g0 A) (fun q => base ≤ q)) args s 0 0 (fun q => base ≤ q)) (F0 m 73 ls [.int s0]) := by
  intro hC hl hw
  unfold wp_X12_readCompared_J73 at hw
  obtain ⟨hx, hb, hr, hml, hown, hts, hg, hs, hlk, hnm⟩ := id hM
  refine lo_istore_n (lv' := [(1, .int s0), (0, .ref (A o))]) hx hb dX12_readCompared_73 rfl hl (by decide) rfl (fun ls hl => ?_)
  refine lv_aload_n hx hb dX12_readCompared_74 rfl (lo_at hl 1 rfl) ?_
  obtain ⟨k12, hw⟩ := hw
  refine res2_v hC (run2_V (As := []) (rest := []) hM hC hl.1.1 kv_RX12_230 (c_X12_reads l G base A o h _ hw) (hc_10) k12 rfl rfl rfl ⟨Nat.le_of_ble_eq_true rfl, Nat.le_of_ble_eq_true rfl⟩ (Nat.le_of_ble_eq_true rfl) ⟨Nat.le_of_ble_eq_true rfl, Nat.le_of_ble_eq_true rfl⟩ dX12_readCompared_75) (fun h13 H locs hw hC => ?_)
  refine lv_aload_n hx hb dX12_readCompared_78 rfl (lo_at hl 1 rfl) ?_
  obtain ⟨k15, hw⟩ := hw
  refine res2_i hC (run2_V (As := []) (rest := []) hM hC hl.1.1 kv_RX12_243 (c_X12_readSum l G base A o h13 _ hw) (hc_10) k15 rfl rfl rfl ⟨Nat.le_of_ble_eq_true rfl, Nat.le_of_ble_eq_true rfl⟩ (Nat.le_of_ble_eq_true rfl) ⟨Nat.le_of_ble_eq_true rfl, Nat.le_of_ble_eq_true rfl⟩ dX12_readCompared_79) (fun z17 h16 H locs hw hC => ?_)
  refine lv_iconst (v := -1) hx hb dX12_readCompared_82 (by decide) ?_
  refine lv_icmp_ne (tgt := 88) hx hb dX12_readCompared_83 (by decide) (fun c18 => ?_) (fun c18 => ?_)
  ·
    replace hw := (if_neg c18).mp hw
    refine lv_aload_n hx hb dX12_readCompared_88 rfl (lo_at hl 1 rfl) ?_
    refine lv_iload_n hx hb dX12_readCompared_89 rfl (lo_at hl 0 rfl) ?_
    refine lv_iconst (v := 0) hx hb dX12_readCompared_90 (by decide) ?_
    obtain ⟨k19, hw⟩ := hw
    refine res2_v hC (run2_V (As := [.int s0, .int ((0 : Int32))]) (rest := []) hM hC hl.1.1 kv_RX12_226 (c_X12_emits l G base A o s0 (0 : Int32) h16 _ hw) (hc_10) k19 rfl rfl rfl ⟨Nat.le_of_ble_eq_true rfl, Nat.le_of_ble_eq_true rfl⟩ (Nat.le_of_ble_eq_true rfl) ⟨Nat.le_of_ble_eq_true rfl, Nat.le_of_ble_eq_true rfl⟩ dX12_readCompared_91) (fun h20 H locs hw hC => ?_)
    refine lv_iconst (v := 0) hx hb dX12_readCompared_94 (by decide) ?_
    exact ret2_i hM hC hw dX12_readCompared_95
  ·
    replace hw := (if_pos c18).mp hw
    refine lv_iconst (v := -1) hx hb dX12_readCompared_86 (by decide) ?_
    exact ret2_i hM hC hw dX12_readCompared_87
set_option maxHeartbeats 4000000 in
set_option maxRecDepth 100000 in
theorem t_X12_readCompared_J43 {p : Program} {l : Launch} {e : Env} {s : State} {m : MethodId} {args : Array Value} {below : List Frame} {meth : Method} {c : Code} {G : GG} {base : Nat} {A : Nat → Nat} {g0 : Hp} (hM : Mx G base p s m args meth c cX12_readCompared 2 (some .int) RX12 "readCompared") (o : Nat) (Q : Int32 → Hp → Prop) (h : Hp) (H : Heap) (locs : List Loc) (ls : Array Slot) : Cx2 G base A g0 A h s.heap H locs → lo_has ls 2 [(0, .ref (A o))] → wp_X12_readCompared_J43 o Q h → W p l e rm_X12_readCompared s m args below meth c H locs 0 0 (MQ below (va_Qi Q (PU2 G base A g0 A) (fun q => base ≤ q)) args s 0 0 (fun q => base ≤ q)) (F0 m 43 ls []) := by
  intro hC hl hw
  unfold wp_X12_readCompared_J43 at hw
  obtain ⟨hx, hb, hr, hml, hown, hts, hg, hs, hlk, hnm⟩ := id hM
  refine lv_aload_n hx hb dX12_readCompared_43 rfl (lo_at hl 0 rfl) ?_
  obtain ⟨k9, hw⟩ := hw
  refine s_getI hx hb hts hown hg hC fb_10_23 k9 mk_f_RX12_194 dX12_readCompared_44 ?_
  refine lv_bipush (v := 60) hx hb dX12_readCompared_47 (by decide) ?_
  refine lv_icmp_ne (tgt := 57) hx hb dX12_readCompared_49 (by decide) (fun c10 => ?_) (fun c10 => ?_)
  ·
    replace hw := (if_neg c10).mp hw
    refine lv_aload_n hx hb dX12_readCompared_57 rfl (lo_at hl 0 rfl) ?_
    refine s_getI hx hb hts hown hg hC fb_10_23 k9 mk_f_RX12_194 dX12_readCompared_58 ?_
    refine lv_bipush (v := 61) hx hb dX12_readCompared_61 (by decide) ?_
    refine lv_icmp_ne (tgt := 71) hx hb dX12_readCompared_63 (by decide) (fun c11 => ?_) (fun c11 => ?_)
    ·
      replace hw := (if_neg c11).mp hw
      refine lv_bipush (v := 8) hx hb dX12_readCompared_71 (by decide) ?_
      exact t_X12_readCompared_J73 hM o (8 : Int32) Q  h H locs ls hC (lo_sub hl [0] rfl) hw
    ·
      replace hw := (if_pos c11).mp hw
      refine lv_bipush (v := 7) hx hb dX12_readCompared_66 (by decide) ?_
      refine lv_goto (tgt := 73) hx hb dX12_readCompared_68 (by decide) ?_
      exact t_X12_readCompared_J73 hM o (7 : Int32) Q  h H locs ls hC (lo_sub hl [0] rfl) hw
  ·
    replace hw := (if_pos c10).mp hw
    refine lv_bipush (v := 6) hx hb dX12_readCompared_52 (by decide) ?_
    refine lv_goto (tgt := 73) hx hb dX12_readCompared_54 (by decide) ?_
    exact t_X12_readCompared_J73 hM o (6 : Int32) Q  h H locs ls hC (lo_sub hl [0] rfl) hw
set_option maxHeartbeats 4000000 in
set_option maxRecDepth 100000 in
theorem c_X12_readCompared (l : Launch) (G : GG) (base : Nat) (A : Nat → Nat) (o : Nat) (h : Hp) (Q : Int32 → Hp → Prop) (hw : wp_X12_readCompared o h Q) : Met l yX12_readCompared (ww yX12_readCompared cX12_readCompared 2 (some .int)) rm_X12_readCompared (va_Pc [.ref (A o)] (PU2 G base A h A h)) (va_Qi Q (PU2 G base A h A) (fun q => base ≤ q)) 0 0 (fun q => base ≤ q) := by
  refine met2_of (own := RX12) (nm := "readCompared") (by decide) rfl rfl (List.forall_mem_cons.mpr ⟨rfl, (fun _ h => absurd h List.not_mem_nil)⟩) (Nat.le_of_ble_eq_true rfl) rfl ?_
  intro p e s m args below meth c H locs ls hM hC hl
  obtain ⟨hx, hb, hr, hml, hown, hts, hg, hs, hlk, hnm⟩ := id hM
  unfold wp_X12_readCompared at hw
  refine lv_aload_n hx hb dX12_readCompared_0 rfl (lo_at hl 0 rfl) ?_
  obtain ⟨k1, hw⟩ := hw
  refine res2_i hC (run2_V (As := []) (rest := []) hM hC hl.1.1 kv_RX12_243 (c_X12_readSum l G base A o h _ hw) (hc_10) k1 rfl rfl rfl ⟨Nat.le_of_ble_eq_true rfl, Nat.le_of_ble_eq_true rfl⟩ (Nat.le_of_ble_eq_true rfl) ⟨Nat.le_of_ble_eq_true rfl, Nat.le_of_ble_eq_true rfl⟩ dX12_readCompared_1) (fun z3 h2 H locs hw hC => ?_)
  refine lv_iconst (v := -1) hx hb dX12_readCompared_4 (by decide) ?_
  refine lv_icmp_ne (tgt := 10) hx hb dX12_readCompared_5 (by decide) (fun c4 => ?_) (fun c4 => ?_)
  ·
    replace hw := (if_neg c4).mp hw
    refine lv_aload_n hx hb dX12_readCompared_10 rfl (lo_at hl 0 rfl) ?_
    refine lv_bipush (v := 60) hx hb dX12_readCompared_11 (by decide) ?_
    obtain ⟨k5, hw⟩ := hw
    refine res2_i hC (run2_V (As := [.int ((60 : Int32))]) (rest := []) hM hC hl.1.1 kv_RX12_237 (c_X12_isSign l G base A o (60 : Int32) h2 _ hw) (hc_10) k5 rfl rfl rfl ⟨Nat.le_of_ble_eq_true rfl, Nat.le_of_ble_eq_true rfl⟩ (Nat.le_of_ble_eq_true rfl) ⟨Nat.le_of_ble_eq_true rfl, Nat.le_of_ble_eq_true rfl⟩ dX12_readCompared_13) (fun z7 h6 H locs hw hC => ?_)
    refine lv_if_ne (tgt := 43) hx hb dX12_readCompared_16 (by decide) (fun c8 => ?_) (fun c8 => ?_)
    ·
      replace hw := (if_neg c8).mp hw
      exact t_X12_readCompared_J43 hM o Q  h6 H locs ls hC (lo_sub hl [0] rfl) hw
    ·
      replace hw := (if_pos c8).mp hw
      refine lv_aload_n hx hb dX12_readCompared_19 rfl (lo_at hl 0 rfl) ?_
      refine lv_bipush (v := 61) hx hb dX12_readCompared_20 (by decide) ?_
      obtain ⟨k22, hw⟩ := hw
      refine res2_i hC (run2_V (As := [.int ((61 : Int32))]) (rest := []) hM hC hl.1.1 kv_RX12_237 (c_X12_isSign l G base A o (61 : Int32) h6 _ hw) (hc_10) k22 rfl rfl rfl ⟨Nat.le_of_ble_eq_true rfl, Nat.le_of_ble_eq_true rfl⟩ (Nat.le_of_ble_eq_true rfl) ⟨Nat.le_of_ble_eq_true rfl, Nat.le_of_ble_eq_true rfl⟩ dX12_readCompared_22) (fun z24 h23 H locs hw hC => ?_)
      refine lv_if_ne (tgt := 43) hx hb dX12_readCompared_25 (by decide) (fun c25 => ?_) (fun c25 => ?_)
      ·
        replace hw := (if_neg c25).mp hw
        exact t_X12_readCompared_J43 hM o Q  h23 H locs ls hC (lo_sub hl [0] rfl) hw
      ·
        replace hw := (if_pos c25).mp hw
        refine lv_aload_n hx hb dX12_readCompared_28 rfl (lo_at hl 0 rfl) ?_
        refine lv_bipush (v := 62) hx hb dX12_readCompared_29 (by decide) ?_
        obtain ⟨k26, hw⟩ := hw
        refine res2_i hC (run2_V (As := [.int ((62 : Int32))]) (rest := []) hM hC hl.1.1 kv_RX12_237 (c_X12_isSign l G base A o (62 : Int32) h23 _ hw) (hc_10) k26 rfl rfl rfl ⟨Nat.le_of_ble_eq_true rfl, Nat.le_of_ble_eq_true rfl⟩ (Nat.le_of_ble_eq_true rfl) ⟨Nat.le_of_ble_eq_true rfl, Nat.le_of_ble_eq_true rfl⟩ dX12_readCompared_31) (fun z28 h27 H locs hw hC => ?_)
        refine lv_if_ne (tgt := 43) hx hb dX12_readCompared_34 (by decide) (fun c29 => ?_) (fun c29 => ?_)
        ·
          replace hw := (if_neg c29).mp hw
          exact t_X12_readCompared_J43 hM o Q  h27 H locs ls hC (lo_sub hl [0] rfl) hw
        ·
          replace hw := (if_pos c29).mp hw
          refine lv_aload_n hx hb dX12_readCompared_37 rfl (lo_at hl 0 rfl) ?_
          refine lv_iconst (v := 1) hx hb dX12_readCompared_38 (by decide) ?_
          obtain ⟨k30, hw⟩ := hw
          refine res2_i hC (run2_V (As := [.int ((1 : Int32))]) (rest := []) hM hC hl.1.1 kv_RX12_223 (c_X12_fails l G base A o (1 : Int32) h27 _ hw) (hc_10) k30 rfl rfl rfl ⟨Nat.le_of_ble_eq_true rfl, Nat.le_of_ble_eq_true rfl⟩ (Nat.le_of_ble_eq_true rfl) ⟨Nat.le_of_ble_eq_true rfl, Nat.le_of_ble_eq_true rfl⟩ dX12_readCompared_39) (fun z32 h31 H locs hw hC => ?_)
          exact ret2_i hM hC hw dX12_readCompared_42
  ·
    replace hw := (if_pos c4).mp hw
    refine lv_iconst (v := -1) hx hb dX12_readCompared_8 (by decide) ?_
    exact ret2_i hM hC hw dX12_readCompared_9
abbrev rm_X12_waits : Room := { frames := 0, cells := 0, slots := 0, locals := 0 }
set_option maxRecDepth 100000 in
def wp_X12_waits (o : Nat) (x1 : Int32) (h : Hp) (Q : Hp → Prop) : Prop := ((hpK h o).1 = 20 + 10) ∧ (okA h (hpR h o 35) 1 (hpI h o 36) ∧ (∀ h3 : Hp, h3 = stI h (ad (hpR h o 35)) (hpI h o 36).toNatClampNeg x1 → (((hpK h3 o).1 = 20 + 10) ∧ (∀ h5 : Hp, h5 = stI h3 o 36 ((hpI h3 o 36) + (1 : Int32)) → (Q h5)))))
set_option maxHeartbeats 4000000 in
set_option maxRecDepth 100000 in
theorem c_X12_waits (l : Launch) (G : GG) (base : Nat) (A : Nat → Nat) (o : Nat) (x1 : Int32) (h : Hp) (Q : Hp → Prop) (hw : wp_X12_waits o x1 h Q) : Met l yX12_waits (ww yX12_waits cX12_waits 2 none) rm_X12_waits (va_Pc [.ref (A o), .int x1] (PU2 G base A h A h)) (va_Qv Q (PU2 G base A h A) (fun q => base ≤ q)) 0 0 (fun q => base ≤ q) := by
  refine met2_of (own := RX12) (nm := "waits") (by decide) rfl rfl (List.forall_mem_cons.mpr ⟨rfl, (List.forall_mem_cons.mpr ⟨rfl, (fun _ h => absurd h List.not_mem_nil)⟩)⟩) (Nat.le_of_ble_eq_true rfl) rfl ?_
  intro p e s m args below meth c H locs ls hM hC hl
  obtain ⟨hx, hb, hr, hml, hown, hts, hg, hs, hlk, hnm⟩ := id hM
  unfold wp_X12_waits at hw
  refine lv_aload_n hx hb dX12_waits_0 rfl (lo_at hl 0 rfl) ?_
  obtain ⟨k1, hw⟩ := hw
  refine s_getR hx hb hts hown hg hC fb_10_35 k1 mk_f_RX12_76 dX12_waits_1 ?_
  refine lv_aload_n hx hb dX12_waits_4 rfl (lo_at hl 0 rfl) ?_
  refine s_getI hx hb hts hown hg hC fb_10_36 k1 mk_f_RX12_246 dX12_waits_5 ?_
  refine lv_iload_n hx hb dX12_waits_8 rfl (lo_at hl 1 rfl) ?_
  obtain ⟨k2, hw⟩ := hw
  refine sf_3 k2.1 ?_
  refine s_iast hx hb hg hC k2.2.1 k2.2.2 dX12_waits_9 (fun h3 H locs eh3 hC => ?_)
  replace hw := hw h3 eh3
  refine lv_aload_n hx hb dX12_waits_10 rfl (lo_at hl 0 rfl) ?_
  refine lv_aload_n hx hb dX12_waits_11 rfl (lo_at hl 0 rfl) ?_
  obtain ⟨k4, hw⟩ := hw
  refine s_getI hx hb hts hown hg hC fb_10_36 k4 mk_f_RX12_246 dX12_waits_12 ?_
  refine lv_iconst (v := 1) hx hb dX12_waits_15 (by decide) ?_
  refine lv_iadd hx hb dX12_waits_16 ?_
  refine s_putI hx hb hts hown hg hC fb_10_36 k4 rfl rfl mk_f_RX12_246 dX12_waits_17 (fun h5 H locs eh5 hC => ?_)
  replace hw := hw h5 eh5
  exact ret2_v hM hC hw dX12_waits_20
abbrev rm_X12_settles : Room := { frames := 1, cells := 0, slots := 0, locals := 22 }
set_option maxRecDepth 100000 in
def wp_X12_settles_L0 (o : Nat) (x1 : Int32) (K57 : Hp → Prop) (Q : Hp → Prop) : Nat → Hp → Prop
  | 0, _ => False
  | n + 1, h => ((hpK h o).1 = 20 + 10) ∧ ((if (hpI h o 36) ≤ 0 then (K57 h) else (okA h (hpR h o 35) 1 ((hpI h o 36) - (1 : Int32)) ∧ (∀ v4 : Int32, v4 = hpI h (ad (hpR h o 35)) ((hpI h o 36) - (1 : Int32)).toNatClampNeg → ((if v4 = x1 then (∀ h6 : Hp, h6 = stI h o 36 ((hpI h o 36) - (1 : Int32)) → (((hpK h6 o).1 = 20 + 10) ∧ (wp_X12_emits o x1 (0 : Int32) h6 (fun (h8 : Hp) => (if x1 = (9 : Int32) then (((hpK h8 o).1 = 20 + 10) ∧ (∀ h12 : Hp, h12 = stI h8 o 34 ((hpI h8 o 34) - (1 : Int32)) → (wp_X12_settles_L0 o x1 K57 Q n h12))) else (wp_X12_settles_L0 o x1 K57 Q n h8)))))) else (K57 h)))))))
set_option maxRecDepth 100000 in
def wp_X12_settles (o : Nat) (x1 : Int32) (h : Hp) (Q : Hp → Prop) : Prop := wp_X12_settles_L0 o x1 (fun (h13 : Hp) => Q h13) Q fuel h
set_option maxHeartbeats 4000000 in
set_option maxRecDepth 100000 in
theorem t_X12_settles_L0 {p : Program} {l : Launch} {e : Env} {s : State} {m : MethodId} {args : Array Value} {below : List Frame} {meth : Method} {c : Code} {G : GG} {base : Nat} {A : Nat → Nat} {g0 : Hp} (hM : Mx G base p s m args meth c cX12_settles 2 none RX12 "settles") (o : Nat) (x1 : Int32) (K57 : Hp → Prop) (Q : Hp → Prop) (hK57 : ∀ (h : Hp) (H : Heap) (locs : List Loc) (ls : Array Slot), Cx2 G base A g0 A h s.heap H locs → lo_has ls 2 [] → K57 h → W p l e rm_X12_settles s m args below meth c H locs 0 0 (MQ below (va_Qv Q (PU2 G base A g0 A) (fun q => base ≤ q)) args s 0 0 (fun q => base ≤ q)) (F0 m 57 ls [])) : ∀ (n : Nat) (h : Hp) (H : Heap) (locs : List Loc) (ls : Array Slot), Cx2 G base A g0 A h s.heap H locs → lo_has ls 2 [(0, .ref (A o)), (1, .int x1)] → wp_X12_settles_L0 o x1 K57 Q n h → W p l e rm_X12_settles s m args below meth c H locs 0 0 (MQ below (va_Qv Q (PU2 G base A g0 A) (fun q => base ≤ q)) args s 0 0 (fun q => base ≤ q)) (F0 m 0 ls []) := by
  intro n
  induction n with
  | zero =>
    intro  h H locs ls hC hl hw
    rw [wp_X12_settles_L0] at hw
    exact hw.elim
  | succ n ih =>
    intro  h H locs ls hC hl hw
    rw [wp_X12_settles_L0] at hw
    obtain ⟨hx, hb, hr, hml, hown, hts, hg, hs, hlk, hnm⟩ := id hM
    refine lv_aload_n hx hb dX12_settles_0 rfl (lo_at hl 0 rfl) ?_
    obtain ⟨k1, hw⟩ := hw
    refine s_getI hx hb hts hown hg hC fb_10_36 k1 mk_f_RX12_246 dX12_settles_1 ?_
    refine lv_if_le (tgt := 57) hx hb dX12_settles_4 (by decide) (fun c2 => ?_) (fun c2 => ?_)
    ·
      replace hw := (if_pos c2).mp hw
      exact hK57  h H locs ls hC (lo_sub hl [] rfl) hw
    ·
      replace hw := (if_neg c2).mp hw
      refine lv_aload_n hx hb dX12_settles_7 rfl (lo_at hl 0 rfl) ?_
      refine s_getR hx hb hts hown hg hC fb_10_35 k1 mk_f_RX12_76 dX12_settles_8 ?_
      refine lv_aload_n hx hb dX12_settles_11 rfl (lo_at hl 0 rfl) ?_
      refine s_getI hx hb hts hown hg hC fb_10_36 k1 mk_f_RX12_246 dX12_settles_12 ?_
      refine lv_iconst (v := 1) hx hb dX12_settles_15 (by decide) ?_
      refine lv_isub hx hb dX12_settles_16 ?_
      obtain ⟨k3, hw⟩ := hw
      refine sf_2 k3.1 ?_
      refine s_iald hx hb hg hC k3.2.1 k3.2.2 dX12_settles_17 ?_
      refine lv_topi (fun v4 ev4 => ?_)
      replace hw := hw v4 ev4
      refine lv_iload_n hx hb dX12_settles_18 rfl (lo_at hl 1 rfl) ?_
      refine lv_icmp_ne (tgt := 57) hx hb dX12_settles_19 (by decide) (fun c5 => ?_) (fun c5 => ?_)
      ·
        replace hw := (if_neg c5).mp hw
        exact hK57  h H locs ls hC (lo_sub hl [] rfl) hw
      ·
        replace hw := (if_pos c5).mp hw
        refine lv_aload_n hx hb dX12_settles_22 rfl (lo_at hl 0 rfl) ?_
        refine lv_aload_n hx hb dX12_settles_23 rfl (lo_at hl 0 rfl) ?_
        refine s_getI hx hb hts hown hg hC fb_10_36 k1 mk_f_RX12_246 dX12_settles_24 ?_
        refine lv_iconst (v := 1) hx hb dX12_settles_27 (by decide) ?_
        refine lv_isub hx hb dX12_settles_28 ?_
        refine s_putI hx hb hts hown hg hC fb_10_36 k1 rfl rfl mk_f_RX12_246 dX12_settles_29 (fun h6 H locs eh6 hC => ?_)
        replace hw := hw h6 eh6
        refine lv_aload_n hx hb dX12_settles_32 rfl (lo_at hl 0 rfl) ?_
        refine lv_iload_n hx hb dX12_settles_33 rfl (lo_at hl 1 rfl) ?_
        refine lv_iconst (v := 0) hx hb dX12_settles_34 (by decide) ?_
        obtain ⟨k7, hw⟩ := hw
        refine res2_v hC (run2_V (As := [.int x1, .int ((0 : Int32))]) (rest := []) hM hC hl.1.1 kv_RX12_226 (c_X12_emits l G base A o x1 (0 : Int32) h6 _ hw) (hc_10) k7 rfl rfl rfl ⟨Nat.le_of_ble_eq_true rfl, Nat.le_of_ble_eq_true rfl⟩ (Nat.le_of_ble_eq_true rfl) ⟨Nat.le_of_ble_eq_true rfl, Nat.le_of_ble_eq_true rfl⟩ dX12_settles_35) (fun h8 H locs hw hC => ?_)
        refine lv_iload_n hx hb dX12_settles_38 rfl (lo_at hl 1 rfl) ?_
        refine lv_bipush (v := 9) hx hb dX12_settles_39 (by decide) ?_
        refine lv_icmp_ne (tgt := 0) hx hb dX12_settles_41 (by decide) (fun c10 => ?_) (fun c10 => ?_)
        ·
          replace hw := (if_neg c10).mp hw
          exact ih  h8 H locs ls hC (lo_sub hl [0, 1] rfl) hw
        ·
          replace hw := (if_pos c10).mp hw
          refine lv_aload_n hx hb dX12_settles_44 rfl (lo_at hl 0 rfl) ?_
          refine lv_aload_n hx hb dX12_settles_45 rfl (lo_at hl 0 rfl) ?_
          obtain ⟨k11, hw⟩ := hw
          refine s_getI hx hb hts hown hg hC fb_10_34 k11 mk_f_RX12_249 dX12_settles_46 ?_
          refine lv_iconst (v := 1) hx hb dX12_settles_49 (by decide) ?_
          refine lv_isub hx hb dX12_settles_50 ?_
          refine s_putI hx hb hts hown hg hC fb_10_34 k11 rfl rfl mk_f_RX12_249 dX12_settles_51 (fun h12 H locs eh12 hC => ?_)
          replace hw := hw h12 eh12
          refine lv_goto (tgt := 0) hx hb dX12_settles_54 (by decide) ?_
          exact ih  h12 H locs ls hC (lo_sub hl [0, 1] rfl) hw
set_option maxHeartbeats 4000000 in
set_option maxRecDepth 100000 in
theorem c_X12_settles (l : Launch) (G : GG) (base : Nat) (A : Nat → Nat) (o : Nat) (x1 : Int32) (h : Hp) (Q : Hp → Prop) (hw : wp_X12_settles o x1 h Q) : Met l yX12_settles (ww yX12_settles cX12_settles 2 none) rm_X12_settles (va_Pc [.ref (A o), .int x1] (PU2 G base A h A h)) (va_Qv Q (PU2 G base A h A) (fun q => base ≤ q)) 0 0 (fun q => base ≤ q) := by
  refine met2_of (own := RX12) (nm := "settles") (by decide) rfl rfl (List.forall_mem_cons.mpr ⟨rfl, (List.forall_mem_cons.mpr ⟨rfl, (fun _ h => absurd h List.not_mem_nil)⟩)⟩) (Nat.le_of_ble_eq_true rfl) rfl ?_
  intro p e s m args below meth c H locs ls hM hC hl
  obtain ⟨hx, hb, hr, hml, hown, hts, hg, hs, hlk, hnm⟩ := id hM
  unfold wp_X12_settles at hw
  refine t_X12_settles_L0 hM o x1 _ Q ?_ fuel  h H locs ls hC (lo_sub hl [0, 1] rfl) hw
  intro  h13 H locs ls hC hl hw
  exact ret2_v hM hC hw dX12_settles_57
abbrev rm_X12_readAny : Room := { frames := 7, cells := 0, slots := 0, locals := 149 }
set_option maxRecDepth 100000 in
def wp_X12_readAny_J66 (o : Nat) (x1 : Int32) (x2 : Int32) (x3 : Int32) (KH : Int32 → Int32 → Hp → Prop) (K42 : Hp → Prop) (K96 : Hp → Prop) (K191 : Hp → Prop) (K202 : Hp → Prop) (Q : Int32 → Hp → Prop) (h : Hp) : Prop := (if x3 = 0 then (((hpK h o).1 = 20 + 10) ∧ (wp_X12_waits o (12 : Int32) h (fun (h65 : Hp) => ((hpK h65 o).1 = 20 + 10) ∧ (wp_X12_reads o h65 (fun (h68 : Hp) => KH x1 x2 h68))))) else (((hpK h o).1 = 20 + 10) ∧ (wp_X12_waits o (9 : Int32) h (fun (h71 : Hp) => ((hpK h71 o).1 = 20 + 10) ∧ (wp_X12_reads o h71 (fun (h74 : Hp) => KH x1 x2 h74))))))
set_option maxRecDepth 100000 in
def wp_X12_readAny_J33 (o : Nat) (x1 : Int32) (x2 : Int32) (x3 : Int32) (KH : Int32 → Int32 → Hp → Prop) (K42 : Hp → Prop) (K96 : Hp → Prop) (K191 : Hp → Prop) (K202 : Hp → Prop) (Q : Int32 → Hp → Prop) (h : Hp) : Prop := ((hpK h o).1 = 20 + 10) ∧ ((if (hpI h o 34) = (8 : Int32) then (K42 h) else (∀ h61 : Hp, h61 = stI h o 34 ((hpI h o 34) + (1 : Int32)) → ((if x3 = 0 then (∀ v76 : Int32, v76 = x1 + (1 : Int32) → (wp_X12_readAny_J66 o v76 x2 x3 KH K42 K96 K191 K202 Q h61)) else (wp_X12_readAny_J66 o x1 x2 x3 KH K42 K96 K191 K202 Q h61))))))
set_option maxRecDepth 100000 in
def wp_X12_readAny_L9 (o : Nat) (K42 : Hp → Prop) (K96 : Hp → Prop) (K191 : Hp → Prop) (K202 : Hp → Prop) (Q : Int32 → Hp → Prop) : Nat → Int32 → Int32 → Hp → Prop
  | 0, _, _, _ => False
  | n + 1, x1, x2, h => (if x2 = 0 then (((hpK h o).1 = 20 + 10) ∧ (wp_X12_isWord o (7 : Int32) h (fun (z6 : Int32) (h5 : Hp) => (if z6 = 0 then (((hpK h5 o).1 = 20 + 10) ∧ (wp_X12_isWord o (6 : Int32) h5 (fun (z10 : Int32) (h9 : Hp) => (if z10 = 0 then (((hpK h9 o).1 = 20 + 10) ∧ (wp_X12_settles o (10 : Int32) h9 (fun (h13 : Hp) => ((hpK h13 o).1 = 20 + 10) ∧ (wp_X12_settles o (11 : Int32) h13 (fun (h16 : Hp) => (if x1 = 0 then (K191 h16) else (((hpK h16 o).1 = 20 + 10) ∧ (wp_X12_isSign o (41 : Int32) h16 (fun (z21 : Int32) (h20 : Hp) => (if z21 = 0 then (K202 h20) else (((hpK h20 o).1 = 20 + 10) ∧ (∀ h24 : Hp, h24 = stI h20 o 36 ((hpI h20 o 36) - (1 : Int32)) → (∀ v25 : Int32, v25 = x1 - (1 : Int32) → (((hpK h24 o).1 = 20 + 10) ∧ (∀ h27 : Hp, h27 = stI h24 o 34 ((hpI h24 o 34) - (1 : Int32)) → (((hpK h27 o).1 = 20 + 10) ∧ (wp_X12_settles o (9 : Int32) h27 (fun (h29 : Hp) => ((hpK h29 o).1 = 20 + 10) ∧ (wp_X12_reads o h29 (fun (h32 : Hp) => wp_X12_readAny_L9 o K42 K96 K191 K202 Q n v25 x2 h32)))))))))))))))))))) else (((hpK h9 o).1 = 20 + 10) ∧ (wp_X12_settles o (10 : Int32) h9 (fun (h35 : Hp) => ((hpK h35 o).1 = 20 + 10) ∧ (wp_X12_settles o (11 : Int32) h35 (fun (h38 : Hp) => ((hpK h38 o).1 = 20 + 10) ∧ (wp_X12_waits o (11 : Int32) h38 (fun (h41 : Hp) => ((hpK h41 o).1 = 20 + 10) ∧ (wp_X12_reads o h41 (fun (h44 : Hp) => wp_X12_readAny_L9 o K42 K96 K191 K202 Q n x1 (1 : Int32) h44))))))))))))) else (((hpK h5 o).1 = 20 + 10) ∧ (wp_X12_settles o (10 : Int32) h5 (fun (h47 : Hp) => ((hpK h47 o).1 = 20 + 10) ∧ (wp_X12_waits o (10 : Int32) h47 (fun (h50 : Hp) => ((hpK h50 o).1 = 20 + 10) ∧ (wp_X12_reads o h50 (fun (h53 : Hp) => wp_X12_readAny_L9 o K42 K96 K191 K202 Q n x1 (1 : Int32) h53))))))))))) else (((hpK h o).1 = 20 + 10) ∧ (wp_X12_isWord o (8 : Int32) h (fun (z57 : Int32) (h56 : Hp) => (if z57 = 0 then (((hpK h56 o).1 = 20 + 10) ∧ (wp_X12_isSign o (40 : Int32) h56 (fun (z79 : Int32) (h78 : Hp) => (if z79 = 0 then (((hpK h78 o).1 = 20 + 10) ∧ (wp_X12_readCompared o h78 (fun (z83 : Int32) (h82 : Hp) => (if z83 = (-1 : Int32) then (K96 h82) else (((hpK h82 o).1 = 20 + 10) ∧ (wp_X12_settles o (9 : Int32) h82 (fun (h86 : Hp) => wp_X12_readAny_L9 o K42 K96 K191 K202 Q n x1 (0 : Int32) h86))))))) else (wp_X12_readAny_J33 o x1 x2 z57 (wp_X12_readAny_L9 o K42 K96 K191 K202 Q n) K42 K96 K191 K202 Q h78))))) else (wp_X12_readAny_J33 o x1 x2 z57 (wp_X12_readAny_L9 o K42 K96 K191 K202 Q n) K42 K96 K191 K202 Q h56))))))
set_option maxRecDepth 100000 in
def wp_X12_readAny (o : Nat) (h : Hp) (Q : Int32 → Hp → Prop) : Prop := ((hpK h o).1 = 20 + 10) ∧ (∀ h2 : Hp, h2 = stI h o 36 (0 : Int32) → (wp_X12_readAny_L9 o (fun (h88 : Hp) => ((hpK h88 o).1 = 20 + 10) ∧ (wp_X12_fails o (3 : Int32) h88 (fun (z91 : Int32) (h90 : Hp) => Q z91 h90))) (fun (h92 : Hp) => Q (-1 : Int32) h92) (fun (h93 : Hp) => Q (0 : Int32) h93) (fun (h94 : Hp) => ((hpK h94 o).1 = 20 + 10) ∧ (wp_X12_fails o (1 : Int32) h94 (fun (z97 : Int32) (h96 : Hp) => Q z97 h96))) Q fuel (0 : Int32) (1 : Int32) h2))
set_option maxHeartbeats 4000000 in
set_option maxRecDepth 100000 in
theorem t_X12_readAny_J66 {p : Program} {l : Launch} {e : Env} {s : State} {m : MethodId} {args : Array Value} {below : List Frame} {meth : Method} {c : Code} {G : GG} {base : Nat} {A : Nat → Nat} {g0 : Hp} (hM : Mx G base p s m args meth c cX12_readAny 4 (some .int) RX12 "readAny") (o : Nat) (x1 : Int32) (x2 : Int32) (x3 : Int32) (KH : Int32 → Int32 → Hp → Prop) (K42 : Hp → Prop) (K96 : Hp → Prop) (K191 : Hp → Prop) (K202 : Hp → Prop) (Q : Int32 → Hp → Prop) (hKH : ∀ (y1 : Int32) (y2 : Int32) (h : Hp) (H : Heap) (locs : List Loc) (ls : Array Slot), Cx2 G base A g0 A h s.heap H locs → lo_has ls 4 [(0, .ref (A o)), (1, .int y1), (2, .int y2)] → KH y1 y2 h → W p l e rm_X12_readAny s m args below meth c H locs 0 0 (MQ below (va_Qi Q (PU2 G base A g0 A) (fun q => base ≤ q)) args s 0 0 (fun q => base ≤ q)) (F0 m 9 ls [])) (hK42 : ∀ (h : Hp) (H : Heap) (locs : List Loc) (ls : Array Slot), Cx2 G base A g0 A h s.heap H locs → lo_has ls 4 [(0, .ref (A o))] → K42 h → W p l e rm_X12_readAny s m args below meth c H locs 0 0 (MQ below (va_Qi Q (PU2 G base A g0 A) (fun q => base ≤ q)) args s 0 0 (fun q => base ≤ q)) (F0 m 42 ls [])) (hK96 : ∀ (h : Hp) (H : Heap) (locs : List Loc) (ls : Array Slot), Cx2 G base A g0 A h s.heap H locs → lo_has ls 4 [] → K96 h → W p l e rm_X12_readAny s m args below meth c H locs 0 0 (MQ below (va_Qi Q (PU2 G base A g0 A) (fun q => base ≤ q)) args s 0 0 (fun q => base ≤ q)) (F0 m 96 ls [])) (hK191 : ∀ (h : Hp) (H : Heap) (locs : List Loc) (ls : Array Slot), Cx2 G base A g0 A h s.heap H locs → lo_has ls 4 [] → K191 h → W p l e rm_X12_readAny s m args below meth c H locs 0 0 (MQ below (va_Qi Q (PU2 G base A g0 A) (fun q => base ≤ q)) args s 0 0 (fun q => base ≤ q)) (F0 m 191 ls [])) (hK202 : ∀ (h : Hp) (H : Heap) (locs : List Loc) (ls : Array Slot), Cx2 G base A g0 A h s.heap H locs → lo_has ls 4 [(0, .ref (A o))] → K202 h → W p l e rm_X12_readAny s m args below meth c H locs 0 0 (MQ below (va_Qi Q (PU2 G base A g0 A) (fun q => base ≤ q)) args s 0 0 (fun q => base ≤ q)) (F0 m 202 ls [])) (h : Hp) (H : Heap) (locs : List Loc) (ls : Array Slot) : Cx2 G base A g0 A h s.heap H locs → lo_has ls 4 [(0, .ref (A o)), (1, .int x1), (2, .int x2), (3, .int x3)] → wp_X12_readAny_J66 o x1 x2 x3 KH K42 K96 K191 K202 Q h → W p l e rm_X12_readAny s m args below meth c H locs 0 0 (MQ below (va_Qi Q (PU2 G base A g0 A) (fun q => base ≤ q)) args s 0 0 (fun q => base ≤ q)) (F0 m 66 ls []) := by
  intro hC hl hw
  unfold wp_X12_readAny_J66 at hw
  obtain ⟨hx, hb, hr, hml, hown, hts, hg, hs, hlk, hnm⟩ := id hM
  refine lv_aload_n hx hb dX12_readAny_66 rfl (lo_at hl 0 rfl) ?_
  refine lv_iload_n hx hb dX12_readAny_67 rfl (lo_at hl 3 rfl) ?_
  refine lv_if_eq (tgt := 76) hx hb dX12_readAny_68 (by decide) (fun c63 => ?_) (fun c63 => ?_)
  ·
    replace hw := (if_pos c63).mp hw
    refine lv_bipush (v := 12) hx hb dX12_readAny_76 (by decide) ?_
    obtain ⟨k64, hw⟩ := hw
    refine res2_v hC (run2_V (As := [.int ((12 : Int32))]) (rest := []) hM hC hl.1.1 kv_RX12_255 (c_X12_waits l G base A o (12 : Int32) h _ hw) (hc_10) k64 rfl rfl rfl ⟨Nat.le_of_ble_eq_true rfl, Nat.le_of_ble_eq_true rfl⟩ (Nat.le_of_ble_eq_true rfl) ⟨Nat.le_of_ble_eq_true rfl, Nat.le_of_ble_eq_true rfl⟩ dX12_readAny_78) (fun h65 H locs hw hC => ?_)
    refine lv_aload_n hx hb dX12_readAny_81 rfl (lo_at hl 0 rfl) ?_
    obtain ⟨k67, hw⟩ := hw
    refine res2_v hC (run2_V (As := []) (rest := []) hM hC hl.1.1 kv_RX12_230 (c_X12_reads l G base A o h65 _ hw) (hc_10) k67 rfl rfl rfl ⟨Nat.le_of_ble_eq_true rfl, Nat.le_of_ble_eq_true rfl⟩ (Nat.le_of_ble_eq_true rfl) ⟨Nat.le_of_ble_eq_true rfl, Nat.le_of_ble_eq_true rfl⟩ dX12_readAny_82) (fun h68 H locs hw hC => ?_)
    refine lv_goto (tgt := 9) hx hb dX12_readAny_85 (by decide) ?_
    exact hKH x1 x2 h68 H locs ls hC (lo_sub hl [0, 1, 2] rfl) hw
  ·
    replace hw := (if_neg c63).mp hw
    refine lv_bipush (v := 9) hx hb dX12_readAny_71 (by decide) ?_
    refine lv_goto (tgt := 78) hx hb dX12_readAny_73 (by decide) ?_
    obtain ⟨k70, hw⟩ := hw
    refine res2_v hC (run2_V (As := [.int ((9 : Int32))]) (rest := []) hM hC hl.1.1 kv_RX12_255 (c_X12_waits l G base A o (9 : Int32) h _ hw) (hc_10) k70 rfl rfl rfl ⟨Nat.le_of_ble_eq_true rfl, Nat.le_of_ble_eq_true rfl⟩ (Nat.le_of_ble_eq_true rfl) ⟨Nat.le_of_ble_eq_true rfl, Nat.le_of_ble_eq_true rfl⟩ dX12_readAny_78) (fun h71 H locs hw hC => ?_)
    refine lv_aload_n hx hb dX12_readAny_81 rfl (lo_at hl 0 rfl) ?_
    obtain ⟨k73, hw⟩ := hw
    refine res2_v hC (run2_V (As := []) (rest := []) hM hC hl.1.1 kv_RX12_230 (c_X12_reads l G base A o h71 _ hw) (hc_10) k73 rfl rfl rfl ⟨Nat.le_of_ble_eq_true rfl, Nat.le_of_ble_eq_true rfl⟩ (Nat.le_of_ble_eq_true rfl) ⟨Nat.le_of_ble_eq_true rfl, Nat.le_of_ble_eq_true rfl⟩ dX12_readAny_82) (fun h74 H locs hw hC => ?_)
    refine lv_goto (tgt := 9) hx hb dX12_readAny_85 (by decide) ?_
    exact hKH x1 x2 h74 H locs ls hC (lo_sub hl [0, 1, 2] rfl) hw
set_option maxHeartbeats 4000000 in
set_option maxRecDepth 100000 in
theorem t_X12_readAny_J33 {p : Program} {l : Launch} {e : Env} {s : State} {m : MethodId} {args : Array Value} {below : List Frame} {meth : Method} {c : Code} {G : GG} {base : Nat} {A : Nat → Nat} {g0 : Hp} (hM : Mx G base p s m args meth c cX12_readAny 4 (some .int) RX12 "readAny") (o : Nat) (x1 : Int32) (x2 : Int32) (x3 : Int32) (KH : Int32 → Int32 → Hp → Prop) (K42 : Hp → Prop) (K96 : Hp → Prop) (K191 : Hp → Prop) (K202 : Hp → Prop) (Q : Int32 → Hp → Prop) (hKH : ∀ (y1 : Int32) (y2 : Int32) (h : Hp) (H : Heap) (locs : List Loc) (ls : Array Slot), Cx2 G base A g0 A h s.heap H locs → lo_has ls 4 [(0, .ref (A o)), (1, .int y1), (2, .int y2)] → KH y1 y2 h → W p l e rm_X12_readAny s m args below meth c H locs 0 0 (MQ below (va_Qi Q (PU2 G base A g0 A) (fun q => base ≤ q)) args s 0 0 (fun q => base ≤ q)) (F0 m 9 ls [])) (hK42 : ∀ (h : Hp) (H : Heap) (locs : List Loc) (ls : Array Slot), Cx2 G base A g0 A h s.heap H locs → lo_has ls 4 [(0, .ref (A o))] → K42 h → W p l e rm_X12_readAny s m args below meth c H locs 0 0 (MQ below (va_Qi Q (PU2 G base A g0 A) (fun q => base ≤ q)) args s 0 0 (fun q => base ≤ q)) (F0 m 42 ls [])) (hK96 : ∀ (h : Hp) (H : Heap) (locs : List Loc) (ls : Array Slot), Cx2 G base A g0 A h s.heap H locs → lo_has ls 4 [] → K96 h → W p l e rm_X12_readAny s m args below meth c H locs 0 0 (MQ below (va_Qi Q (PU2 G base A g0 A) (fun q => base ≤ q)) args s 0 0 (fun q => base ≤ q)) (F0 m 96 ls [])) (hK191 : ∀ (h : Hp) (H : Heap) (locs : List Loc) (ls : Array Slot), Cx2 G base A g0 A h s.heap H locs → lo_has ls 4 [] → K191 h → W p l e rm_X12_readAny s m args below meth c H locs 0 0 (MQ below (va_Qi Q (PU2 G base A g0 A) (fun q => base ≤ q)) args s 0 0 (fun q => base ≤ q)) (F0 m 191 ls [])) (hK202 : ∀ (h : Hp) (H : Heap) (locs : List Loc) (ls : Array Slot), Cx2 G base A g0 A h s.heap H locs → lo_has ls 4 [(0, .ref (A o))] → K202 h → W p l e rm_X12_readAny s m args below meth c H locs 0 0 (MQ below (va_Qi Q (PU2 G base A g0 A) (fun q => base ≤ q)) args s 0 0 (fun q => base ≤ q)) (F0 m 202 ls [])) (h : Hp) (H : Heap) (locs : List Loc) (ls : Array Slot) : Cx2 G base A g0 A h s.heap H locs → lo_has ls 4 [(0, .ref (A o)), (1, .int x1), (2, .int x2), (3, .int x3)] → wp_X12_readAny_J33 o x1 x2 x3 KH K42 K96 K191 K202 Q h → W p l e rm_X12_readAny s m args below meth c H locs 0 0 (MQ below (va_Qi Q (PU2 G base A g0 A) (fun q => base ≤ q)) args s 0 0 (fun q => base ≤ q)) (F0 m 33 ls []) := by
  intro hC hl hw
  unfold wp_X12_readAny_J33 at hw
  obtain ⟨hx, hb, hr, hml, hown, hts, hg, hs, hlk, hnm⟩ := id hM
  refine lv_aload_n hx hb dX12_readAny_33 rfl (lo_at hl 0 rfl) ?_
  obtain ⟨k59, hw⟩ := hw
  refine s_getI hx hb hts hown hg hC fb_10_34 k59 mk_f_RX12_249 dX12_readAny_34 ?_
  refine lv_bipush (v := 8) hx hb dX12_readAny_37 (by decide) ?_
  refine lv_icmp_ne (tgt := 48) hx hb dX12_readAny_39 (by decide) (fun c60 => ?_) (fun c60 => ?_)
  ·
    replace hw := (if_neg c60).mp hw
    refine lv_aload_n hx hb dX12_readAny_48 rfl (lo_at hl 0 rfl) ?_
    refine lv_aload_n hx hb dX12_readAny_49 rfl (lo_at hl 0 rfl) ?_
    refine s_getI hx hb hts hown hg hC fb_10_34 k59 mk_f_RX12_249 dX12_readAny_50 ?_
    refine lv_iconst (v := 1) hx hb dX12_readAny_53 (by decide) ?_
    refine lv_iadd hx hb dX12_readAny_54 ?_
    refine s_putI hx hb hts hown hg hC fb_10_34 k59 rfl rfl mk_f_RX12_249 dX12_readAny_55 (fun h61 H locs eh61 hC => ?_)
    replace hw := hw h61 eh61
    refine lv_iload_n hx hb dX12_readAny_58 rfl (lo_at hl 3 rfl) ?_
    refine lv_if_ne (tgt := 66) hx hb dX12_readAny_59 (by decide) (fun c62 => ?_) (fun c62 => ?_)
    ·
      replace hw := (if_neg c62).mp hw
      exact t_X12_readAny_J66 hM o x1 x2 x3 KH K42 K96 K191 K202 Q hKH hK42 hK96 hK191 hK202 h61 H locs ls hC (lo_sub hl [0, 1, 2, 3] rfl) hw
    ·
      replace hw := (if_pos c62).mp hw
      refine lv_iload_n hx hb dX12_readAny_62 rfl (lo_at hl 1 rfl) ?_
      refine lv_iconst (v := 1) hx hb dX12_readAny_63 (by decide) ?_
      refine lv_iadd hx hb dX12_readAny_64 ?_
      refine lv_topi (fun v76 ev76 => ?_)
      replace hw := hw v76 ev76
      refine lo_istore_n (lv' := [(1, .int v76), (0, .ref (A o)), (2, .int x2), (3, .int x3)]) hx hb dX12_readAny_65 rfl hl (by decide) rfl (fun ls hl => ?_)
      exact t_X12_readAny_J66 hM o v76 x2 x3 KH K42 K96 K191 K202 Q hKH hK42 hK96 hK191 hK202 h61 H locs ls hC (lo_sub hl [1, 0, 2, 3] rfl) hw
  ·
    replace hw := (if_pos c60).mp hw
    exact hK42  h H locs ls hC (lo_sub hl [0] rfl) hw
set_option maxHeartbeats 4000000 in
set_option maxRecDepth 100000 in
theorem t_X12_readAny_L9 {p : Program} {l : Launch} {e : Env} {s : State} {m : MethodId} {args : Array Value} {below : List Frame} {meth : Method} {c : Code} {G : GG} {base : Nat} {A : Nat → Nat} {g0 : Hp} (hM : Mx G base p s m args meth c cX12_readAny 4 (some .int) RX12 "readAny") (o : Nat) (K42 : Hp → Prop) (K96 : Hp → Prop) (K191 : Hp → Prop) (K202 : Hp → Prop) (Q : Int32 → Hp → Prop) (hK42 : ∀ (h : Hp) (H : Heap) (locs : List Loc) (ls : Array Slot), Cx2 G base A g0 A h s.heap H locs → lo_has ls 4 [(0, .ref (A o))] → K42 h → W p l e rm_X12_readAny s m args below meth c H locs 0 0 (MQ below (va_Qi Q (PU2 G base A g0 A) (fun q => base ≤ q)) args s 0 0 (fun q => base ≤ q)) (F0 m 42 ls [])) (hK96 : ∀ (h : Hp) (H : Heap) (locs : List Loc) (ls : Array Slot), Cx2 G base A g0 A h s.heap H locs → lo_has ls 4 [] → K96 h → W p l e rm_X12_readAny s m args below meth c H locs 0 0 (MQ below (va_Qi Q (PU2 G base A g0 A) (fun q => base ≤ q)) args s 0 0 (fun q => base ≤ q)) (F0 m 96 ls [])) (hK191 : ∀ (h : Hp) (H : Heap) (locs : List Loc) (ls : Array Slot), Cx2 G base A g0 A h s.heap H locs → lo_has ls 4 [] → K191 h → W p l e rm_X12_readAny s m args below meth c H locs 0 0 (MQ below (va_Qi Q (PU2 G base A g0 A) (fun q => base ≤ q)) args s 0 0 (fun q => base ≤ q)) (F0 m 191 ls [])) (hK202 : ∀ (h : Hp) (H : Heap) (locs : List Loc) (ls : Array Slot), Cx2 G base A g0 A h s.heap H locs → lo_has ls 4 [(0, .ref (A o))] → K202 h → W p l e rm_X12_readAny s m args below meth c H locs 0 0 (MQ below (va_Qi Q (PU2 G base A g0 A) (fun q => base ≤ q)) args s 0 0 (fun q => base ≤ q)) (F0 m 202 ls [])) : ∀ (n : Nat) (x1 : Int32) (x2 : Int32) (h : Hp) (H : Heap) (locs : List Loc) (ls : Array Slot), Cx2 G base A g0 A h s.heap H locs → lo_has ls 4 [(0, .ref (A o)), (1, .int x1), (2, .int x2)] → wp_X12_readAny_L9 o K42 K96 K191 K202 Q n x1 x2 h → W p l e rm_X12_readAny s m args below meth c H locs 0 0 (MQ below (va_Qi Q (PU2 G base A g0 A) (fun q => base ≤ q)) args s 0 0 (fun q => base ≤ q)) (F0 m 9 ls []) := by
  intro n
  induction n with
  | zero =>
    intro x1 x2 h H locs ls hC hl hw
    rw [wp_X12_readAny_L9] at hw
    exact hw.elim
  | succ n ih =>
    intro x1 x2 h H locs ls hC hl hw
    rw [wp_X12_readAny_L9] at hw
    obtain ⟨hx, hb, hr, hml, hown, hts, hg, hs, hlk, hnm⟩ := id hM
    refine lv_iload_n hx hb dX12_readAny_9 rfl (lo_at hl 2 rfl) ?_
    refine lv_if_eq (tgt := 109) hx hb dX12_readAny_10 (by decide) (fun c3 => ?_) (fun c3 => ?_)
    ·
      replace hw := (if_pos c3).mp hw
      refine lv_aload_n hx hb dX12_readAny_109 rfl (lo_at hl 0 rfl) ?_
      refine lv_bipush (v := 7) hx hb dX12_readAny_110 (by decide) ?_
      obtain ⟨k4, hw⟩ := hw
      refine res2_i hC (run2_V (As := [.int ((7 : Int32))]) (rest := []) hM hC hl.1.1 kv_RX12_252 (c_X12_isWord l G base A o (7 : Int32) h _ hw) (hc_10) k4 rfl rfl rfl ⟨Nat.le_of_ble_eq_true rfl, Nat.le_of_ble_eq_true rfl⟩ (Nat.le_of_ble_eq_true rfl) ⟨Nat.le_of_ble_eq_true rfl, Nat.le_of_ble_eq_true rfl⟩ dX12_readAny_112) (fun z6 h5 H locs hw hC => ?_)
      refine lv_if_eq (tgt := 139) hx hb dX12_readAny_115 (by decide) (fun c7 => ?_) (fun c7 => ?_)
      ·
        replace hw := (if_pos c7).mp hw
        refine lv_aload_n hx hb dX12_readAny_139 rfl (lo_at hl 0 rfl) ?_
        refine lv_bipush (v := 6) hx hb dX12_readAny_140 (by decide) ?_
        obtain ⟨k8, hw⟩ := hw
        refine res2_i hC (run2_V (As := [.int ((6 : Int32))]) (rest := []) hM hC hl.1.1 kv_RX12_252 (c_X12_isWord l G base A o (6 : Int32) h5 _ hw) (hc_10) k8 rfl rfl rfl ⟨Nat.le_of_ble_eq_true rfl, Nat.le_of_ble_eq_true rfl⟩ (Nat.le_of_ble_eq_true rfl) ⟨Nat.le_of_ble_eq_true rfl, Nat.le_of_ble_eq_true rfl⟩ dX12_readAny_142) (fun z10 h9 H locs hw hC => ?_)
        refine lv_if_eq (tgt := 175) hx hb dX12_readAny_145 (by decide) (fun c11 => ?_) (fun c11 => ?_)
        ·
          replace hw := (if_pos c11).mp hw
          refine lv_aload_n hx hb dX12_readAny_175 rfl (lo_at hl 0 rfl) ?_
          refine lv_bipush (v := 10) hx hb dX12_readAny_176 (by decide) ?_
          obtain ⟨k12, hw⟩ := hw
          refine res2_v hC (run2_V (As := [.int ((10 : Int32))]) (rest := []) hM hC hl.1.1 kv_RX12_261 (c_X12_settles l G base A o (10 : Int32) h9 _ hw) (hc_10) k12 rfl rfl rfl ⟨Nat.le_of_ble_eq_true rfl, Nat.le_of_ble_eq_true rfl⟩ (Nat.le_of_ble_eq_true rfl) ⟨Nat.le_of_ble_eq_true rfl, Nat.le_of_ble_eq_true rfl⟩ dX12_readAny_178) (fun h13 H locs hw hC => ?_)
          refine lv_aload_n hx hb dX12_readAny_181 rfl (lo_at hl 0 rfl) ?_
          refine lv_bipush (v := 11) hx hb dX12_readAny_182 (by decide) ?_
          obtain ⟨k15, hw⟩ := hw
          refine res2_v hC (run2_V (As := [.int ((11 : Int32))]) (rest := []) hM hC hl.1.1 kv_RX12_261 (c_X12_settles l G base A o (11 : Int32) h13 _ hw) (hc_10) k15 rfl rfl rfl ⟨Nat.le_of_ble_eq_true rfl, Nat.le_of_ble_eq_true rfl⟩ (Nat.le_of_ble_eq_true rfl) ⟨Nat.le_of_ble_eq_true rfl, Nat.le_of_ble_eq_true rfl⟩ dX12_readAny_184) (fun h16 H locs hw hC => ?_)
          refine lv_iload_n hx hb dX12_readAny_187 rfl (lo_at hl 1 rfl) ?_
          refine lv_if_ne (tgt := 193) hx hb dX12_readAny_188 (by decide) (fun c18 => ?_) (fun c18 => ?_)
          ·
            replace hw := (if_neg c18).mp hw
            refine lv_aload_n hx hb dX12_readAny_193 rfl (lo_at hl 0 rfl) ?_
            refine lv_bipush (v := 41) hx hb dX12_readAny_194 (by decide) ?_
            obtain ⟨k19, hw⟩ := hw
            refine res2_i hC (run2_V (As := [.int ((41 : Int32))]) (rest := []) hM hC hl.1.1 kv_RX12_237 (c_X12_isSign l G base A o (41 : Int32) h16 _ hw) (hc_10) k19 rfl rfl rfl ⟨Nat.le_of_ble_eq_true rfl, Nat.le_of_ble_eq_true rfl⟩ (Nat.le_of_ble_eq_true rfl) ⟨Nat.le_of_ble_eq_true rfl, Nat.le_of_ble_eq_true rfl⟩ dX12_readAny_196) (fun z21 h20 H locs hw hC => ?_)
            refine lv_if_ne (tgt := 208) hx hb dX12_readAny_199 (by decide) (fun c22 => ?_) (fun c22 => ?_)
            ·
              replace hw := (if_neg c22).mp hw
              refine lv_aload_n hx hb dX12_readAny_208 rfl (lo_at hl 0 rfl) ?_
              refine lv_aload_n hx hb dX12_readAny_209 rfl (lo_at hl 0 rfl) ?_
              obtain ⟨k23, hw⟩ := hw
              refine s_getI hx hb hts hown hg hC fb_10_36 k23 mk_f_RX12_246 dX12_readAny_210 ?_
              refine lv_iconst (v := 1) hx hb dX12_readAny_213 (by decide) ?_
              refine lv_isub hx hb dX12_readAny_214 ?_
              refine s_putI hx hb hts hown hg hC fb_10_36 k23 rfl rfl mk_f_RX12_246 dX12_readAny_215 (fun h24 H locs eh24 hC => ?_)
              replace hw := hw h24 eh24
              refine lv_iload_n hx hb dX12_readAny_218 rfl (lo_at hl 1 rfl) ?_
              refine lv_iconst (v := 1) hx hb dX12_readAny_219 (by decide) ?_
              refine lv_isub hx hb dX12_readAny_220 ?_
              refine lv_topi (fun v25 ev25 => ?_)
              replace hw := hw v25 ev25
              refine lo_istore_n (lv' := [(1, .int v25), (0, .ref (A o)), (2, .int x2)]) hx hb dX12_readAny_221 rfl hl (by decide) rfl (fun ls hl => ?_)
              refine lv_aload_n hx hb dX12_readAny_222 rfl (lo_at hl 1 rfl) ?_
              refine lv_aload_n hx hb dX12_readAny_223 rfl (lo_at hl 1 rfl) ?_
              obtain ⟨k26, hw⟩ := hw
              refine s_getI hx hb hts hown hg hC fb_10_34 k26 mk_f_RX12_249 dX12_readAny_224 ?_
              refine lv_iconst (v := 1) hx hb dX12_readAny_227 (by decide) ?_
              refine lv_isub hx hb dX12_readAny_228 ?_
              refine s_putI hx hb hts hown hg hC fb_10_34 k26 rfl rfl mk_f_RX12_249 dX12_readAny_229 (fun h27 H locs eh27 hC => ?_)
              replace hw := hw h27 eh27
              refine lv_aload_n hx hb dX12_readAny_232 rfl (lo_at hl 1 rfl) ?_
              refine lv_bipush (v := 9) hx hb dX12_readAny_233 (by decide) ?_
              obtain ⟨k28, hw⟩ := hw
              refine res2_v hC (run2_V (As := [.int ((9 : Int32))]) (rest := []) hM hC hl.1.1 kv_RX12_261 (c_X12_settles l G base A o (9 : Int32) h27 _ hw) (hc_10) k28 rfl rfl rfl ⟨Nat.le_of_ble_eq_true rfl, Nat.le_of_ble_eq_true rfl⟩ (Nat.le_of_ble_eq_true rfl) ⟨Nat.le_of_ble_eq_true rfl, Nat.le_of_ble_eq_true rfl⟩ dX12_readAny_235) (fun h29 H locs hw hC => ?_)
              refine lv_aload_n hx hb dX12_readAny_238 rfl (lo_at hl 1 rfl) ?_
              obtain ⟨k31, hw⟩ := hw
              refine res2_v hC (run2_V (As := []) (rest := []) hM hC hl.1.1 kv_RX12_230 (c_X12_reads l G base A o h29 _ hw) (hc_10) k31 rfl rfl rfl ⟨Nat.le_of_ble_eq_true rfl, Nat.le_of_ble_eq_true rfl⟩ (Nat.le_of_ble_eq_true rfl) ⟨Nat.le_of_ble_eq_true rfl, Nat.le_of_ble_eq_true rfl⟩ dX12_readAny_239) (fun h32 H locs hw hC => ?_)
              refine lv_goto (tgt := 9) hx hb dX12_readAny_242 (by decide) ?_
              exact ih v25 x2 h32 H locs ls hC (lo_sub hl [1, 0, 2] rfl) hw
            ·
              replace hw := (if_pos c22).mp hw
              exact hK202  h20 H locs ls hC (lo_sub hl [0] rfl) hw
          ·
            replace hw := (if_pos c18).mp hw
            exact hK191  h16 H locs ls hC (lo_sub hl [] rfl) hw
        ·
          replace hw := (if_neg c11).mp hw
          refine lv_aload_n hx hb dX12_readAny_148 rfl (lo_at hl 0 rfl) ?_
          refine lv_bipush (v := 10) hx hb dX12_readAny_149 (by decide) ?_
          obtain ⟨k34, hw⟩ := hw
          refine res2_v hC (run2_V (As := [.int ((10 : Int32))]) (rest := []) hM hC hl.1.1 kv_RX12_261 (c_X12_settles l G base A o (10 : Int32) h9 _ hw) (hc_10) k34 rfl rfl rfl ⟨Nat.le_of_ble_eq_true rfl, Nat.le_of_ble_eq_true rfl⟩ (Nat.le_of_ble_eq_true rfl) ⟨Nat.le_of_ble_eq_true rfl, Nat.le_of_ble_eq_true rfl⟩ dX12_readAny_151) (fun h35 H locs hw hC => ?_)
          refine lv_aload_n hx hb dX12_readAny_154 rfl (lo_at hl 0 rfl) ?_
          refine lv_bipush (v := 11) hx hb dX12_readAny_155 (by decide) ?_
          obtain ⟨k37, hw⟩ := hw
          refine res2_v hC (run2_V (As := [.int ((11 : Int32))]) (rest := []) hM hC hl.1.1 kv_RX12_261 (c_X12_settles l G base A o (11 : Int32) h35 _ hw) (hc_10) k37 rfl rfl rfl ⟨Nat.le_of_ble_eq_true rfl, Nat.le_of_ble_eq_true rfl⟩ (Nat.le_of_ble_eq_true rfl) ⟨Nat.le_of_ble_eq_true rfl, Nat.le_of_ble_eq_true rfl⟩ dX12_readAny_157) (fun h38 H locs hw hC => ?_)
          refine lv_aload_n hx hb dX12_readAny_160 rfl (lo_at hl 0 rfl) ?_
          refine lv_bipush (v := 11) hx hb dX12_readAny_161 (by decide) ?_
          obtain ⟨k40, hw⟩ := hw
          refine res2_v hC (run2_V (As := [.int ((11 : Int32))]) (rest := []) hM hC hl.1.1 kv_RX12_255 (c_X12_waits l G base A o (11 : Int32) h38 _ hw) (hc_10) k40 rfl rfl rfl ⟨Nat.le_of_ble_eq_true rfl, Nat.le_of_ble_eq_true rfl⟩ (Nat.le_of_ble_eq_true rfl) ⟨Nat.le_of_ble_eq_true rfl, Nat.le_of_ble_eq_true rfl⟩ dX12_readAny_163) (fun h41 H locs hw hC => ?_)
          refine lv_aload_n hx hb dX12_readAny_166 rfl (lo_at hl 0 rfl) ?_
          obtain ⟨k43, hw⟩ := hw
          refine res2_v hC (run2_V (As := []) (rest := []) hM hC hl.1.1 kv_RX12_230 (c_X12_reads l G base A o h41 _ hw) (hc_10) k43 rfl rfl rfl ⟨Nat.le_of_ble_eq_true rfl, Nat.le_of_ble_eq_true rfl⟩ (Nat.le_of_ble_eq_true rfl) ⟨Nat.le_of_ble_eq_true rfl, Nat.le_of_ble_eq_true rfl⟩ dX12_readAny_167) (fun h44 H locs hw hC => ?_)
          refine lv_iconst (v := 1) hx hb dX12_readAny_170 (by decide) ?_
          refine lo_istore_n (lv' := [(2, .int ((1 : Int32))), (0, .ref (A o)), (1, .int x1)]) hx hb dX12_readAny_171 rfl hl (by decide) rfl (fun ls hl => ?_)
          refine lv_goto (tgt := 9) hx hb dX12_readAny_172 (by decide) ?_
          exact ih x1 (1 : Int32) h44 H locs ls hC (lo_sub hl [1, 2, 0] rfl) hw
      ·
        replace hw := (if_neg c7).mp hw
        refine lv_aload_n hx hb dX12_readAny_118 rfl (lo_at hl 0 rfl) ?_
        refine lv_bipush (v := 10) hx hb dX12_readAny_119 (by decide) ?_
        obtain ⟨k46, hw⟩ := hw
        refine res2_v hC (run2_V (As := [.int ((10 : Int32))]) (rest := []) hM hC hl.1.1 kv_RX12_261 (c_X12_settles l G base A o (10 : Int32) h5 _ hw) (hc_10) k46 rfl rfl rfl ⟨Nat.le_of_ble_eq_true rfl, Nat.le_of_ble_eq_true rfl⟩ (Nat.le_of_ble_eq_true rfl) ⟨Nat.le_of_ble_eq_true rfl, Nat.le_of_ble_eq_true rfl⟩ dX12_readAny_121) (fun h47 H locs hw hC => ?_)
        refine lv_aload_n hx hb dX12_readAny_124 rfl (lo_at hl 0 rfl) ?_
        refine lv_bipush (v := 10) hx hb dX12_readAny_125 (by decide) ?_
        obtain ⟨k49, hw⟩ := hw
        refine res2_v hC (run2_V (As := [.int ((10 : Int32))]) (rest := []) hM hC hl.1.1 kv_RX12_255 (c_X12_waits l G base A o (10 : Int32) h47 _ hw) (hc_10) k49 rfl rfl rfl ⟨Nat.le_of_ble_eq_true rfl, Nat.le_of_ble_eq_true rfl⟩ (Nat.le_of_ble_eq_true rfl) ⟨Nat.le_of_ble_eq_true rfl, Nat.le_of_ble_eq_true rfl⟩ dX12_readAny_127) (fun h50 H locs hw hC => ?_)
        refine lv_aload_n hx hb dX12_readAny_130 rfl (lo_at hl 0 rfl) ?_
        obtain ⟨k52, hw⟩ := hw
        refine res2_v hC (run2_V (As := []) (rest := []) hM hC hl.1.1 kv_RX12_230 (c_X12_reads l G base A o h50 _ hw) (hc_10) k52 rfl rfl rfl ⟨Nat.le_of_ble_eq_true rfl, Nat.le_of_ble_eq_true rfl⟩ (Nat.le_of_ble_eq_true rfl) ⟨Nat.le_of_ble_eq_true rfl, Nat.le_of_ble_eq_true rfl⟩ dX12_readAny_131) (fun h53 H locs hw hC => ?_)
        refine lv_iconst (v := 1) hx hb dX12_readAny_134 (by decide) ?_
        refine lo_istore_n (lv' := [(2, .int ((1 : Int32))), (0, .ref (A o)), (1, .int x1)]) hx hb dX12_readAny_135 rfl hl (by decide) rfl (fun ls hl => ?_)
        refine lv_goto (tgt := 9) hx hb dX12_readAny_136 (by decide) ?_
        exact ih x1 (1 : Int32) h53 H locs ls hC (lo_sub hl [1, 2, 0] rfl) hw
    ·
      replace hw := (if_neg c3).mp hw
      refine lv_aload_n hx hb dX12_readAny_13 rfl (lo_at hl 0 rfl) ?_
      refine lv_bipush (v := 8) hx hb dX12_readAny_14 (by decide) ?_
      obtain ⟨k55, hw⟩ := hw
      refine res2_i hC (run2_V (As := [.int ((8 : Int32))]) (rest := []) hM hC hl.1.1 kv_RX12_252 (c_X12_isWord l G base A o (8 : Int32) h _ hw) (hc_10) k55 rfl rfl rfl ⟨Nat.le_of_ble_eq_true rfl, Nat.le_of_ble_eq_true rfl⟩ (Nat.le_of_ble_eq_true rfl) ⟨Nat.le_of_ble_eq_true rfl, Nat.le_of_ble_eq_true rfl⟩ dX12_readAny_16) (fun z57 h56 H locs hw hC => ?_)
      refine lo_istore_n (lv' := [(3, .int z57), (0, .ref (A o)), (1, .int x1), (2, .int x2)]) hx hb dX12_readAny_19 rfl hl (by decide) rfl (fun ls hl => ?_)
      refine lv_iload_n hx hb dX12_readAny_20 rfl (lo_at hl 0 rfl) ?_
      refine lv_if_ne (tgt := 33) hx hb dX12_readAny_21 (by decide) (fun c58 => ?_) (fun c58 => ?_)
      ·
        replace hw := (if_neg c58).mp hw
        exact t_X12_readAny_J33 hM o x1 x2 z57 (wp_X12_readAny_L9 o K42 K96 K191 K202 Q n) K42 K96 K191 K202 Q ih hK42 hK96 hK191 hK202 h56 H locs ls hC (lo_sub hl [1, 2, 3, 0] rfl) hw
      ·
        replace hw := (if_pos c58).mp hw
        refine lv_aload_n hx hb dX12_readAny_24 rfl (lo_at hl 1 rfl) ?_
        refine lv_bipush (v := 40) hx hb dX12_readAny_25 (by decide) ?_
        obtain ⟨k77, hw⟩ := hw
        refine res2_i hC (run2_V (As := [.int ((40 : Int32))]) (rest := []) hM hC hl.1.1 kv_RX12_237 (c_X12_isSign l G base A o (40 : Int32) h56 _ hw) (hc_10) k77 rfl rfl rfl ⟨Nat.le_of_ble_eq_true rfl, Nat.le_of_ble_eq_true rfl⟩ (Nat.le_of_ble_eq_true rfl) ⟨Nat.le_of_ble_eq_true rfl, Nat.le_of_ble_eq_true rfl⟩ dX12_readAny_27) (fun z79 h78 H locs hw hC => ?_)
        refine lv_if_eq (tgt := 88) hx hb dX12_readAny_30 (by decide) (fun c80 => ?_) (fun c80 => ?_)
        ·
          replace hw := (if_pos c80).mp hw
          refine lv_aload_n hx hb dX12_readAny_88 rfl (lo_at hl 1 rfl) ?_
          obtain ⟨k81, hw⟩ := hw
          refine res2_i hC (run2_V (As := []) (rest := []) hM hC hl.1.1 kv_RX12_258 (c_X12_readCompared l G base A o h78 _ hw) (hc_10) k81 rfl rfl rfl ⟨Nat.le_of_ble_eq_true rfl, Nat.le_of_ble_eq_true rfl⟩ (Nat.le_of_ble_eq_true rfl) ⟨Nat.le_of_ble_eq_true rfl, Nat.le_of_ble_eq_true rfl⟩ dX12_readAny_89) (fun z83 h82 H locs hw hC => ?_)
          refine lv_iconst (v := -1) hx hb dX12_readAny_92 (by decide) ?_
          refine lv_icmp_ne (tgt := 98) hx hb dX12_readAny_93 (by decide) (fun c84 => ?_) (fun c84 => ?_)
          ·
            replace hw := (if_neg c84).mp hw
            refine lv_aload_n hx hb dX12_readAny_98 rfl (lo_at hl 1 rfl) ?_
            refine lv_bipush (v := 9) hx hb dX12_readAny_99 (by decide) ?_
            obtain ⟨k85, hw⟩ := hw
            refine res2_v hC (run2_V (As := [.int ((9 : Int32))]) (rest := []) hM hC hl.1.1 kv_RX12_261 (c_X12_settles l G base A o (9 : Int32) h82 _ hw) (hc_10) k85 rfl rfl rfl ⟨Nat.le_of_ble_eq_true rfl, Nat.le_of_ble_eq_true rfl⟩ (Nat.le_of_ble_eq_true rfl) ⟨Nat.le_of_ble_eq_true rfl, Nat.le_of_ble_eq_true rfl⟩ dX12_readAny_101) (fun h86 H locs hw hC => ?_)
            refine lv_iconst (v := 0) hx hb dX12_readAny_104 (by decide) ?_
            refine lo_istore_n (lv' := [(2, .int ((0 : Int32))), (3, .int z57), (0, .ref (A o)), (1, .int x1)]) hx hb dX12_readAny_105 rfl hl (by decide) rfl (fun ls hl => ?_)
            refine lv_goto (tgt := 9) hx hb dX12_readAny_106 (by decide) ?_
            exact ih x1 (0 : Int32) h86 H locs ls hC (lo_sub hl [2, 3, 0] rfl) hw
          ·
            replace hw := (if_pos c84).mp hw
            exact hK96  h82 H locs ls hC (lo_sub hl [] rfl) hw
        ·
          replace hw := (if_neg c80).mp hw
          exact t_X12_readAny_J33 hM o x1 x2 z57 (wp_X12_readAny_L9 o K42 K96 K191 K202 Q n) K42 K96 K191 K202 Q ih hK42 hK96 hK191 hK202 h78 H locs ls hC (lo_sub hl [1, 2, 3, 0] rfl) hw
set_option maxHeartbeats 4000000 in
set_option maxRecDepth 100000 in
theorem c_X12_readAny (l : Launch) (G : GG) (base : Nat) (A : Nat → Nat) (o : Nat) (h : Hp) (Q : Int32 → Hp → Prop) (hw : wp_X12_readAny o h Q) : Met l yX12_readAny (ww yX12_readAny cX12_readAny 4 (some .int)) rm_X12_readAny (va_Pc [.ref (A o)] (PU2 G base A h A h)) (va_Qi Q (PU2 G base A h A) (fun q => base ≤ q)) 0 0 (fun q => base ≤ q) := by
  refine met2_of (own := RX12) (nm := "readAny") (by decide) rfl rfl (List.forall_mem_cons.mpr ⟨rfl, (fun _ h => absurd h List.not_mem_nil)⟩) (Nat.le_of_ble_eq_true rfl) rfl ?_
  intro p e s m args below meth c H locs ls hM hC hl
  obtain ⟨hx, hb, hr, hml, hown, hts, hg, hs, hlk, hnm⟩ := id hM
  unfold wp_X12_readAny at hw
  refine lv_iconst (v := 0) hx hb dX12_readAny_0 (by decide) ?_
  refine lo_istore_n (lv' := [(1, .int ((0 : Int32))), (0, .ref (A o))]) hx hb dX12_readAny_1 rfl hl (by decide) rfl (fun ls hl => ?_)
  refine lv_aload_n hx hb dX12_readAny_2 rfl (lo_at hl 1 rfl) ?_
  refine lv_iconst (v := 0) hx hb dX12_readAny_3 (by decide) ?_
  obtain ⟨k1, hw⟩ := hw
  refine s_putI hx hb hts hown hg hC fb_10_36 k1 rfl rfl mk_f_RX12_246 dX12_readAny_4 (fun h2 H locs eh2 hC => ?_)
  replace hw := hw h2 eh2
  refine lv_iconst (v := 1) hx hb dX12_readAny_7 (by decide) ?_
  refine lo_istore_n (lv' := [(2, .int ((1 : Int32))), (1, .int ((0 : Int32))), (0, .ref (A o))]) hx hb dX12_readAny_8 rfl hl (by decide) rfl (fun ls hl => ?_)
  refine t_X12_readAny_L9 hM o _ _ _ _ Q ?_ ?_ ?_ ?_ fuel (0 : Int32) (1 : Int32) h2 H locs ls hC (lo_sub hl [2, 1, 0] rfl) hw
  ·
    intro  h88 H locs ls hC hl hw
    refine lv_aload_n hx hb dX12_readAny_42 rfl (lo_at hl 0 rfl) ?_
    refine lv_iconst (v := 3) hx hb dX12_readAny_43 (by decide) ?_
    obtain ⟨k89, hw⟩ := hw
    refine res2_i hC (run2_V (As := [.int ((3 : Int32))]) (rest := []) hM hC hl.1.1 kv_RX12_223 (c_X12_fails l G base A o (3 : Int32) h88 _ hw) (hc_10) k89 rfl rfl rfl ⟨Nat.le_of_ble_eq_true rfl, Nat.le_of_ble_eq_true rfl⟩ (Nat.le_of_ble_eq_true rfl) ⟨Nat.le_of_ble_eq_true rfl, Nat.le_of_ble_eq_true rfl⟩ dX12_readAny_44) (fun z91 h90 H locs hw hC => ?_)
    exact ret2_i hM hC hw dX12_readAny_47
  ·
    intro  h92 H locs ls hC hl hw
    refine lv_iconst (v := -1) hx hb dX12_readAny_96 (by decide) ?_
    exact ret2_i hM hC hw dX12_readAny_97
  ·
    intro  h93 H locs ls hC hl hw
    refine lv_iconst (v := 0) hx hb dX12_readAny_191 (by decide) ?_
    exact ret2_i hM hC hw dX12_readAny_192
  ·
    intro  h94 H locs ls hC hl hw
    refine lv_aload_n hx hb dX12_readAny_202 rfl (lo_at hl 0 rfl) ?_
    refine lv_iconst (v := 1) hx hb dX12_readAny_203 (by decide) ?_
    obtain ⟨k95, hw⟩ := hw
    refine res2_i hC (run2_V (As := [.int ((1 : Int32))]) (rest := []) hM hC hl.1.1 kv_RX12_223 (c_X12_fails l G base A o (1 : Int32) h94 _ hw) (hc_10) k95 rfl rfl rfl ⟨Nat.le_of_ble_eq_true rfl, Nat.le_of_ble_eq_true rfl⟩ (Nat.le_of_ble_eq_true rfl) ⟨Nat.le_of_ble_eq_true rfl, Nat.le_of_ble_eq_true rfl⟩ dX12_readAny_204) (fun z97 h96 H locs hw hC => ?_)
    exact ret2_i hM hC hw dX12_readAny_207
abbrev rm_X12_readLine : Room := { frames := 8, cells := 0, slots := 0, locals := 172 }
set_option maxRecDepth 100000 in
def wp_X12_readLine_J99 (o : Nat) (x1 : Int32) (Q : Int32 → Hp → Prop) (h : Hp) : Prop := ((hpK h o).1 = 20 + 10) ∧ (okA h (hpR h o 29) 1 x1 ∧ (∀ h22 : Hp, h22 = stI h (ad (hpR h o 29)) (x1).toNatClampNeg (hpI h o 33) → (((hpK h22 o).1 = 20 + 10) ∧ (wp_X12_isSign o (59 : Int32) h22 (fun (z25 : Int32) (h24 : Hp) => (if z25 = 0 then (((hpK h24 o).1 = 20 + 10) ∧ (wp_X12_fails o (1 : Int32) h24 (fun (z32 : Int32) (h31 : Hp) => Q z32 h31))) else (((hpK h24 o).1 = 20 + 10) ∧ (wp_X12_reads o h24 (fun (h28 : Hp) => Q (0 : Int32) h28)))))))))
set_option maxRecDepth 100000 in
def wp_X12_readLine_J85 (o : Nat) (x1 : Int32) (x2 : Int32) (Q : Int32 → Hp → Prop) (h : Hp) : Prop := (if x2 = 0 then (wp_X12_readLine_J99 o x1 Q h) else (((hpK h o).1 = 20 + 10) ∧ (wp_X12_readAny o h (fun (z35 : Int32) (h34 : Hp) => (if z35 = (-1 : Int32) then (Q (-1 : Int32) h34) else (wp_X12_readLine_J99 o x1 Q h34))))))
set_option maxRecDepth 100000 in
def wp_X12_readLine_J63 (o : Nat) (x1 : Int32) (s0 : Int32) (Q : Int32 → Hp → Prop) (h : Hp) : Prop := ((hpK h o).1 = 20 + 10) ∧ ((if (hpI h o 32) = 0 then (wp_X12_readLine_J85 o x1 s0 Q h) else (wp_X12_isWord o (5 : Int32) h (fun (z38 : Int32) (h37 : Hp) => (if z38 = 0 then (wp_X12_readLine_J85 o x1 s0 Q h37) else (((hpK h37 o).1 = 20 + 10) ∧ (wp_X12_reads o h37 (fun (h41 : Hp) => wp_X12_readLine_J85 o x1 (1 : Int32) Q h41))))))))
set_option maxRecDepth 100000 in
def wp_X12_readLine_J41 (o : Nat) (x1 : Int32) (Q : Int32 → Hp → Prop) (h : Hp) : Prop := ((hpK h o).1 = 20 + 10) ∧ (okA h (hpR h o 28) 1 x1 ∧ (∀ h14 : Hp, h14 = stI h (ad (hpR h o 28)) (x1).toNatClampNeg (hpI h o 33) → (((hpK h14 o).1 = 20 + 10) ∧ ((if (hpI h14 o 32) = 0 then (wp_X12_readLine_J63 o x1 (1 : Int32) Q h14) else (wp_X12_readLine_J63 o x1 (0 : Int32) Q h14))))))
set_option maxRecDepth 100000 in
def wp_X12_readLine (o : Nat) (x1 : Int32) (h : Hp) (Q : Int32 → Hp → Prop) : Prop := ((hpK h o).1 = 20 + 10) ∧ (okA h (hpR h o 26) 1 x1 ∧ (∀ h3 : Hp, h3 = stI h (ad (hpR h o 26)) (x1).toNatClampNeg (hpI h o 23) → (((hpK h3 o).1 = 20 + 10) ∧ (okA h3 (hpR h3 o 27) 1 x1 ∧ (∀ h6 : Hp, h6 = stI h3 (ad (hpR h3 o 27)) (x1).toNatClampNeg (hpI h3 o 33) → (((hpK h6 o).1 = 20 + 10) ∧ (wp_X12_reads o h6 (fun (h8 : Hp) => ((hpK h8 o).1 = 20 + 10) ∧ ((if (hpI h8 o 32) = 0 then (wp_X12_readLine_J41 o x1 Q h8) else (wp_X12_readSum o h8 (fun (z44 : Int32) (h43 : Hp) => (if z44 = (-1 : Int32) then (Q (-1 : Int32) h43) else (wp_X12_readLine_J41 o x1 Q h43))))))))))))))
set_option maxHeartbeats 4000000 in
set_option maxRecDepth 100000 in
theorem t_X12_readLine_J99 {p : Program} {l : Launch} {e : Env} {s : State} {m : MethodId} {args : Array Value} {below : List Frame} {meth : Method} {c : Code} {G : GG} {base : Nat} {A : Nat → Nat} {g0 : Hp} (hM : Mx G base p s m args meth c cX12_readLine 3 (some .int) RX12 "readLine") (o : Nat) (x1 : Int32) (Q : Int32 → Hp → Prop) (h : Hp) (H : Heap) (locs : List Loc) (ls : Array Slot) : Cx2 G base A g0 A h s.heap H locs → lo_has ls 3 [(0, .ref (A o)), (1, .int x1)] → wp_X12_readLine_J99 o x1 Q h → W p l e rm_X12_readLine s m args below meth c H locs 0 0 (MQ below (va_Qi Q (PU2 G base A g0 A) (fun q => base ≤ q)) args s 0 0 (fun q => base ≤ q)) (F0 m 99 ls []) := by
  intro hC hl hw
  unfold wp_X12_readLine_J99 at hw
  obtain ⟨hx, hb, hr, hml, hown, hts, hg, hs, hlk, hnm⟩ := id hM
  refine lv_aload_n hx hb dX12_readLine_99 rfl (lo_at hl 0 rfl) ?_
  obtain ⟨k20, hw⟩ := hw
  refine s_getR hx hb hts hown hg hC fb_10_29 k20 mk_f_RX12_67 dX12_readLine_100 ?_
  refine lv_iload_n hx hb dX12_readLine_103 rfl (lo_at hl 1 rfl) ?_
  refine lv_aload_n hx hb dX12_readLine_104 rfl (lo_at hl 0 rfl) ?_
  refine s_getI hx hb hts hown hg hC fb_10_33 k20 mk_f_RX12_216 dX12_readLine_105 ?_
  obtain ⟨k21, hw⟩ := hw
  refine sf_3 k21.1 ?_
  refine s_iast hx hb hg hC k21.2.1 k21.2.2 dX12_readLine_108 (fun h22 H locs eh22 hC => ?_)
  replace hw := hw h22 eh22
  refine lv_aload_n hx hb dX12_readLine_109 rfl (lo_at hl 0 rfl) ?_
  refine lv_bipush (v := 59) hx hb dX12_readLine_110 (by decide) ?_
  obtain ⟨k23, hw⟩ := hw
  refine res2_i hC (run2_V (As := [.int ((59 : Int32))]) (rest := []) hM hC hl.1.1 kv_RX12_237 (c_X12_isSign l G base A o (59 : Int32) h22 _ hw) (hc_10) k23 rfl rfl rfl ⟨Nat.le_of_ble_eq_true rfl, Nat.le_of_ble_eq_true rfl⟩ (Nat.le_of_ble_eq_true rfl) ⟨Nat.le_of_ble_eq_true rfl, Nat.le_of_ble_eq_true rfl⟩ dX12_readLine_112) (fun z25 h24 H locs hw hC => ?_)
  refine lv_if_ne (tgt := 124) hx hb dX12_readLine_115 (by decide) (fun c26 => ?_) (fun c26 => ?_)
  ·
    replace hw := (if_neg c26).mp hw
    refine lv_aload_n hx hb dX12_readLine_124 rfl (lo_at hl 0 rfl) ?_
    obtain ⟨k27, hw⟩ := hw
    refine res2_v hC (run2_V (As := []) (rest := []) hM hC hl.1.1 kv_RX12_230 (c_X12_reads l G base A o h24 _ hw) (hc_10) k27 rfl rfl rfl ⟨Nat.le_of_ble_eq_true rfl, Nat.le_of_ble_eq_true rfl⟩ (Nat.le_of_ble_eq_true rfl) ⟨Nat.le_of_ble_eq_true rfl, Nat.le_of_ble_eq_true rfl⟩ dX12_readLine_125) (fun h28 H locs hw hC => ?_)
    refine lv_iconst (v := 0) hx hb dX12_readLine_128 (by decide) ?_
    exact ret2_i hM hC hw dX12_readLine_129
  ·
    replace hw := (if_pos c26).mp hw
    refine lv_aload_n hx hb dX12_readLine_118 rfl (lo_at hl 0 rfl) ?_
    refine lv_iconst (v := 1) hx hb dX12_readLine_119 (by decide) ?_
    obtain ⟨k30, hw⟩ := hw
    refine res2_i hC (run2_V (As := [.int ((1 : Int32))]) (rest := []) hM hC hl.1.1 kv_RX12_223 (c_X12_fails l G base A o (1 : Int32) h24 _ hw) (hc_10) k30 rfl rfl rfl ⟨Nat.le_of_ble_eq_true rfl, Nat.le_of_ble_eq_true rfl⟩ (Nat.le_of_ble_eq_true rfl) ⟨Nat.le_of_ble_eq_true rfl, Nat.le_of_ble_eq_true rfl⟩ dX12_readLine_120) (fun z32 h31 H locs hw hC => ?_)
    exact ret2_i hM hC hw dX12_readLine_123
set_option maxHeartbeats 4000000 in
set_option maxRecDepth 100000 in
theorem t_X12_readLine_J85 {p : Program} {l : Launch} {e : Env} {s : State} {m : MethodId} {args : Array Value} {below : List Frame} {meth : Method} {c : Code} {G : GG} {base : Nat} {A : Nat → Nat} {g0 : Hp} (hM : Mx G base p s m args meth c cX12_readLine 3 (some .int) RX12 "readLine") (o : Nat) (x1 : Int32) (x2 : Int32) (Q : Int32 → Hp → Prop) (h : Hp) (H : Heap) (locs : List Loc) (ls : Array Slot) : Cx2 G base A g0 A h s.heap H locs → lo_has ls 3 [(0, .ref (A o)), (1, .int x1), (2, .int x2)] → wp_X12_readLine_J85 o x1 x2 Q h → W p l e rm_X12_readLine s m args below meth c H locs 0 0 (MQ below (va_Qi Q (PU2 G base A g0 A) (fun q => base ≤ q)) args s 0 0 (fun q => base ≤ q)) (F0 m 85 ls []) := by
  intro hC hl hw
  unfold wp_X12_readLine_J85 at hw
  obtain ⟨hx, hb, hr, hml, hown, hts, hg, hs, hlk, hnm⟩ := id hM
  refine lv_iload_n hx hb dX12_readLine_85 rfl (lo_at hl 2 rfl) ?_
  refine lv_if_eq (tgt := 99) hx hb dX12_readLine_86 (by decide) (fun c19 => ?_) (fun c19 => ?_)
  ·
    replace hw := (if_pos c19).mp hw
    exact t_X12_readLine_J99 hM o x1 Q  h H locs ls hC (lo_sub hl [0, 1] rfl) hw
  ·
    replace hw := (if_neg c19).mp hw
    refine lv_aload_n hx hb dX12_readLine_89 rfl (lo_at hl 0 rfl) ?_
    obtain ⟨k33, hw⟩ := hw
    refine res2_i hC (run2_V (As := []) (rest := []) hM hC hl.1.1 kv_RX12_264 (c_X12_readAny l G base A o h _ hw) (hc_10) k33 rfl rfl rfl ⟨Nat.le_of_ble_eq_true rfl, Nat.le_of_ble_eq_true rfl⟩ (Nat.le_of_ble_eq_true rfl) ⟨Nat.le_of_ble_eq_true rfl, Nat.le_of_ble_eq_true rfl⟩ dX12_readLine_90) (fun z35 h34 H locs hw hC => ?_)
    refine lv_iconst (v := -1) hx hb dX12_readLine_93 (by decide) ?_
    refine lv_icmp_ne (tgt := 99) hx hb dX12_readLine_94 (by decide) (fun c36 => ?_) (fun c36 => ?_)
    ·
      replace hw := (if_neg c36).mp hw
      exact t_X12_readLine_J99 hM o x1 Q  h34 H locs ls hC (lo_sub hl [0, 1] rfl) hw
    ·
      replace hw := (if_pos c36).mp hw
      refine lv_iconst (v := -1) hx hb dX12_readLine_97 (by decide) ?_
      exact ret2_i hM hC hw dX12_readLine_98
set_option maxHeartbeats 4000000 in
set_option maxRecDepth 100000 in
theorem t_X12_readLine_J63 {p : Program} {l : Launch} {e : Env} {s : State} {m : MethodId} {args : Array Value} {below : List Frame} {meth : Method} {c : Code} {G : GG} {base : Nat} {A : Nat → Nat} {g0 : Hp} (hM : Mx G base p s m args meth c cX12_readLine 3 (some .int) RX12 "readLine") (o : Nat) (x1 : Int32) (s0 : Int32) (Q : Int32 → Hp → Prop) (h : Hp) (H : Heap) (locs : List Loc) (ls : Array Slot) : Cx2 G base A g0 A h s.heap H locs → lo_has ls 3 [(0, .ref (A o)), (1, .int x1)] → wp_X12_readLine_J63 o x1 s0 Q h → W p l e rm_X12_readLine s m args below meth c H locs 0 0 (MQ below (va_Qi Q (PU2 G base A g0 A) (fun q => base ≤ q)) args s 0 0 (fun q => base ≤ q)) (F0 m 63 ls [.int s0]) := by
  intro hC hl hw
  unfold wp_X12_readLine_J63 at hw
  obtain ⟨hx, hb, hr, hml, hown, hts, hg, hs, hlk, hnm⟩ := id hM
  refine lo_istore_n (lv' := [(2, .int s0), (0, .ref (A o)), (1, .int x1)]) hx hb dX12_readLine_63 rfl hl (by decide) rfl (fun ls hl => ?_)
  refine lv_aload_n hx hb dX12_readLine_64 rfl (lo_at hl 1 rfl) ?_
  obtain ⟨k17, hw⟩ := hw
  refine s_getI hx hb hts hown hg hC fb_10_32 k17 mk_f_RX12_219 dX12_readLine_65 ?_
  refine lv_if_eq (tgt := 85) hx hb dX12_readLine_68 (by decide) (fun c18 => ?_) (fun c18 => ?_)
  ·
    replace hw := (if_pos c18).mp hw
    exact t_X12_readLine_J85 hM o x1 s0 Q  h H locs ls hC (lo_sub hl [1, 2, 0] rfl) hw
  ·
    replace hw := (if_neg c18).mp hw
    refine lv_aload_n hx hb dX12_readLine_71 rfl (lo_at hl 1 rfl) ?_
    refine lv_iconst (v := 5) hx hb dX12_readLine_72 (by decide) ?_
    refine res2_i hC (run2_V (As := [.int ((5 : Int32))]) (rest := []) hM hC hl.1.1 kv_RX12_252 (c_X12_isWord l G base A o (5 : Int32) h _ hw) (hc_10) k17 rfl rfl rfl ⟨Nat.le_of_ble_eq_true rfl, Nat.le_of_ble_eq_true rfl⟩ (Nat.le_of_ble_eq_true rfl) ⟨Nat.le_of_ble_eq_true rfl, Nat.le_of_ble_eq_true rfl⟩ dX12_readLine_73) (fun z38 h37 H locs hw hC => ?_)
    refine lv_if_eq (tgt := 85) hx hb dX12_readLine_76 (by decide) (fun c39 => ?_) (fun c39 => ?_)
    ·
      replace hw := (if_pos c39).mp hw
      exact t_X12_readLine_J85 hM o x1 s0 Q  h37 H locs ls hC (lo_sub hl [1, 2, 0] rfl) hw
    ·
      replace hw := (if_neg c39).mp hw
      refine lv_aload_n hx hb dX12_readLine_79 rfl (lo_at hl 1 rfl) ?_
      obtain ⟨k40, hw⟩ := hw
      refine res2_v hC (run2_V (As := []) (rest := []) hM hC hl.1.1 kv_RX12_230 (c_X12_reads l G base A o h37 _ hw) (hc_10) k40 rfl rfl rfl ⟨Nat.le_of_ble_eq_true rfl, Nat.le_of_ble_eq_true rfl⟩ (Nat.le_of_ble_eq_true rfl) ⟨Nat.le_of_ble_eq_true rfl, Nat.le_of_ble_eq_true rfl⟩ dX12_readLine_80) (fun h41 H locs hw hC => ?_)
      refine lv_iconst (v := 1) hx hb dX12_readLine_83 (by decide) ?_
      refine lo_istore_n (lv' := [(2, .int ((1 : Int32))), (0, .ref (A o)), (1, .int x1)]) hx hb dX12_readLine_84 rfl hl (by decide) rfl (fun ls hl => ?_)
      exact t_X12_readLine_J85 hM o x1 (1 : Int32) Q  h41 H locs ls hC (lo_sub hl [1, 2, 0] rfl) hw
set_option maxHeartbeats 4000000 in
set_option maxRecDepth 100000 in
theorem t_X12_readLine_J41 {p : Program} {l : Launch} {e : Env} {s : State} {m : MethodId} {args : Array Value} {below : List Frame} {meth : Method} {c : Code} {G : GG} {base : Nat} {A : Nat → Nat} {g0 : Hp} (hM : Mx G base p s m args meth c cX12_readLine 3 (some .int) RX12 "readLine") (o : Nat) (x1 : Int32) (Q : Int32 → Hp → Prop) (h : Hp) (H : Heap) (locs : List Loc) (ls : Array Slot) : Cx2 G base A g0 A h s.heap H locs → lo_has ls 3 [(0, .ref (A o)), (1, .int x1)] → wp_X12_readLine_J41 o x1 Q h → W p l e rm_X12_readLine s m args below meth c H locs 0 0 (MQ below (va_Qi Q (PU2 G base A g0 A) (fun q => base ≤ q)) args s 0 0 (fun q => base ≤ q)) (F0 m 41 ls []) := by
  intro hC hl hw
  unfold wp_X12_readLine_J41 at hw
  obtain ⟨hx, hb, hr, hml, hown, hts, hg, hs, hlk, hnm⟩ := id hM
  refine lv_aload_n hx hb dX12_readLine_41 rfl (lo_at hl 0 rfl) ?_
  obtain ⟨k12, hw⟩ := hw
  refine s_getR hx hb hts hown hg hC fb_10_28 k12 mk_f_RX12_64 dX12_readLine_42 ?_
  refine lv_iload_n hx hb dX12_readLine_45 rfl (lo_at hl 1 rfl) ?_
  refine lv_aload_n hx hb dX12_readLine_46 rfl (lo_at hl 0 rfl) ?_
  refine s_getI hx hb hts hown hg hC fb_10_33 k12 mk_f_RX12_216 dX12_readLine_47 ?_
  obtain ⟨k13, hw⟩ := hw
  refine sf_3 k13.1 ?_
  refine s_iast hx hb hg hC k13.2.1 k13.2.2 dX12_readLine_50 (fun h14 H locs eh14 hC => ?_)
  replace hw := hw h14 eh14
  refine lv_aload_n hx hb dX12_readLine_51 rfl (lo_at hl 0 rfl) ?_
  obtain ⟨k15, hw⟩ := hw
  refine s_getI hx hb hts hown hg hC fb_10_32 k15 mk_f_RX12_219 dX12_readLine_52 ?_
  refine lv_if_ne (tgt := 62) hx hb dX12_readLine_55 (by decide) (fun c16 => ?_) (fun c16 => ?_)
  ·
    replace hw := (if_neg c16).mp hw
    refine lv_iconst (v := 0) hx hb dX12_readLine_62 (by decide) ?_
    exact t_X12_readLine_J63 hM o x1 (0 : Int32) Q  h14 H locs ls hC (lo_sub hl [0, 1] rfl) hw
  ·
    replace hw := (if_pos c16).mp hw
    refine lv_iconst (v := 1) hx hb dX12_readLine_58 (by decide) ?_
    refine lv_goto (tgt := 63) hx hb dX12_readLine_59 (by decide) ?_
    exact t_X12_readLine_J63 hM o x1 (1 : Int32) Q  h14 H locs ls hC (lo_sub hl [0, 1] rfl) hw
set_option maxHeartbeats 4000000 in
set_option maxRecDepth 100000 in
theorem c_X12_readLine (l : Launch) (G : GG) (base : Nat) (A : Nat → Nat) (o : Nat) (x1 : Int32) (h : Hp) (Q : Int32 → Hp → Prop) (hw : wp_X12_readLine o x1 h Q) : Met l yX12_readLine (ww yX12_readLine cX12_readLine 3 (some .int)) rm_X12_readLine (va_Pc [.ref (A o), .int x1] (PU2 G base A h A h)) (va_Qi Q (PU2 G base A h A) (fun q => base ≤ q)) 0 0 (fun q => base ≤ q) := by
  refine met2_of (own := RX12) (nm := "readLine") (by decide) rfl rfl (List.forall_mem_cons.mpr ⟨rfl, (List.forall_mem_cons.mpr ⟨rfl, (fun _ h => absurd h List.not_mem_nil)⟩)⟩) (Nat.le_of_ble_eq_true rfl) rfl ?_
  intro p e s m args below meth c H locs ls hM hC hl
  obtain ⟨hx, hb, hr, hml, hown, hts, hg, hs, hlk, hnm⟩ := id hM
  unfold wp_X12_readLine at hw
  refine lv_aload_n hx hb dX12_readLine_0 rfl (lo_at hl 0 rfl) ?_
  obtain ⟨k1, hw⟩ := hw
  refine s_getR hx hb hts hown hg hC fb_10_26 k1 mk_f_RX12_58 dX12_readLine_1 ?_
  refine lv_iload_n hx hb dX12_readLine_4 rfl (lo_at hl 1 rfl) ?_
  refine lv_aload_n hx hb dX12_readLine_5 rfl (lo_at hl 0 rfl) ?_
  refine s_getI hx hb hts hown hg hC fb_10_23 k1 mk_f_RX12_194 dX12_readLine_6 ?_
  obtain ⟨k2, hw⟩ := hw
  refine sf_3 k2.1 ?_
  refine s_iast hx hb hg hC k2.2.1 k2.2.2 dX12_readLine_9 (fun h3 H locs eh3 hC => ?_)
  replace hw := hw h3 eh3
  refine lv_aload_n hx hb dX12_readLine_10 rfl (lo_at hl 0 rfl) ?_
  obtain ⟨k4, hw⟩ := hw
  refine s_getR hx hb hts hown hg hC fb_10_27 k4 mk_f_RX12_61 dX12_readLine_11 ?_
  refine lv_iload_n hx hb dX12_readLine_14 rfl (lo_at hl 1 rfl) ?_
  refine lv_aload_n hx hb dX12_readLine_15 rfl (lo_at hl 0 rfl) ?_
  refine s_getI hx hb hts hown hg hC fb_10_33 k4 mk_f_RX12_216 dX12_readLine_16 ?_
  obtain ⟨k5, hw⟩ := hw
  refine sf_3 k5.1 ?_
  refine s_iast hx hb hg hC k5.2.1 k5.2.2 dX12_readLine_19 (fun h6 H locs eh6 hC => ?_)
  replace hw := hw h6 eh6
  refine lv_aload_n hx hb dX12_readLine_20 rfl (lo_at hl 0 rfl) ?_
  obtain ⟨k7, hw⟩ := hw
  refine res2_v hC (run2_V (As := []) (rest := []) hM hC hl.1.1 kv_RX12_230 (c_X12_reads l G base A o h6 _ hw) (hc_10) k7 rfl rfl rfl ⟨Nat.le_of_ble_eq_true rfl, Nat.le_of_ble_eq_true rfl⟩ (Nat.le_of_ble_eq_true rfl) ⟨Nat.le_of_ble_eq_true rfl, Nat.le_of_ble_eq_true rfl⟩ dX12_readLine_21) (fun h8 H locs hw hC => ?_)
  refine lv_aload_n hx hb dX12_readLine_24 rfl (lo_at hl 0 rfl) ?_
  obtain ⟨k10, hw⟩ := hw
  refine s_getI hx hb hts hown hg hC fb_10_32 k10 mk_f_RX12_219 dX12_readLine_25 ?_
  refine lv_if_eq (tgt := 41) hx hb dX12_readLine_28 (by decide) (fun c11 => ?_) (fun c11 => ?_)
  ·
    replace hw := (if_pos c11).mp hw
    exact t_X12_readLine_J41 hM o x1 Q  h8 H locs ls hC (lo_sub hl [0, 1] rfl) hw
  ·
    replace hw := (if_neg c11).mp hw
    refine lv_aload_n hx hb dX12_readLine_31 rfl (lo_at hl 0 rfl) ?_
    refine res2_i hC (run2_V (As := []) (rest := []) hM hC hl.1.1 kv_RX12_243 (c_X12_readSum l G base A o h8 _ hw) (hc_10) k10 rfl rfl rfl ⟨Nat.le_of_ble_eq_true rfl, Nat.le_of_ble_eq_true rfl⟩ (Nat.le_of_ble_eq_true rfl) ⟨Nat.le_of_ble_eq_true rfl, Nat.le_of_ble_eq_true rfl⟩ dX12_readLine_32) (fun z44 h43 H locs hw hC => ?_)
    refine lv_iconst (v := -1) hx hb dX12_readLine_35 (by decide) ?_
    refine lv_icmp_ne (tgt := 41) hx hb dX12_readLine_36 (by decide) (fun c45 => ?_) (fun c45 => ?_)
    ·
      replace hw := (if_neg c45).mp hw
      exact t_X12_readLine_J41 hM o x1 Q  h43 H locs ls hC (lo_sub hl [0, 1] rfl) hw
    ·
      replace hw := (if_pos c45).mp hw
      refine lv_iconst (v := -1) hx hb dX12_readLine_39 (by decide) ?_
      exact ret2_i hM hC hw dX12_readLine_40
abbrev rm_X12_isBegin : Room := { frames := 0, cells := 0, slots := 0, locals := 0 }
set_option maxRecDepth 100000 in
def wp_X12_isBegin (o : Nat) (h : Hp) (Q : Int32 → Hp → Prop) : Prop := ((hpK h o).1 = 20 + 10) ∧ ((if (hpI h o 22) = (2 : Int32) then ((if (hpI h o 32) = 0 then ((if (hpI h o 23) = (3 : Int32) then (Q (1 : Int32) h) else ((if (hpI h o 23) = (4 : Int32) then (Q (1 : Int32) h) else (Q (0 : Int32) h))))) else ((if (2 : Int32) < (hpI h o 23) then (Q (0 : Int32) h) else (Q (1 : Int32) h))))) else (Q (0 : Int32) h)))
set_option maxHeartbeats 4000000 in
set_option maxRecDepth 100000 in
theorem c_X12_isBegin (l : Launch) (G : GG) (base : Nat) (A : Nat → Nat) (o : Nat) (h : Hp) (Q : Int32 → Hp → Prop) (hw : wp_X12_isBegin o h Q) : Met l yX12_isBegin (ww yX12_isBegin cX12_isBegin 1 (some .boolean)) rm_X12_isBegin (va_Pc [.ref (A o)] (PU2 G base A h A h)) (va_Qi Q (PU2 G base A h A) (fun q => base ≤ q)) 0 0 (fun q => base ≤ q) := by
  refine met2_of (own := RX12) (nm := "isBegin") (by decide) rfl rfl (List.forall_mem_cons.mpr ⟨rfl, (fun _ h => absurd h List.not_mem_nil)⟩) (Nat.le_of_ble_eq_true rfl) rfl ?_
  intro p e s m args below meth c H locs ls hM hC hl
  obtain ⟨hx, hb, hr, hml, hown, hts, hg, hs, hlk, hnm⟩ := id hM
  unfold wp_X12_isBegin at hw
  refine lv_aload_n hx hb dX12_isBegin_0 rfl (lo_at hl 0 rfl) ?_
  obtain ⟨k1, hw⟩ := hw
  refine s_getI hx hb hts hown hg hC fb_10_22 k1 mk_f_RX12_191 dX12_isBegin_1 ?_
  refine lv_iconst (v := 2) hx hb dX12_isBegin_4 (by decide) ?_
  refine lv_icmp_ne (tgt := 46) hx hb dX12_isBegin_5 (by decide) (fun c2 => ?_) (fun c2 => ?_)
  ·
    replace hw := (if_neg c2).mp hw
    refine lv_iconst (v := 0) hx hb dX12_isBegin_46 (by decide) ?_
    exact ret2_t hM hC rfl hw dX12_isBegin_47
  ·
    replace hw := (if_pos c2).mp hw
    refine lv_aload_n hx hb dX12_isBegin_8 rfl (lo_at hl 0 rfl) ?_
    refine s_getI hx hb hts hown hg hC fb_10_32 k1 mk_f_RX12_219 dX12_isBegin_9 ?_
    refine lv_if_eq (tgt := 26) hx hb dX12_isBegin_12 (by decide) (fun c3 => ?_) (fun c3 => ?_)
    ·
      replace hw := (if_pos c3).mp hw
      refine lv_aload_n hx hb dX12_isBegin_26 rfl (lo_at hl 0 rfl) ?_
      refine s_getI hx hb hts hown hg hC fb_10_23 k1 mk_f_RX12_194 dX12_isBegin_27 ?_
      refine lv_iconst (v := 3) hx hb dX12_isBegin_30 (by decide) ?_
      refine lv_icmp_eq (tgt := 42) hx hb dX12_isBegin_31 (by decide) (fun c4 => ?_) (fun c4 => ?_)
      ·
        replace hw := (if_pos c4).mp hw
        refine lv_iconst (v := 1) hx hb dX12_isBegin_42 (by decide) ?_
        refine lv_goto (tgt := 47) hx hb dX12_isBegin_43 (by decide) ?_
        exact ret2_t hM hC rfl hw dX12_isBegin_47
      ·
        replace hw := (if_neg c4).mp hw
        refine lv_aload_n hx hb dX12_isBegin_34 rfl (lo_at hl 0 rfl) ?_
        refine s_getI hx hb hts hown hg hC fb_10_23 k1 mk_f_RX12_194 dX12_isBegin_35 ?_
        refine lv_iconst (v := 4) hx hb dX12_isBegin_38 (by decide) ?_
        refine lv_icmp_ne (tgt := 46) hx hb dX12_isBegin_39 (by decide) (fun c5 => ?_) (fun c5 => ?_)
        ·
          replace hw := (if_neg c5).mp hw
          refine lv_iconst (v := 0) hx hb dX12_isBegin_46 (by decide) ?_
          exact ret2_t hM hC rfl hw dX12_isBegin_47
        ·
          replace hw := (if_pos c5).mp hw
          refine lv_iconst (v := 1) hx hb dX12_isBegin_42 (by decide) ?_
          refine lv_goto (tgt := 47) hx hb dX12_isBegin_43 (by decide) ?_
          exact ret2_t hM hC rfl hw dX12_isBegin_47
    ·
      replace hw := (if_neg c3).mp hw
      refine lv_aload_n hx hb dX12_isBegin_15 rfl (lo_at hl 0 rfl) ?_
      refine s_getI hx hb hts hown hg hC fb_10_23 k1 mk_f_RX12_194 dX12_isBegin_16 ?_
      refine lv_iconst (v := 2) hx hb dX12_isBegin_19 (by decide) ?_
      refine lv_icmp_gt (tgt := 46) hx hb dX12_isBegin_20 (by decide) (fun c6 => ?_) (fun c6 => ?_)
      ·
        replace hw := (if_pos c6).mp hw
        refine lv_iconst (v := 0) hx hb dX12_isBegin_46 (by decide) ?_
        exact ret2_t hM hC rfl hw dX12_isBegin_47
      ·
        replace hw := (if_neg c6).mp hw
        refine lv_goto (tgt := 42) hx hb dX12_isBegin_23 (by decide) ?_
        refine lv_iconst (v := 1) hx hb dX12_isBegin_42 (by decide) ?_
        refine lv_goto (tgt := 47) hx hb dX12_isBegin_43 (by decide) ?_
        exact ret2_t hM hC rfl hw dX12_isBegin_47
abbrev rm_X12_readText : Room := { frames := 9, cells := 0, slots := 0, locals := 194 }
set_option maxRecDepth 100000 in
def wp_X12_readText_L21 (o : Nat) (K34 : Hp → Prop) (K52 : Hp → Prop) (K61 : Int32 → Hp → Prop) (Q : Int32 → Hp → Prop) : Nat → Int32 → Hp → Prop
  | 0, _, _ => False
  | n + 1, x1, h => ((hpK h o).1 = 20 + 10) ∧ (wp_X12_isBegin o h (fun (z12 : Int32) (h11 : Hp) => (if z12 = 0 then (K61 x1 h11) else ((if x1 = (16 : Int32) then (K34 h11) else (((hpK h11 o).1 = 20 + 10) ∧ (wp_X12_readLine o ((112 : Int32) + x1) h11 (fun (z17 : Int32) (h16 : Hp) => (if z17 = (-1 : Int32) then (K52 h16) else (∀ v19 : Int32, v19 = x1 + (1 : Int32) → (wp_X12_readText_L21 o K34 K52 K61 Q n v19 h16)))))))))))
set_option maxRecDepth 100000 in
def wp_X12_readText (o : Nat) (h : Hp) (Q : Int32 → Hp → Prop) : Prop := ((hpK h o).1 = 20 + 10) ∧ (∀ h2 : Hp, h2 = stI h o 20 (0 : Int32) → (((hpK h2 o).1 = 20 + 10) ∧ (∀ h4 : Hp, h4 = stI h2 o 33 (0 : Int32) → (((hpK h4 o).1 = 20 + 10) ∧ (∀ h6 : Hp, h6 = stI h4 o 34 (0 : Int32) → (((hpK h6 o).1 = 20 + 10) ∧ (wp_X12_reads o h6 (fun (h8 : Hp) => wp_X12_readText_L21 o (fun (h20 : Hp) => ((hpK h20 o).1 = 20 + 10) ∧ (wp_X12_fails o (3 : Int32) h20 (fun (z23 : Int32) (h22 : Hp) => Q z23 h22))) (fun (h24 : Hp) => Q (-1 : Int32) h24) (fun (y26 : Int32) (h25 : Hp) => ((hpK h25 o).1 = 20 + 10) ∧ ((if (hpI h25 o 22) = 0 then (Q y26 h25) else (wp_X12_fails o (1 : Int32) h25 (fun (z30 : Int32) (h29 : Hp) => Q z30 h29))))) Q fuel (0 : Int32) h8))))))))
set_option maxHeartbeats 4000000 in
set_option maxRecDepth 100000 in
theorem t_X12_readText_L21 {p : Program} {l : Launch} {e : Env} {s : State} {m : MethodId} {args : Array Value} {below : List Frame} {meth : Method} {c : Code} {G : GG} {base : Nat} {A : Nat → Nat} {g0 : Hp} (hM : Mx G base p s m args meth c cX12_readText 2 (some .int) RX12 "readText") (o : Nat) (K34 : Hp → Prop) (K52 : Hp → Prop) (K61 : Int32 → Hp → Prop) (Q : Int32 → Hp → Prop) (hK34 : ∀ (h : Hp) (H : Heap) (locs : List Loc) (ls : Array Slot), Cx2 G base A g0 A h s.heap H locs → lo_has ls 2 [(0, .ref (A o))] → K34 h → W p l e rm_X12_readText s m args below meth c H locs 0 0 (MQ below (va_Qi Q (PU2 G base A g0 A) (fun q => base ≤ q)) args s 0 0 (fun q => base ≤ q)) (F0 m 34 ls [])) (hK52 : ∀ (h : Hp) (H : Heap) (locs : List Loc) (ls : Array Slot), Cx2 G base A g0 A h s.heap H locs → lo_has ls 2 [] → K52 h → W p l e rm_X12_readText s m args below meth c H locs 0 0 (MQ below (va_Qi Q (PU2 G base A g0 A) (fun q => base ≤ q)) args s 0 0 (fun q => base ≤ q)) (F0 m 52 ls [])) (hK61 : ∀ (y1 : Int32) (h : Hp) (H : Heap) (locs : List Loc) (ls : Array Slot), Cx2 G base A g0 A h s.heap H locs → lo_has ls 2 [(0, .ref (A o)), (1, .int y1)] → K61 y1 h → W p l e rm_X12_readText s m args below meth c H locs 0 0 (MQ below (va_Qi Q (PU2 G base A g0 A) (fun q => base ≤ q)) args s 0 0 (fun q => base ≤ q)) (F0 m 61 ls [])) : ∀ (n : Nat) (x1 : Int32) (h : Hp) (H : Heap) (locs : List Loc) (ls : Array Slot), Cx2 G base A g0 A h s.heap H locs → lo_has ls 2 [(0, .ref (A o)), (1, .int x1)] → wp_X12_readText_L21 o K34 K52 K61 Q n x1 h → W p l e rm_X12_readText s m args below meth c H locs 0 0 (MQ below (va_Qi Q (PU2 G base A g0 A) (fun q => base ≤ q)) args s 0 0 (fun q => base ≤ q)) (F0 m 21 ls []) := by
  intro n
  induction n with
  | zero =>
    intro x1 h H locs ls hC hl hw
    rw [wp_X12_readText_L21] at hw
    exact hw.elim
  | succ n ih =>
    intro x1 h H locs ls hC hl hw
    rw [wp_X12_readText_L21] at hw
    obtain ⟨hx, hb, hr, hml, hown, hts, hg, hs, hlk, hnm⟩ := id hM
    refine lv_aload_n hx hb dX12_readText_21 rfl (lo_at hl 0 rfl) ?_
    obtain ⟨k10, hw⟩ := hw
    refine res2_i hC (run2_V (As := []) (rest := []) hM hC hl.1.1 kv_RX12_267 (c_X12_isBegin l G base A o h _ hw) (hc_10) k10 rfl rfl rfl ⟨Nat.le_of_ble_eq_true rfl, Nat.le_of_ble_eq_true rfl⟩ (Nat.le_of_ble_eq_true rfl) ⟨Nat.le_of_ble_eq_true rfl, Nat.le_of_ble_eq_true rfl⟩ dX12_readText_22) (fun z12 h11 H locs hw hC => ?_)
    refine lv_if_eq (tgt := 61) hx hb dX12_readText_25 (by decide) (fun c13 => ?_) (fun c13 => ?_)
    ·
      replace hw := (if_pos c13).mp hw
      exact hK61 x1 h11 H locs ls hC (lo_sub hl [0, 1] rfl) hw
    ·
      replace hw := (if_neg c13).mp hw
      refine lv_iload_n hx hb dX12_readText_28 rfl (lo_at hl 1 rfl) ?_
      refine lv_bipush (v := 16) hx hb dX12_readText_29 (by decide) ?_
      refine lv_icmp_ne (tgt := 40) hx hb dX12_readText_31 (by decide) (fun c14 => ?_) (fun c14 => ?_)
      ·
        replace hw := (if_neg c14).mp hw
        refine lv_aload_n hx hb dX12_readText_40 rfl (lo_at hl 0 rfl) ?_
        refine lv_bipush (v := 112) hx hb dX12_readText_41 (by decide) ?_
        refine lv_iload_n hx hb dX12_readText_43 rfl (lo_at hl 1 rfl) ?_
        refine lv_iadd hx hb dX12_readText_44 ?_
        obtain ⟨k15, hw⟩ := hw
        refine res2_i hC (run2_V (As := [.int ((112 : Int32) + x1)]) (rest := []) hM hC hl.1.1 kv_RX12_271 (c_X12_readLine l G base A o ((112 : Int32) + x1) h11 _ hw) (hc_10) k15 rfl rfl rfl ⟨Nat.le_of_ble_eq_true rfl, Nat.le_of_ble_eq_true rfl⟩ (Nat.le_of_ble_eq_true rfl) ⟨Nat.le_of_ble_eq_true rfl, Nat.le_of_ble_eq_true rfl⟩ dX12_readText_45) (fun z17 h16 H locs hw hC => ?_)
        refine lv_iconst (v := -1) hx hb dX12_readText_48 (by decide) ?_
        refine lv_icmp_ne (tgt := 54) hx hb dX12_readText_49 (by decide) (fun c18 => ?_) (fun c18 => ?_)
        ·
          replace hw := (if_neg c18).mp hw
          refine lv_iload_n hx hb dX12_readText_54 rfl (lo_at hl 1 rfl) ?_
          refine lv_iconst (v := 1) hx hb dX12_readText_55 (by decide) ?_
          refine lv_iadd hx hb dX12_readText_56 ?_
          refine lv_topi (fun v19 ev19 => ?_)
          replace hw := hw v19 ev19
          refine lo_istore_n (lv' := [(1, .int v19), (0, .ref (A o))]) hx hb dX12_readText_57 rfl hl (by decide) rfl (fun ls hl => ?_)
          refine lv_goto (tgt := 21) hx hb dX12_readText_58 (by decide) ?_
          exact ih v19 h16 H locs ls hC (lo_sub hl [1, 0] rfl) hw
        ·
          replace hw := (if_pos c18).mp hw
          exact hK52  h16 H locs ls hC (lo_sub hl [] rfl) hw
      ·
        replace hw := (if_pos c14).mp hw
        exact hK34  h11 H locs ls hC (lo_sub hl [0] rfl) hw
set_option maxHeartbeats 4000000 in
set_option maxRecDepth 100000 in
theorem c_X12_readText (l : Launch) (G : GG) (base : Nat) (A : Nat → Nat) (o : Nat) (h : Hp) (Q : Int32 → Hp → Prop) (hw : wp_X12_readText o h Q) : Met l yX12_readText (ww yX12_readText cX12_readText 2 (some .int)) rm_X12_readText (va_Pc [.ref (A o)] (PU2 G base A h A h)) (va_Qi Q (PU2 G base A h A) (fun q => base ≤ q)) 0 0 (fun q => base ≤ q) := by
  refine met2_of (own := RX12) (nm := "readText") (by decide) rfl rfl (List.forall_mem_cons.mpr ⟨rfl, (fun _ h => absurd h List.not_mem_nil)⟩) (Nat.le_of_ble_eq_true rfl) rfl ?_
  intro p e s m args below meth c H locs ls hM hC hl
  obtain ⟨hx, hb, hr, hml, hown, hts, hg, hs, hlk, hnm⟩ := id hM
  unfold wp_X12_readText at hw
  refine lv_iconst (v := 0) hx hb dX12_readText_0 (by decide) ?_
  refine lo_istore_n (lv' := [(1, .int ((0 : Int32))), (0, .ref (A o))]) hx hb dX12_readText_1 rfl hl (by decide) rfl (fun ls hl => ?_)
  refine lv_aload_n hx hb dX12_readText_2 rfl (lo_at hl 1 rfl) ?_
  refine lv_iconst (v := 0) hx hb dX12_readText_3 (by decide) ?_
  obtain ⟨k1, hw⟩ := hw
  refine s_putI hx hb hts hown hg hC fb_10_20 k1 rfl rfl mk_f_RX12_182 dX12_readText_4 (fun h2 H locs eh2 hC => ?_)
  replace hw := hw h2 eh2
  refine lv_aload_n hx hb dX12_readText_7 rfl (lo_at hl 1 rfl) ?_
  refine lv_iconst (v := 0) hx hb dX12_readText_8 (by decide) ?_
  obtain ⟨k3, hw⟩ := hw
  refine s_putI hx hb hts hown hg hC fb_10_33 k3 rfl rfl mk_f_RX12_216 dX12_readText_9 (fun h4 H locs eh4 hC => ?_)
  replace hw := hw h4 eh4
  refine lv_aload_n hx hb dX12_readText_12 rfl (lo_at hl 1 rfl) ?_
  refine lv_iconst (v := 0) hx hb dX12_readText_13 (by decide) ?_
  obtain ⟨k5, hw⟩ := hw
  refine s_putI hx hb hts hown hg hC fb_10_34 k5 rfl rfl mk_f_RX12_249 dX12_readText_14 (fun h6 H locs eh6 hC => ?_)
  replace hw := hw h6 eh6
  refine lv_aload_n hx hb dX12_readText_17 rfl (lo_at hl 1 rfl) ?_
  obtain ⟨k7, hw⟩ := hw
  refine res2_v hC (run2_V (As := []) (rest := []) hM hC hl.1.1 kv_RX12_230 (c_X12_reads l G base A o h6 _ hw) (hc_10) k7 rfl rfl rfl ⟨Nat.le_of_ble_eq_true rfl, Nat.le_of_ble_eq_true rfl⟩ (Nat.le_of_ble_eq_true rfl) ⟨Nat.le_of_ble_eq_true rfl, Nat.le_of_ble_eq_true rfl⟩ dX12_readText_18) (fun h8 H locs hw hC => ?_)
  refine t_X12_readText_L21 hM o _ _ _ Q ?_ ?_ ?_ fuel (0 : Int32) h8 H locs ls hC (lo_sub hl [1, 0] rfl) hw
  ·
    intro  h20 H locs ls hC hl hw
    refine lv_aload_n hx hb dX12_readText_34 rfl (lo_at hl 0 rfl) ?_
    refine lv_iconst (v := 3) hx hb dX12_readText_35 (by decide) ?_
    obtain ⟨k21, hw⟩ := hw
    refine res2_i hC (run2_V (As := [.int ((3 : Int32))]) (rest := []) hM hC hl.1.1 kv_RX12_223 (c_X12_fails l G base A o (3 : Int32) h20 _ hw) (hc_10) k21 rfl rfl rfl ⟨Nat.le_of_ble_eq_true rfl, Nat.le_of_ble_eq_true rfl⟩ (Nat.le_of_ble_eq_true rfl) ⟨Nat.le_of_ble_eq_true rfl, Nat.le_of_ble_eq_true rfl⟩ dX12_readText_36) (fun z23 h22 H locs hw hC => ?_)
    exact ret2_i hM hC hw dX12_readText_39
  ·
    intro  h24 H locs ls hC hl hw
    refine lv_iconst (v := -1) hx hb dX12_readText_52 (by decide) ?_
    exact ret2_i hM hC hw dX12_readText_53
  ·
    intro y26 h25 H locs ls hC hl hw
    refine lv_aload_n hx hb dX12_readText_61 rfl (lo_at hl 0 rfl) ?_
    obtain ⟨k27, hw⟩ := hw
    refine s_getI hx hb hts hown hg hC fb_10_22 k27 mk_f_RX12_191 dX12_readText_62 ?_
    refine lv_if_ne (tgt := 72) hx hb dX12_readText_65 (by decide) (fun c28 => ?_) (fun c28 => ?_)
    ·
      replace hw := (if_neg c28).mp hw
      refine lv_aload_n hx hb dX12_readText_72 rfl (lo_at hl 0 rfl) ?_
      refine lv_iconst (v := 1) hx hb dX12_readText_73 (by decide) ?_
      refine res2_i hC (run2_V (As := [.int ((1 : Int32))]) (rest := []) hM hC hl.1.1 kv_RX12_223 (c_X12_fails l G base A o (1 : Int32) h25 _ hw) (hc_10) k27 rfl rfl rfl ⟨Nat.le_of_ble_eq_true rfl, Nat.le_of_ble_eq_true rfl⟩ (Nat.le_of_ble_eq_true rfl) ⟨Nat.le_of_ble_eq_true rfl, Nat.le_of_ble_eq_true rfl⟩ dX12_readText_74) (fun z30 h29 H locs hw hC => ?_)
      exact ret2_i hM hC hw dX12_readText_77
    ·
      replace hw := (if_pos c28).mp hw
      refine lv_iload_n hx hb dX12_readText_68 rfl (lo_at hl 1 rfl) ?_
      refine lv_goto (tgt := 77) hx hb dX12_readText_69 (by decide) ?_
      exact ret2_i hM hC hw dX12_readText_77
