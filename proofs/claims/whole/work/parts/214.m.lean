abbrev rm_X5_readProduct : Room := { frames := 2, cells := 0, slots := 0, locals := 42 }
set_option maxRecDepth 100000 in
def wp_X5_readProduct_J86 (o : Nat) (x1 : Int32) (x2 : Int32) (KH : Int32 → Hp → Prop) (K104 : Hp → Prop) (Q : Hp → Prop) (h : Hp) : Prop := ((hpK h o).1 = 20 + 4) ∧ (wp_X5_readPart o h (fun (h17 : Hp) => ((hpK h17 o).1 = 20 + 4) ∧ (okO h17 (hpR h17 o 3) 5 ∧ (wp_X7_put (ad (hpR h17 o 3)) x2 h17 (fun (h21 : Hp) => ∀ v23 : Int32, v23 = x1 + (1 : Int32) → (KH v23 h21))))))
set_option maxRecDepth 100000 in
def wp_X5_readProduct_J68 (o : Nat) (x1 : Int32) (x2 : Int32) (KH : Int32 → Hp → Prop) (K104 : Hp → Prop) (Q : Hp → Prop) (h : Hp) : Prop := (if x2 = (47 : Int32) then (((hpK h o).1 = 20 + 4) ∧ (wp_X5_kind o h (fun (z26 : Int32) (h25 : Hp) => (if z26 < 0 then (wp_X5_readProduct_J86 o x1 x2 KH K104 Q h25) else (((hpK h25 o).1 = 20 + 4) ∧ (wp_X5_refuse o (1 : Int32) h25 (fun (h29 : Hp) => wp_X5_readProduct_J86 o x1 x2 KH K104 Q h29))))))) else (wp_X5_readProduct_J86 o x1 x2 KH K104 Q h))
set_option maxRecDepth 100000 in
def wp_X5_readProduct_J31 (o : Nat) (x1 : Int32) (KH : Int32 → Hp → Prop) (K104 : Hp → Prop) (Q : Hp → Prop) (h : Hp) : Prop := ((hpK h o).1 = 20 + 4) ∧ (wp_X5_kind o h (fun (z11 : Int32) (h10 : Hp) => ((hpK h10 o).1 = 20 + 4) ∧ (∀ h13 : Hp, h13 = stI h10 o 5 ((hpI h10 o 5) + (1 : Int32)) → ((if z11 = (47 : Int32) then (((hpK h13 o).1 = 20 + 4) ∧ (wp_X5_kind o h13 (fun (z33 : Int32) (h32 : Hp) => (if z33 = (-1 : Int32) then (((hpK h32 o).1 = 20 + 4) ∧ (wp_X5_refuse o (2 : Int32) h32 (fun (h36 : Hp) => wp_X5_readProduct_J86 o x1 z11 KH K104 Q h36))) else (wp_X5_readProduct_J68 o x1 z11 KH K104 Q h32))))) else (wp_X5_readProduct_J68 o x1 z11 KH K104 Q h13))))))
set_option maxRecDepth 100000 in
def wp_X5_readProduct_L6 (o : Nat) (K104 : Hp → Prop) (Q : Hp → Prop) : Nat → Int32 → Hp → Prop
  | 0, _, _ => False
  | n + 1, x1, h => (if (600 : Int32) ≤ x1 then (K104 h) else (((hpK h o).1 = 20 + 4) ∧ (wp_X5_kind o h (fun (z7 : Int32) (h6 : Hp) => (if z7 = (42 : Int32) then (wp_X5_readProduct_J31 o x1 (wp_X5_readProduct_L6 o K104 Q n) K104 Q h6) else (((hpK h6 o).1 = 20 + 4) ∧ (wp_X5_kind o h6 (fun (z40 : Int32) (h39 : Hp) => (if z40 = (47 : Int32) then (wp_X5_readProduct_J31 o x1 (wp_X5_readProduct_L6 o K104 Q n) K104 Q h39) else (K104 h39))))))))))
set_option maxRecDepth 100000 in
def wp_X5_readProduct (o : Nat) (h : Hp) (Q : Hp → Prop) : Prop := ((hpK h o).1 = 20 + 4) ∧ (wp_X5_readPart o h (fun (h2 : Hp) => wp_X5_readProduct_L6 o (fun (h42 : Hp) => Q h42) Q fuel (0 : Int32) h2))
set_option maxHeartbeats 4000000 in
set_option maxRecDepth 100000 in
theorem t_X5_readProduct_J86 {p : Program} {l : Launch} {e : Env} {s : State} {m : MethodId} {args : Array Value} {below : List Frame} {meth : Method} {c : Code} {G : GG} {base : Nat} {A : Nat → Nat} {g0 : Hp} (hM : Mx G base p s m args meth c cX5_readProduct 3 none RX5 "readProduct") (o : Nat) (x1 : Int32) (x2 : Int32) (KH : Int32 → Hp → Prop) (K104 : Hp → Prop) (Q : Hp → Prop) (hKH : ∀ (y1 : Int32) (h : Hp) (H : Heap) (locs : List Loc) (ls : Array Slot), Cx2 G base A g0 A h s.heap H locs → lo_has ls 3 [(0, .ref (A o)), (1, .int y1)] → KH y1 h → W p l e rm_X5_readProduct s m args below meth c H locs 0 0 (MQ below (va_Qv Q (PU2 G base A g0 A) (fun q => base ≤ q)) args s 0 0 (fun q => base ≤ q)) (F0 m 6 ls [])) (hK104 : ∀ (h : Hp) (H : Heap) (locs : List Loc) (ls : Array Slot), Cx2 G base A g0 A h s.heap H locs → lo_has ls 3 [] → K104 h → W p l e rm_X5_readProduct s m args below meth c H locs 0 0 (MQ below (va_Qv Q (PU2 G base A g0 A) (fun q => base ≤ q)) args s 0 0 (fun q => base ≤ q)) (F0 m 104 ls [])) (h : Hp) (H : Heap) (locs : List Loc) (ls : Array Slot) : Cx2 G base A g0 A h s.heap H locs → lo_has ls 3 [(0, .ref (A o)), (1, .int x1), (2, .int x2)] → wp_X5_readProduct_J86 o x1 x2 KH K104 Q h → W p l e rm_X5_readProduct s m args below meth c H locs 0 0 (MQ below (va_Qv Q (PU2 G base A g0 A) (fun q => base ≤ q)) args s 0 0 (fun q => base ≤ q)) (F0 m 86 ls []) := by
  intro hC hl hw
  unfold wp_X5_readProduct_J86 at hw
  obtain ⟨hx, hb, hr, hml, hown, hts, hg, hs, hlk, hnm⟩ := id hM
  refine lv_aload_n hx hb dX5_readProduct_86 rfl (lo_at hl 0 rfl) ?_
  obtain ⟨k16, hw⟩ := hw
  refine res2_v hC (run2_V (As := []) (rest := []) hM hC hl.1.1 kv_RX5_103 (c_X5_readPart l G base A o h _ hw) (hc_4) k16 rfl rfl rfl ⟨Nat.le_of_ble_eq_true rfl, Nat.le_of_ble_eq_true rfl⟩ (Nat.le_of_ble_eq_true rfl) ⟨Nat.le_of_ble_eq_true rfl, Nat.le_of_ble_eq_true rfl⟩ dX5_readProduct_87) (fun h17 H locs hw hC => ?_)
  refine lv_aload_n hx hb dX5_readProduct_90 rfl (lo_at hl 0 rfl) ?_
  obtain ⟨k19, hw⟩ := hw
  refine s_getR hx hb hts hown hg hC fb_4_3 k19 mk_f_RX5_18 dX5_readProduct_91 ?_
  refine lv_iload_n hx hb dX5_readProduct_94 rfl (lo_at hl 2 rfl) ?_
  obtain ⟨k20, hw⟩ := hw
  refine sf_2 k20.1 ?_
  refine res2_v hC (run2_V (As := [.int x2]) (rest := []) hM hC hl.1.1 kv_RX5_94 (c_X7_put l G base A (ad (hpR h17 o 3)) x2 h17 _ hw) (hc_5) k20.2 rfl rfl rfl ⟨Nat.le_of_ble_eq_true rfl, Nat.le_of_ble_eq_true rfl⟩ (Nat.le_of_ble_eq_true rfl) ⟨Nat.le_of_ble_eq_true rfl, Nat.le_of_ble_eq_true rfl⟩ dX5_readProduct_95) (fun h21 H locs hw hC => ?_)
  obtain ⟨v23, ev23⟩ : ∃ y : Int32, y = x1 + (1 : Int32) := ⟨_, rfl⟩
  replace hw := hw v23 ev23
  refine lo_iinc (v := v23) (lv' := [(1, .int v23), (0, .ref (A o)), (2, .int x2)]) hx hb dX5_readProduct_98 hl (k := 1) rfl (by rw [ev23]; rfl) (by decide) rfl (fun ls hl => ?_)
  refine lv_goto (tgt := 6) hx hb dX5_readProduct_101 (by decide) ?_
  exact hKH v23 h21 H locs ls hC (lo_sub hl [1, 0] rfl) hw
set_option maxHeartbeats 4000000 in
set_option maxRecDepth 100000 in
theorem t_X5_readProduct_J68 {p : Program} {l : Launch} {e : Env} {s : State} {m : MethodId} {args : Array Value} {below : List Frame} {meth : Method} {c : Code} {G : GG} {base : Nat} {A : Nat → Nat} {g0 : Hp} (hM : Mx G base p s m args meth c cX5_readProduct 3 none RX5 "readProduct") (o : Nat) (x1 : Int32) (x2 : Int32) (KH : Int32 → Hp → Prop) (K104 : Hp → Prop) (Q : Hp → Prop) (hKH : ∀ (y1 : Int32) (h : Hp) (H : Heap) (locs : List Loc) (ls : Array Slot), Cx2 G base A g0 A h s.heap H locs → lo_has ls 3 [(0, .ref (A o)), (1, .int y1)] → KH y1 h → W p l e rm_X5_readProduct s m args below meth c H locs 0 0 (MQ below (va_Qv Q (PU2 G base A g0 A) (fun q => base ≤ q)) args s 0 0 (fun q => base ≤ q)) (F0 m 6 ls [])) (hK104 : ∀ (h : Hp) (H : Heap) (locs : List Loc) (ls : Array Slot), Cx2 G base A g0 A h s.heap H locs → lo_has ls 3 [] → K104 h → W p l e rm_X5_readProduct s m args below meth c H locs 0 0 (MQ below (va_Qv Q (PU2 G base A g0 A) (fun q => base ≤ q)) args s 0 0 (fun q => base ≤ q)) (F0 m 104 ls [])) (h : Hp) (H : Heap) (locs : List Loc) (ls : Array Slot) : Cx2 G base A g0 A h s.heap H locs → lo_has ls 3 [(0, .ref (A o)), (1, .int x1), (2, .int x2)] → wp_X5_readProduct_J68 o x1 x2 KH K104 Q h → W p l e rm_X5_readProduct s m args below meth c H locs 0 0 (MQ below (va_Qv Q (PU2 G base A g0 A) (fun q => base ≤ q)) args s 0 0 (fun q => base ≤ q)) (F0 m 68 ls []) := by
  intro hC hl hw
  unfold wp_X5_readProduct_J68 at hw
  obtain ⟨hx, hb, hr, hml, hown, hts, hg, hs, hlk, hnm⟩ := id hM
  refine lv_iload_n hx hb dX5_readProduct_68 rfl (lo_at hl 2 rfl) ?_
  refine lv_bipush (v := 47) hx hb dX5_readProduct_69 (by decide) ?_
  refine lv_icmp_ne (tgt := 86) hx hb dX5_readProduct_71 (by decide) (fun c15 => ?_) (fun c15 => ?_)
  ·
    replace hw := (if_neg c15).mp hw
    exact t_X5_readProduct_J86 hM o x1 x2 KH K104 Q hKH hK104 h H locs ls hC (lo_sub hl [0, 1, 2] rfl) hw
  ·
    replace hw := (if_pos c15).mp hw
    refine lv_aload_n hx hb dX5_readProduct_74 rfl (lo_at hl 0 rfl) ?_
    obtain ⟨k24, hw⟩ := hw
    refine res2_i hC (run2_V (As := []) (rest := []) hM hC hl.1.1 kv_RX5_44 (c_X5_kind l G base A o h _ hw) (hc_4) k24 rfl rfl rfl ⟨Nat.le_of_ble_eq_true rfl, Nat.le_of_ble_eq_true rfl⟩ (Nat.le_of_ble_eq_true rfl) ⟨Nat.le_of_ble_eq_true rfl, Nat.le_of_ble_eq_true rfl⟩ dX5_readProduct_75) (fun z26 h25 H locs hw hC => ?_)
    refine lv_if_lt (tgt := 86) hx hb dX5_readProduct_78 (by decide) (fun c27 => ?_) (fun c27 => ?_)
    ·
      replace hw := (if_pos c27).mp hw
      exact t_X5_readProduct_J86 hM o x1 x2 KH K104 Q hKH hK104 h25 H locs ls hC (lo_sub hl [0, 1, 2] rfl) hw
    ·
      replace hw := (if_neg c27).mp hw
      refine lv_aload_n hx hb dX5_readProduct_81 rfl (lo_at hl 0 rfl) ?_
      refine lv_iconst (v := 1) hx hb dX5_readProduct_82 (by decide) ?_
      obtain ⟨k28, hw⟩ := hw
      refine res2_v hC (run2_V (As := [.int ((1 : Int32))]) (rest := []) hM hC hl.1.1 kv_RX5_61 (c_X5_refuse l G base A o (1 : Int32) h25 _ hw) (hc_4) k28 rfl rfl rfl ⟨Nat.le_of_ble_eq_true rfl, Nat.le_of_ble_eq_true rfl⟩ (Nat.le_of_ble_eq_true rfl) ⟨Nat.le_of_ble_eq_true rfl, Nat.le_of_ble_eq_true rfl⟩ dX5_readProduct_83) (fun h29 H locs hw hC => ?_)
      exact t_X5_readProduct_J86 hM o x1 x2 KH K104 Q hKH hK104 h29 H locs ls hC (lo_sub hl [0, 1, 2] rfl) hw
set_option maxHeartbeats 4000000 in
set_option maxRecDepth 100000 in
theorem t_X5_readProduct_J31 {p : Program} {l : Launch} {e : Env} {s : State} {m : MethodId} {args : Array Value} {below : List Frame} {meth : Method} {c : Code} {G : GG} {base : Nat} {A : Nat → Nat} {g0 : Hp} (hM : Mx G base p s m args meth c cX5_readProduct 3 none RX5 "readProduct") (o : Nat) (x1 : Int32) (KH : Int32 → Hp → Prop) (K104 : Hp → Prop) (Q : Hp → Prop) (hKH : ∀ (y1 : Int32) (h : Hp) (H : Heap) (locs : List Loc) (ls : Array Slot), Cx2 G base A g0 A h s.heap H locs → lo_has ls 3 [(0, .ref (A o)), (1, .int y1)] → KH y1 h → W p l e rm_X5_readProduct s m args below meth c H locs 0 0 (MQ below (va_Qv Q (PU2 G base A g0 A) (fun q => base ≤ q)) args s 0 0 (fun q => base ≤ q)) (F0 m 6 ls [])) (hK104 : ∀ (h : Hp) (H : Heap) (locs : List Loc) (ls : Array Slot), Cx2 G base A g0 A h s.heap H locs → lo_has ls 3 [] → K104 h → W p l e rm_X5_readProduct s m args below meth c H locs 0 0 (MQ below (va_Qv Q (PU2 G base A g0 A) (fun q => base ≤ q)) args s 0 0 (fun q => base ≤ q)) (F0 m 104 ls [])) (h : Hp) (H : Heap) (locs : List Loc) (ls : Array Slot) : Cx2 G base A g0 A h s.heap H locs → lo_has ls 3 [(0, .ref (A o)), (1, .int x1)] → wp_X5_readProduct_J31 o x1 KH K104 Q h → W p l e rm_X5_readProduct s m args below meth c H locs 0 0 (MQ below (va_Qv Q (PU2 G base A g0 A) (fun q => base ≤ q)) args s 0 0 (fun q => base ≤ q)) (F0 m 31 ls []) := by
  intro hC hl hw
  unfold wp_X5_readProduct_J31 at hw
  obtain ⟨hx, hb, hr, hml, hown, hts, hg, hs, hlk, hnm⟩ := id hM
  refine lv_aload_n hx hb dX5_readProduct_31 rfl (lo_at hl 0 rfl) ?_
  obtain ⟨k9, hw⟩ := hw
  refine res2_i hC (run2_V (As := []) (rest := []) hM hC hl.1.1 kv_RX5_44 (c_X5_kind l G base A o h _ hw) (hc_4) k9 rfl rfl rfl ⟨Nat.le_of_ble_eq_true rfl, Nat.le_of_ble_eq_true rfl⟩ (Nat.le_of_ble_eq_true rfl) ⟨Nat.le_of_ble_eq_true rfl, Nat.le_of_ble_eq_true rfl⟩ dX5_readProduct_32) (fun z11 h10 H locs hw hC => ?_)
  refine lo_istore_n (lv' := [(2, .int z11), (0, .ref (A o)), (1, .int x1)]) hx hb dX5_readProduct_35 rfl hl (by decide) rfl (fun ls hl => ?_)
  refine lv_aload_n hx hb dX5_readProduct_36 rfl (lo_at hl 1 rfl) ?_
  refine lv_dup hx hb dX5_readProduct_37 rfl ?_
  obtain ⟨k12, hw⟩ := hw
  refine s_getI hx hb hts hown hg hC fb_4_5 k12 mk_f_RX5_30 dX5_readProduct_38 ?_
  refine lv_iconst (v := 1) hx hb dX5_readProduct_41 (by decide) ?_
  refine lv_iadd hx hb dX5_readProduct_42 ?_
  refine s_putI hx hb hts hown hg hC fb_4_5 k12 rfl rfl mk_f_RX5_30 dX5_readProduct_43 (fun h13 H locs eh13 hC => ?_)
  replace hw := hw h13 eh13
  refine lv_iload_n hx hb dX5_readProduct_46 rfl (lo_at hl 0 rfl) ?_
  refine lv_bipush (v := 47) hx hb dX5_readProduct_47 (by decide) ?_
  refine lv_icmp_ne (tgt := 68) hx hb dX5_readProduct_49 (by decide) (fun c14 => ?_) (fun c14 => ?_)
  ·
    replace hw := (if_neg c14).mp hw
    exact t_X5_readProduct_J68 hM o x1 z11 KH K104 Q hKH hK104 h13 H locs ls hC (lo_sub hl [1, 2, 0] rfl) hw
  ·
    replace hw := (if_pos c14).mp hw
    refine lv_aload_n hx hb dX5_readProduct_52 rfl (lo_at hl 1 rfl) ?_
    obtain ⟨k31, hw⟩ := hw
    refine res2_i hC (run2_V (As := []) (rest := []) hM hC hl.1.1 kv_RX5_44 (c_X5_kind l G base A o h13 _ hw) (hc_4) k31 rfl rfl rfl ⟨Nat.le_of_ble_eq_true rfl, Nat.le_of_ble_eq_true rfl⟩ (Nat.le_of_ble_eq_true rfl) ⟨Nat.le_of_ble_eq_true rfl, Nat.le_of_ble_eq_true rfl⟩ dX5_readProduct_53) (fun z33 h32 H locs hw hC => ?_)
    refine lv_iconst (v := -1) hx hb dX5_readProduct_56 (by decide) ?_
    refine lv_icmp_ne (tgt := 68) hx hb dX5_readProduct_57 (by decide) (fun c34 => ?_) (fun c34 => ?_)
    ·
      replace hw := (if_neg c34).mp hw
      exact t_X5_readProduct_J68 hM o x1 z11 KH K104 Q hKH hK104 h32 H locs ls hC (lo_sub hl [1, 2, 0] rfl) hw
    ·
      replace hw := (if_pos c34).mp hw
      refine lv_aload_n hx hb dX5_readProduct_60 rfl (lo_at hl 1 rfl) ?_
      refine lv_iconst (v := 2) hx hb dX5_readProduct_61 (by decide) ?_
      obtain ⟨k35, hw⟩ := hw
      refine res2_v hC (run2_V (As := [.int ((2 : Int32))]) (rest := []) hM hC hl.1.1 kv_RX5_61 (c_X5_refuse l G base A o (2 : Int32) h32 _ hw) (hc_4) k35 rfl rfl rfl ⟨Nat.le_of_ble_eq_true rfl, Nat.le_of_ble_eq_true rfl⟩ (Nat.le_of_ble_eq_true rfl) ⟨Nat.le_of_ble_eq_true rfl, Nat.le_of_ble_eq_true rfl⟩ dX5_readProduct_62) (fun h36 H locs hw hC => ?_)
      refine lv_goto (tgt := 86) hx hb dX5_readProduct_65 (by decide) ?_
      exact t_X5_readProduct_J86 hM o x1 z11 KH K104 Q hKH hK104 h36 H locs ls hC (lo_sub hl [1, 2, 0] rfl) hw
set_option maxHeartbeats 4000000 in
set_option maxRecDepth 100000 in
theorem t_X5_readProduct_L6 {p : Program} {l : Launch} {e : Env} {s : State} {m : MethodId} {args : Array Value} {below : List Frame} {meth : Method} {c : Code} {G : GG} {base : Nat} {A : Nat → Nat} {g0 : Hp} (hM : Mx G base p s m args meth c cX5_readProduct 3 none RX5 "readProduct") (o : Nat) (K104 : Hp → Prop) (Q : Hp → Prop) (hK104 : ∀ (h : Hp) (H : Heap) (locs : List Loc) (ls : Array Slot), Cx2 G base A g0 A h s.heap H locs → lo_has ls 3 [] → K104 h → W p l e rm_X5_readProduct s m args below meth c H locs 0 0 (MQ below (va_Qv Q (PU2 G base A g0 A) (fun q => base ≤ q)) args s 0 0 (fun q => base ≤ q)) (F0 m 104 ls [])) : ∀ (n : Nat) (x1 : Int32) (h : Hp) (H : Heap) (locs : List Loc) (ls : Array Slot), Cx2 G base A g0 A h s.heap H locs → lo_has ls 3 [(0, .ref (A o)), (1, .int x1)] → wp_X5_readProduct_L6 o K104 Q n x1 h → W p l e rm_X5_readProduct s m args below meth c H locs 0 0 (MQ below (va_Qv Q (PU2 G base A g0 A) (fun q => base ≤ q)) args s 0 0 (fun q => base ≤ q)) (F0 m 6 ls []) := by
  intro n
  induction n with
  | zero =>
    intro x1 h H locs ls hC hl hw
    rw [wp_X5_readProduct_L6] at hw
    exact hw.elim
  | succ n ih =>
    intro x1 h H locs ls hC hl hw
    rw [wp_X5_readProduct_L6] at hw
    obtain ⟨hx, hb, hr, hml, hown, hts, hg, hs, hlk, hnm⟩ := id hM
    refine lv_iload_n hx hb dX5_readProduct_6 rfl (lo_at hl 1 rfl) ?_
    refine lv_sipush (v := 600) hx hb dX5_readProduct_7 (by decide) ?_
    refine lv_icmp_ge (tgt := 104) hx hb dX5_readProduct_10 (by decide) (fun c4 => ?_) (fun c4 => ?_)
    ·
      replace hw := (if_pos c4).mp hw
      exact hK104  h H locs ls hC (lo_sub hl [] rfl) hw
    ·
      replace hw := (if_neg c4).mp hw
      refine lv_aload_n hx hb dX5_readProduct_13 rfl (lo_at hl 0 rfl) ?_
      obtain ⟨k5, hw⟩ := hw
      refine res2_i hC (run2_V (As := []) (rest := []) hM hC hl.1.1 kv_RX5_44 (c_X5_kind l G base A o h _ hw) (hc_4) k5 rfl rfl rfl ⟨Nat.le_of_ble_eq_true rfl, Nat.le_of_ble_eq_true rfl⟩ (Nat.le_of_ble_eq_true rfl) ⟨Nat.le_of_ble_eq_true rfl, Nat.le_of_ble_eq_true rfl⟩ dX5_readProduct_14) (fun z7 h6 H locs hw hC => ?_)
      refine lv_bipush (v := 42) hx hb dX5_readProduct_17 (by decide) ?_
      refine lv_icmp_eq (tgt := 31) hx hb dX5_readProduct_19 (by decide) (fun c8 => ?_) (fun c8 => ?_)
      ·
        replace hw := (if_pos c8).mp hw
        exact t_X5_readProduct_J31 hM o x1 (wp_X5_readProduct_L6 o K104 Q n) K104 Q ih hK104 h6 H locs ls hC (lo_sub hl [0, 1] rfl) hw
      ·
        replace hw := (if_neg c8).mp hw
        refine lv_aload_n hx hb dX5_readProduct_22 rfl (lo_at hl 0 rfl) ?_
        obtain ⟨k38, hw⟩ := hw
        refine res2_i hC (run2_V (As := []) (rest := []) hM hC hl.1.1 kv_RX5_44 (c_X5_kind l G base A o h6 _ hw) (hc_4) k38 rfl rfl rfl ⟨Nat.le_of_ble_eq_true rfl, Nat.le_of_ble_eq_true rfl⟩ (Nat.le_of_ble_eq_true rfl) ⟨Nat.le_of_ble_eq_true rfl, Nat.le_of_ble_eq_true rfl⟩ dX5_readProduct_23) (fun z40 h39 H locs hw hC => ?_)
        refine lv_bipush (v := 47) hx hb dX5_readProduct_26 (by decide) ?_
        refine lv_icmp_ne (tgt := 104) hx hb dX5_readProduct_28 (by decide) (fun c41 => ?_) (fun c41 => ?_)
        ·
          replace hw := (if_neg c41).mp hw
          exact hK104  h39 H locs ls hC (lo_sub hl [] rfl) hw
        ·
          replace hw := (if_pos c41).mp hw
          exact t_X5_readProduct_J31 hM o x1 (wp_X5_readProduct_L6 o K104 Q n) K104 Q ih hK104 h39 H locs ls hC (lo_sub hl [0, 1] rfl) hw
set_option maxHeartbeats 4000000 in
set_option maxRecDepth 100000 in
theorem c_X5_readProduct (l : Launch) (G : GG) (base : Nat) (A : Nat → Nat) (o : Nat) (h : Hp) (Q : Hp → Prop) (hw : wp_X5_readProduct o h Q) : Met l yX5_readProduct (ww yX5_readProduct cX5_readProduct 3 none) rm_X5_readProduct (va_Pc [.ref (A o)] (PU2 G base A h A h)) (va_Qv Q (PU2 G base A h A) (fun q => base ≤ q)) 0 0 (fun q => base ≤ q) := by
  refine met2_of (own := RX5) (nm := "readProduct") (by decide) rfl rfl (List.forall_mem_cons.mpr ⟨rfl, (fun _ h => absurd h List.not_mem_nil)⟩) (Nat.le_of_ble_eq_true rfl) rfl ?_
  intro p e s m args below meth c H locs ls hM hC hl
  obtain ⟨hx, hb, hr, hml, hown, hts, hg, hs, hlk, hnm⟩ := id hM
  unfold wp_X5_readProduct at hw
  refine lv_aload_n hx hb dX5_readProduct_0 rfl (lo_at hl 0 rfl) ?_
  obtain ⟨k1, hw⟩ := hw
  refine res2_v hC (run2_V (As := []) (rest := []) hM hC hl.1.1 kv_RX5_103 (c_X5_readPart l G base A o h _ hw) (hc_4) k1 rfl rfl rfl ⟨Nat.le_of_ble_eq_true rfl, Nat.le_of_ble_eq_true rfl⟩ (Nat.le_of_ble_eq_true rfl) ⟨Nat.le_of_ble_eq_true rfl, Nat.le_of_ble_eq_true rfl⟩ dX5_readProduct_1) (fun h2 H locs hw hC => ?_)
  refine lv_iconst (v := 0) hx hb dX5_readProduct_4 (by decide) ?_
  refine lo_istore_n (lv' := [(1, .int ((0 : Int32))), (0, .ref (A o))]) hx hb dX5_readProduct_5 rfl hl (by decide) rfl (fun ls hl => ?_)
  refine t_X5_readProduct_L6 hM o _ Q ?_ fuel (0 : Int32) h2 H locs ls hC (lo_sub hl [1, 0] rfl) hw
  intro  h42 H locs ls hC hl hw
  exact ret2_v hM hC hw dX5_readProduct_104
abbrev rm_X7_isSo : Room := { frames := 2, cells := 0, slots := 0, locals := 48 }
set_option maxRecDepth 100000 in
def wp_X7_isSo (o : Nat) (x1 : Int32) (r2 : Option Nat) (h : Hp) (Q : Int32 → Hp → Prop) : Prop := ((hpK h o).1 = 20 + 5) ∧ (okA h (hpR h o 2) 1 x1 ∧ (∀ v3 : Int32, v3 = hpI h (ad (hpR h o 2)) (x1).toNatClampNeg → (okA h (hpR h o 3) 1 x1 ∧ (∀ v5 : Int32, v5 = hpI h (ad (hpR h o 3)) (x1).toNatClampNeg → ((if v3 = v5 then (Q (1 : Int32) h) else (okA h (hpR h o 2) 1 x1 ∧ (∀ v8 : Int32, v8 = hpI h (ad (hpR h o 2)) (x1).toNatClampNeg → (okA h (hpR h o 3) 1 x1 ∧ (∀ v10 : Int32, v10 = hpI h (ad (hpR h o 3)) (x1).toNatClampNeg → (wp_X7_value o v8 v10 r2 h (fun (z12 : Int32) (h11 : Hp) => (if z12 = 0 then (Q (0 : Int32) h11) else (Q (1 : Int32) h11))))))))))))))
set_option maxHeartbeats 4000000 in
set_option maxRecDepth 100000 in
theorem c_X7_isSo (l : Launch) (G : GG) (base : Nat) (A : Nat → Nat) (o : Nat) (x1 : Int32) (r2 : Option Nat) (h : Hp) (Q : Int32 → Hp → Prop) (hw : wp_X7_isSo o x1 r2 h Q) : Met l yX7_isSo (ww yX7_isSo cX7_isSo 3 (some .boolean)) rm_X7_isSo (va_Pc [.ref (A o), .int x1, va_rf (Option.map A r2)] (PU2 G base A h A h)) (va_Qi Q (PU2 G base A h A) (fun q => base ≤ q)) 0 0 (fun q => base ≤ q) := by
  refine met2_of (own := RX7) (nm := "isSo") (by decide) rfl rfl (List.forall_mem_cons.mpr ⟨rfl, (List.forall_mem_cons.mpr ⟨rfl, (List.forall_mem_cons.mpr ⟨va_rf_cat _, (fun _ h => absurd h List.not_mem_nil)⟩)⟩)⟩) (Nat.le_of_ble_eq_true rfl) rfl ?_
  intro p e s m args below meth c H locs ls hM hC hl
  obtain ⟨hx, hb, hr, hml, hown, hts, hg, hs, hlk, hnm⟩ := id hM
  unfold wp_X7_isSo at hw
  refine lv_aload_n hx hb dX7_isSo_0 rfl (lo_at hl 0 rfl) ?_
  obtain ⟨k1, hw⟩ := hw
  refine s_getR hx hb hts hown hg hC fb_5_2 k1 mk_f_RX7_18 dX7_isSo_1 ?_
  refine lv_iload_n hx hb dX7_isSo_4 rfl (lo_at hl 1 rfl) ?_
  obtain ⟨k2, hw⟩ := hw
  refine sf_2 k2.1 ?_
  refine s_iald hx hb hg hC k2.2.1 k2.2.2 dX7_isSo_5 ?_
  refine lv_topi (fun v3 ev3 => ?_)
  replace hw := hw v3 ev3
  refine lv_aload_n hx hb dX7_isSo_6 rfl (lo_at hl 0 rfl) ?_
  refine s_getR hx hb hts hown hg hC fb_5_3 k1 mk_f_RX7_21 dX7_isSo_7 ?_
  refine lv_iload_n hx hb dX7_isSo_10 rfl (lo_at hl 1 rfl) ?_
  obtain ⟨k4, hw⟩ := hw
  refine sf_2 k4.1 ?_
  refine s_iald hx hb hg hC k4.2.1 k4.2.2 dX7_isSo_11 ?_
  refine lv_topi (fun v5 ev5 => ?_)
  replace hw := hw v5 ev5
  refine lv_icmp_eq (tgt := 35) hx hb dX7_isSo_12 (by decide) (fun c6 => ?_) (fun c6 => ?_)
  ·
    replace hw := (if_pos c6).mp hw
    refine lv_iconst (v := 1) hx hb dX7_isSo_35 (by decide) ?_
    refine lv_goto (tgt := 40) hx hb dX7_isSo_36 (by decide) ?_
    exact ret2_t hM hC rfl hw dX7_isSo_40
  ·
    replace hw := (if_neg c6).mp hw
    refine lv_aload_n hx hb dX7_isSo_15 rfl (lo_at hl 0 rfl) ?_
    refine lv_aload_n hx hb dX7_isSo_16 rfl (lo_at hl 0 rfl) ?_
    refine s_getR hx hb hts hown hg hC fb_5_2 k1 mk_f_RX7_18 dX7_isSo_17 ?_
    refine lv_iload_n hx hb dX7_isSo_20 rfl (lo_at hl 1 rfl) ?_
    obtain ⟨k7, hw⟩ := hw
    refine sf_2 k7.1 ?_
    refine s_iald hx hb hg hC k7.2.1 k7.2.2 dX7_isSo_21 ?_
    refine lv_topi (fun v8 ev8 => ?_)
    replace hw := hw v8 ev8
    refine lv_aload_n hx hb dX7_isSo_22 rfl (lo_at hl 0 rfl) ?_
    refine s_getR hx hb hts hown hg hC fb_5_3 k1 mk_f_RX7_21 dX7_isSo_23 ?_
    refine lv_iload_n hx hb dX7_isSo_26 rfl (lo_at hl 1 rfl) ?_
    obtain ⟨k9, hw⟩ := hw
    refine sf_2 k9.1 ?_
    refine s_iald hx hb hg hC k9.2.1 k9.2.2 dX7_isSo_27 ?_
    refine lv_topi (fun v10 ev10 => ?_)
    replace hw := hw v10 ev10
    refine lo_aload_n (r := Option.map A r2) hx hb dX7_isSo_28 rfl (lo_at hl 2 rfl) ?_
    refine res2_i hC (run2_V (As := [.int v8, .int v10, va_rf (Option.map A r2)]) (rest := []) hM hC hl.1.1 kv_RX7_45 (c_X7_value l G base A o v8 v10 r2 h _ hw) (hc_5) k1 rfl rfl rfl ⟨Nat.le_of_ble_eq_true rfl, Nat.le_of_ble_eq_true rfl⟩ (Nat.le_of_ble_eq_true rfl) ⟨Nat.le_of_ble_eq_true rfl, Nat.le_of_ble_eq_true rfl⟩ dX7_isSo_29) (fun z12 h11 H locs hw hC => ?_)
    refine lv_if_eq (tgt := 39) hx hb dX7_isSo_32 (by decide) (fun c13 => ?_) (fun c13 => ?_)
    ·
      replace hw := (if_pos c13).mp hw
      refine lv_iconst (v := 0) hx hb dX7_isSo_39 (by decide) ?_
      exact ret2_t hM hC rfl hw dX7_isSo_40
    ·
      replace hw := (if_neg c13).mp hw
      refine lv_iconst (v := 1) hx hb dX7_isSo_35 (by decide) ?_
      refine lv_goto (tgt := 40) hx hb dX7_isSo_36 (by decide) ?_
      exact ret2_t hM hC rfl hw dX7_isSo_40
abbrev rm_X7_newHeight : Room := { frames := 3, cells := 0, slots := 0, locals := 70 }
set_option maxRecDepth 100000 in
def wp_X7_newHeight_L3 (o : Nat) (x1 : Int32) (x2 : Int32) (r3 : Option Nat) (K33 : Int32 → Hp → Prop) (K68 : Hp → Prop) (Q : Int32 → Hp → Prop) : Nat → Int32 → Hp → Prop
  | 0, _, _ => False
  | n + 1, x4, h => ((hpK h o).1 = 20 + 5) ∧ ((if (hpI h o 7) ≤ x4 then (K68 h) else (okA h (hpR h o 0) 1 x4 ∧ (∀ v4 : Int32, v4 = hpI h (ad (hpR h o 0)) (x4).toNatClampNeg → ((if v4 = x1 then (wp_X7_isSo o x4 r3 h (fun (z8 : Int32) (h7 : Hp) => (if z8 = 0 then (∀ v10 : Int32, v10 = x4 + (1 : Int32) → (wp_X7_newHeight_L3 o x1 x2 r3 K33 K68 Q n v10 h7)) else (K33 x4 h7)))) else (∀ v6 : Int32, v6 = x4 + (1 : Int32) → (wp_X7_newHeight_L3 o x1 x2 r3 K33 K68 Q n v6 h))))))))
set_option maxRecDepth 100000 in
def wp_X7_newHeight (o : Nat) (x1 : Int32) (x2 : Int32) (r3 : Option Nat) (h : Hp) (Q : Int32 → Hp → Prop) : Prop := wp_X7_newHeight_L3 o x1 x2 r3 (fun (y12 : Int32) (h11 : Hp) => ((hpK h11 o).1 = 20 + 5) ∧ (okA h11 (hpR h11 o 1) 1 y12 ∧ (∀ v15 : Int32, v15 = hpI h11 (ad (hpR h11 o 1)) (y12).toNatClampNeg → (okA h11 (hpR h11 o 2) 1 y12 ∧ (∀ v17 : Int32, v17 = hpI h11 (ad (hpR h11 o 2)) (y12).toNatClampNeg → (wp_X7_value o v15 v17 r3 h11 (fun (z19 : Int32) (h18 : Hp) => ∀ v20 : Int32, v20 = (if z19 < (63 : Int32) then z19 else (63 : Int32)) → (∀ v21 : Int32, v21 = (if (0 : Int32) < v20 then v20 else (0 : Int32)) → (Q v21 h18))))))))) (fun (h22 : Hp) => Q x2 h22) Q fuel (0 : Int32) h
set_option maxHeartbeats 4000000 in
set_option maxRecDepth 100000 in
theorem t_X7_newHeight_L3 {p : Program} {l : Launch} {e : Env} {s : State} {m : MethodId} {args : Array Value} {below : List Frame} {meth : Method} {c : Code} {G : GG} {base : Nat} {A : Nat → Nat} {g0 : Hp} (hM : Mx G base p s m args meth c cX7_newHeight 5 (some .int) RX7 "newHeight") (o : Nat) (x1 : Int32) (x2 : Int32) (r3 : Option Nat) (K33 : Int32 → Hp → Prop) (K68 : Hp → Prop) (Q : Int32 → Hp → Prop) (hK33 : ∀ (y4 : Int32) (h : Hp) (H : Heap) (locs : List Loc) (ls : Array Slot), Cx2 G base A g0 A h s.heap H locs → lo_has ls 5 [(0, .ref (A o)), (3, va_rf (Option.map A r3)), (4, .int y4)] → K33 y4 h → W p l e rm_X7_newHeight s m args below meth c H locs 0 0 (MQ below (va_Qi Q (PU2 G base A g0 A) (fun q => base ≤ q)) args s 0 0 (fun q => base ≤ q)) (F0 m 33 ls [])) (hK68 : ∀ (h : Hp) (H : Heap) (locs : List Loc) (ls : Array Slot), Cx2 G base A g0 A h s.heap H locs → lo_has ls 5 [(2, .int x2)] → K68 h → W p l e rm_X7_newHeight s m args below meth c H locs 0 0 (MQ below (va_Qi Q (PU2 G base A g0 A) (fun q => base ≤ q)) args s 0 0 (fun q => base ≤ q)) (F0 m 68 ls [])) : ∀ (n : Nat) (x4 : Int32) (h : Hp) (H : Heap) (locs : List Loc) (ls : Array Slot), Cx2 G base A g0 A h s.heap H locs → lo_has ls 5 [(0, .ref (A o)), (1, .int x1), (2, .int x2), (3, va_rf (Option.map A r3)), (4, .int x4)] → wp_X7_newHeight_L3 o x1 x2 r3 K33 K68 Q n x4 h → W p l e rm_X7_newHeight s m args below meth c H locs 0 0 (MQ below (va_Qi Q (PU2 G base A g0 A) (fun q => base ≤ q)) args s 0 0 (fun q => base ≤ q)) (F0 m 3 ls []) := by
  intro n
  induction n with
  | zero =>
    intro x4 h H locs ls hC hl hw
    rw [wp_X7_newHeight_L3] at hw
    exact hw.elim
  | succ n ih =>
    intro x4 h H locs ls hC hl hw
    rw [wp_X7_newHeight_L3] at hw
    obtain ⟨hx, hb, hr, hml, hown, hts, hg, hs, hlk, hnm⟩ := id hM
    refine lv_iload hx hb dX7_newHeight_3 (lo_at hl 4 rfl) ?_
    refine lv_aload_n hx hb dX7_newHeight_5 rfl (lo_at hl 0 rfl) ?_
    obtain ⟨k1, hw⟩ := hw
    refine s_getI hx hb hts hown hg hC fb_5_7 k1 mk_f_RX7_34 dX7_newHeight_6 ?_
    refine lv_icmp_ge (tgt := 68) hx hb dX7_newHeight_9 (by decide) (fun c2 => ?_) (fun c2 => ?_)
    ·
      replace hw := (if_pos c2).mp hw
      exact hK68  h H locs ls hC (lo_sub hl [2] rfl) hw
    ·
      replace hw := (if_neg c2).mp hw
      refine lv_aload_n hx hb dX7_newHeight_12 rfl (lo_at hl 0 rfl) ?_
      refine s_getR hx hb hts hown hg hC fb_5_0 k1 mk_f_RX7_9 dX7_newHeight_13 ?_
      refine lv_iload hx hb dX7_newHeight_16 (lo_at hl 4 rfl) ?_
      obtain ⟨k3, hw⟩ := hw
      refine sf_2 k3.1 ?_
      refine s_iald hx hb hg hC k3.2.1 k3.2.2 dX7_newHeight_18 ?_
      refine lv_topi (fun v4 ev4 => ?_)
      replace hw := hw v4 ev4
      refine lv_iload_n hx hb dX7_newHeight_19 rfl (lo_at hl 1 rfl) ?_
      refine lv_icmp_ne (tgt := 62) hx hb dX7_newHeight_20 (by decide) (fun c5 => ?_) (fun c5 => ?_)
      ·
        replace hw := (if_neg c5).mp hw
        obtain ⟨v6, ev6⟩ : ∃ y : Int32, y = x4 + (1 : Int32) := ⟨_, rfl⟩
        replace hw := hw v6 ev6
        refine lo_iinc (v := v6) (lv' := [(4, .int v6), (0, .ref (A o)), (1, .int x1), (2, .int x2), (3, va_rf (Option.map A r3))]) hx hb dX7_newHeight_62 hl (k := 4) rfl (by rw [ev6]; rfl) (by decide) rfl (fun ls hl => ?_)
        refine lv_goto (tgt := 3) hx hb dX7_newHeight_65 (by decide) ?_
        exact ih v6 h H locs ls hC (lo_sub hl [1, 2, 3, 4, 0] rfl) hw
      ·
        replace hw := (if_pos c5).mp hw
        refine lv_aload_n hx hb dX7_newHeight_23 rfl (lo_at hl 0 rfl) ?_
        refine lv_iload hx hb dX7_newHeight_24 (lo_at hl 4 rfl) ?_
        refine lo_aload_n (r := Option.map A r3) hx hb dX7_newHeight_26 rfl (lo_at hl 3 rfl) ?_
        refine res2_i hC (run2_V (As := [.int x4, va_rf (Option.map A r3)]) (rest := []) hM hC hl.1.1 kv_RX7_72 (c_X7_isSo l G base A o x4 r3 h _ hw) (hc_5) k1 rfl rfl rfl ⟨Nat.le_of_ble_eq_true rfl, Nat.le_of_ble_eq_true rfl⟩ (Nat.le_of_ble_eq_true rfl) ⟨Nat.le_of_ble_eq_true rfl, Nat.le_of_ble_eq_true rfl⟩ dX7_newHeight_27) (fun z8 h7 H locs hw hC => ?_)
        refine lv_if_eq (tgt := 62) hx hb dX7_newHeight_30 (by decide) (fun c9 => ?_) (fun c9 => ?_)
        ·
          replace hw := (if_pos c9).mp hw
          obtain ⟨v10, ev10⟩ : ∃ y : Int32, y = x4 + (1 : Int32) := ⟨_, rfl⟩
          replace hw := hw v10 ev10
          refine lo_iinc (v := v10) (lv' := [(4, .int v10), (0, .ref (A o)), (1, .int x1), (2, .int x2), (3, va_rf (Option.map A r3))]) hx hb dX7_newHeight_62 hl (k := 4) rfl (by rw [ev10]; rfl) (by decide) rfl (fun ls hl => ?_)
          refine lv_goto (tgt := 3) hx hb dX7_newHeight_65 (by decide) ?_
          exact ih v10 h7 H locs ls hC (lo_sub hl [1, 2, 3, 4, 0] rfl) hw
        ·
          replace hw := (if_neg c9).mp hw
          exact hK33 x4 h7 H locs ls hC (lo_sub hl [0, 3, 4] rfl) hw
set_option maxHeartbeats 4000000 in
set_option maxRecDepth 100000 in
theorem c_X7_newHeight (l : Launch) (G : GG) (base : Nat) (A : Nat → Nat) (o : Nat) (x1 : Int32) (x2 : Int32) (r3 : Option Nat) (h : Hp) (Q : Int32 → Hp → Prop) (hw : wp_X7_newHeight o x1 x2 r3 h Q) : Met l yX7_newHeight (ww yX7_newHeight cX7_newHeight 5 (some .int)) rm_X7_newHeight (va_Pc [.ref (A o), .int x1, .int x2, va_rf (Option.map A r3)] (PU2 G base A h A h)) (va_Qi Q (PU2 G base A h A) (fun q => base ≤ q)) 0 0 (fun q => base ≤ q) := by
  refine met2_of (own := RX7) (nm := "newHeight") (by decide) rfl rfl (List.forall_mem_cons.mpr ⟨rfl, (List.forall_mem_cons.mpr ⟨rfl, (List.forall_mem_cons.mpr ⟨rfl, (List.forall_mem_cons.mpr ⟨va_rf_cat _, (fun _ h => absurd h List.not_mem_nil)⟩)⟩)⟩)⟩) (Nat.le_of_ble_eq_true rfl) rfl ?_
  intro p e s m args below meth c H locs ls hM hC hl
  obtain ⟨hx, hb, hr, hml, hown, hts, hg, hs, hlk, hnm⟩ := id hM
  unfold wp_X7_newHeight at hw
  refine lv_iconst (v := 0) hx hb dX7_newHeight_0 (by decide) ?_
  refine lo_istore (lv' := [(4, .int ((0 : Int32))), (0, .ref (A o)), (1, .int x1), (2, .int x2), (3, va_rf (Option.map A r3))]) hx hb dX7_newHeight_1 hl (by decide) rfl (fun ls hl => ?_)
  refine t_X7_newHeight_L3 hM o x1 x2 r3 _ _ Q ?_ ?_ fuel (0 : Int32) h H locs ls hC (lo_sub hl [1, 2, 3, 4, 0] rfl) hw
  ·
    intro y12 h11 H locs ls hC hl hw
    refine lv_iconst (v := 0) hx hb dX7_newHeight_33 (by decide) ?_
    refine lv_bipush (v := 63) hx hb dX7_newHeight_34 (by decide) ?_
    refine lv_aload_n hx hb dX7_newHeight_36 rfl (lo_at hl 0 rfl) ?_
    refine lv_aload_n hx hb dX7_newHeight_37 rfl (lo_at hl 0 rfl) ?_
    obtain ⟨k13, hw⟩ := hw
    refine s_getR hx hb hts hown hg hC fb_5_1 k13 mk_f_RX7_15 dX7_newHeight_38 ?_
    refine lv_iload hx hb dX7_newHeight_41 (lo_at hl 2 rfl) ?_
    obtain ⟨k14, hw⟩ := hw
    refine sf_2 k14.1 ?_
    refine s_iald hx hb hg hC k14.2.1 k14.2.2 dX7_newHeight_43 ?_
    refine lv_topi (fun v15 ev15 => ?_)
    replace hw := hw v15 ev15
    refine lv_aload_n hx hb dX7_newHeight_44 rfl (lo_at hl 0 rfl) ?_
    refine s_getR hx hb hts hown hg hC fb_5_2 k13 mk_f_RX7_18 dX7_newHeight_45 ?_
    refine lv_iload hx hb dX7_newHeight_48 (lo_at hl 2 rfl) ?_
    obtain ⟨k16, hw⟩ := hw
    refine sf_2 k16.1 ?_
    refine s_iald hx hb hg hC k16.2.1 k16.2.2 dX7_newHeight_50 ?_
    refine lv_topi (fun v17 ev17 => ?_)
    replace hw := hw v17 ev17
    refine lo_aload_n (r := Option.map A r3) hx hb dX7_newHeight_51 rfl (lo_at hl 1 rfl) ?_
    refine res2_i hC (run2_V (As := [.int v15, .int v17, va_rf (Option.map A r3)]) (rest := [.int ((63 : Int32)), .int ((0 : Int32))]) hM hC hl.1.1 kv_RX7_45 (c_X7_value l G base A o v15 v17 r3 h11 _ hw) (hc_5) k13 rfl rfl rfl ⟨Nat.le_of_ble_eq_true rfl, Nat.le_of_ble_eq_true rfl⟩ (Nat.le_of_ble_eq_true rfl) ⟨Nat.le_of_ble_eq_true rfl, Nat.le_of_ble_eq_true rfl⟩ dX7_newHeight_52) (fun z19 h18 H locs hw hC => ?_)
    refine va_mmin hx hb (by rw [hml]; exact hl.1.1.symm) hown (hts _ mk_m_RX7_76) (hts _ mk_math_s_min) (hts _ mk_ini_math) (hts _ mk_math_c_min) (Nat.le_of_ble_eq_true rfl) (Nat.le_of_ble_eq_true rfl) (Nat.le_of_ble_eq_true rfl) (Nat.le_of_ble_eq_true rfl) dX7_newHeight_55 ?_
    refine lv_topi (fun v20 ev20 => ?_)
    replace hw := hw v20 ev20
    refine va_mmax hx hb (by rw [hml]; exact hl.1.1.symm) hown (hts _ mk_m_RX7_82) (hts _ mk_math_s_max) (hts _ mk_ini_math) (hts _ mk_math_c_max) (Nat.le_of_ble_eq_true rfl) (Nat.le_of_ble_eq_true rfl) (Nat.le_of_ble_eq_true rfl) (Nat.le_of_ble_eq_true rfl) dX7_newHeight_58 ?_
    refine lv_topi (fun v21 ev21 => ?_)
    replace hw := hw v21 ev21
    exact ret2_i hM hC hw dX7_newHeight_61
  ·
    intro  h22 H locs ls hC hl hw
    refine lv_iload_n hx hb dX7_newHeight_68 rfl (lo_at hl 0 rfl) ?_
    exact ret2_i hM hC hw dX7_newHeight_69
abbrev rm_X11_slid : Room := { frames := 4, cells := 0, slots := 0, locals := 116 }
set_option maxRecDepth 100000 in
def wp_X11_slid (o : Nat) (x1 : Int32) (x2 : Int32) (x3 : Int32) (x4 : Int32) (h : Hp) (Q : Int32 → Hp → Prop) : Prop := ((hpK h o).1 = 20 + 9) ∧ (wp_X11_lookerAt o x1 h (fun (z3 : Option Nat) (h2 : Hp) => ((hpK h2 o).1 = 20 + 9) ∧ (wp_X11_ballAt o x2 h2 (fun (z6 : Option Nat) (h5 : Hp) => ((hpK h5 o).1 = 20 + 9) ∧ (wp_X11_ballAt o x3 h5 (fun (z9 : Option Nat) (h8 : Hp) => (if z3 = none then (Q (-1 : Int32) h8) else ((if z6 = none then (Q (-1 : Int32) h8) else ((if z9 = none then (Q (-1 : Int32) h8) else ((if x4 = (0 : Int32) then (okO h8 z3 2 ∧ (wp_X3_measured (ad z3) z6 z9 h8 (fun (z16 : Int32) (h15 : Hp) => wp_X2_many z16 h15 (fun (z18 : Int32) (h17 : Hp) => Q z18 h17)))) else if x4 = (1 : Int32) then (okO h8 z3 2 ∧ (wp_X3_measured (ad z3) z6 z9 h8 (fun (z22 : Int32) (h21 : Hp) => wp_X2_slide z22 h21 (fun (z24 : Int32) (h23 : Hp) => Q z24 h23)))) else if x4 = (2 : Int32) then (okO h8 z3 2 ∧ (wp_X3_measured (ad z3) z6 z9 h8 (fun (z28 : Int32) (h27 : Hp) => wp_X2_longest z28 h27 (fun (z30 : Int32) (h29 : Hp) => Q z30 h29)))) else if x4 = (3 : Int32) then (((hpK h8 o).1 = 20 + 9) ∧ (okO h8 z3 2 ∧ (wp_X3_piecesOf (ad z3) z6 z9 (hpR h8 o 15) h8 (fun (z35 : Int32) (h34 : Hp) => Q z35 h34)))) else if x4 = (4 : Int32) then (okO h8 z6 0 ∧ (wp_X0_missing (ad z6) h8 (fun (z39 : Int32) (h38 : Hp) => okO h38 z9 0 ∧ (wp_X0_missing (ad z9) h38 (fun (z42 : Int32) (h41 : Hp) => Q (z39 + z42) h41))))) else (if x4 < (32 : Int32) then (Q (-1 : Int32) h8) else ((if x4 < (64 : Int32) then (okO h8 z6 0 ∧ (okO h8 z9 0 ∧ (okO h8 z3 2 ∧ (wp_X6_runs (hpR h8 (ad z6) 4) (hpR h8 (ad z9) 4) (x4 - (32 : Int32)) (hpI h8 (ad z3) 0) h8 (fun (z49 : Int32) (h48 : Hp) => wp_J6_bitCount_0f7a4 z49 h48 (fun (z51 : Int32) (h50 : Hp) => Q z51 h50)))))) else (Q (-1 : Int32) h8)))))))))))))))))
set_option maxHeartbeats 4000000 in
set_option maxRecDepth 100000 in
theorem c_X11_slid (l : Launch) (G : GG) (base : Nat) (A : Nat → Nat) (o : Nat) (x1 : Int32) (x2 : Int32) (x3 : Int32) (x4 : Int32) (h : Hp) (Q : Int32 → Hp → Prop) (hw : wp_X11_slid o x1 x2 x3 x4 h Q) : Met l yX11_slid (ww yX11_slid cX11_slid 8 (some .int)) rm_X11_slid (va_Pc [.ref (A o), .int x1, .int x2, .int x3, .int x4] (PU2 G base A h A h)) (va_Qi Q (PU2 G base A h A) (fun q => base ≤ q)) 0 0 (fun q => base ≤ q) := by
  refine met2_of (own := RX11) (nm := "slid") (by decide) rfl rfl (List.forall_mem_cons.mpr ⟨rfl, (List.forall_mem_cons.mpr ⟨rfl, (List.forall_mem_cons.mpr ⟨rfl, (List.forall_mem_cons.mpr ⟨rfl, (List.forall_mem_cons.mpr ⟨rfl, (fun _ h => absurd h List.not_mem_nil)⟩)⟩)⟩)⟩)⟩) (Nat.le_of_ble_eq_true rfl) rfl ?_
  intro p e s m args below meth c H locs ls hM hC hl
  obtain ⟨hx, hb, hr, hml, hown, hts, hg, hs, hlk, hnm⟩ := id hM
  unfold wp_X11_slid at hw
  refine lv_aload_n hx hb dX11_slid_0 rfl (lo_at hl 0 rfl) ?_
  refine lv_iload_n hx hb dX11_slid_1 rfl (lo_at hl 1 rfl) ?_
  obtain ⟨k1, hw⟩ := hw
  refine res2_q hC (run2_V (As := [.int x1]) (rest := []) hM hC hl.1.1 kv_RX11_144 (c_X11_lookerAt l G base A o x1 h _ hw) (hc_9) k1 rfl rfl rfl ⟨Nat.le_of_ble_eq_true rfl, Nat.le_of_ble_eq_true rfl⟩ (Nat.le_of_ble_eq_true rfl) ⟨Nat.le_of_ble_eq_true rfl, Nat.le_of_ble_eq_true rfl⟩ dX11_slid_2) (fun z3 h2 H locs hw hC => ?_)
  refine lo_astore (r := Option.map A z3) (lv' := [(5, va_rf (Option.map A z3)), (0, .ref (A o)), (1, .int x1), (2, .int x2), (3, .int x3), (4, .int x4)]) hx hb dX11_slid_5 hl (by decide) rfl (fun ls hl => ?_)
  refine lv_aload_n hx hb dX11_slid_7 rfl (lo_at hl 1 rfl) ?_
  refine lv_iload_n hx hb dX11_slid_8 rfl (lo_at hl 3 rfl) ?_
  obtain ⟨k4, hw⟩ := hw
  refine res2_q hC (run2_V (As := [.int x2]) (rest := []) hM hC hl.1.1 kv_RX11_140 (c_X11_ballAt l G base A o x2 h2 _ hw) (hc_9) k4 rfl rfl rfl ⟨Nat.le_of_ble_eq_true rfl, Nat.le_of_ble_eq_true rfl⟩ (Nat.le_of_ble_eq_true rfl) ⟨Nat.le_of_ble_eq_true rfl, Nat.le_of_ble_eq_true rfl⟩ dX11_slid_9) (fun z6 h5 H locs hw hC => ?_)
  refine lo_astore (r := Option.map A z6) (lv' := [(6, va_rf (Option.map A z6)), (5, va_rf (Option.map A z3)), (0, .ref (A o)), (1, .int x1), (2, .int x2), (3, .int x3), (4, .int x4)]) hx hb dX11_slid_12 hl (by decide) rfl (fun ls hl => ?_)
  refine lv_aload_n hx hb dX11_slid_14 rfl (lo_at hl 2 rfl) ?_
  refine lv_iload_n hx hb dX11_slid_15 rfl (lo_at hl 5 rfl) ?_
  obtain ⟨k7, hw⟩ := hw
  refine res2_q hC (run2_V (As := [.int x3]) (rest := []) hM hC hl.1.1 kv_RX11_140 (c_X11_ballAt l G base A o x3 h5 _ hw) (hc_9) k7 rfl rfl rfl ⟨Nat.le_of_ble_eq_true rfl, Nat.le_of_ble_eq_true rfl⟩ (Nat.le_of_ble_eq_true rfl) ⟨Nat.le_of_ble_eq_true rfl, Nat.le_of_ble_eq_true rfl⟩ dX11_slid_16) (fun z9 h8 H locs hw hC => ?_)
  refine lo_astore (r := Option.map A z9) (lv' := [(7, va_rf (Option.map A z9)), (6, va_rf (Option.map A z6)), (5, va_rf (Option.map A z3)), (0, .ref (A o)), (1, .int x1), (2, .int x2), (3, .int x3), (4, .int x4)]) hx hb dX11_slid_19 hl (by decide) rfl (fun ls hl => ?_)
  refine lo_aload (r := Option.map A z3) hx hb dX11_slid_21 (lo_at hl 2 rfl) ?_
  refine s_ifnull (r := z3) (A := A) (tgt := 36) hx hb dX11_slid_23 (by decide) (fun c10 => ?_) (fun c10 => ?_)
  ·
    replace hw := (if_pos c10).mp hw
    refine lv_iconst (v := -1) hx hb dX11_slid_36 (by decide) ?_
    exact ret2_i hM hC hw dX11_slid_37
  ·
    replace hw := (if_neg c10).mp hw
    refine lo_aload (r := Option.map A z6) hx hb dX11_slid_26 (lo_at hl 1 rfl) ?_
    refine s_ifnull (r := z6) (A := A) (tgt := 36) hx hb dX11_slid_28 (by decide) (fun c11 => ?_) (fun c11 => ?_)
    ·
      replace hw := (if_pos c11).mp hw
      refine lv_iconst (v := -1) hx hb dX11_slid_36 (by decide) ?_
      exact ret2_i hM hC hw dX11_slid_37
    ·
      replace hw := (if_neg c11).mp hw
      refine lo_aload (r := Option.map A z9) hx hb dX11_slid_31 (lo_at hl 0 rfl) ?_
      refine s_ifnonnull (r := z9) (A := A) (tgt := 38) hx hb dX11_slid_33 (by decide) (fun c12 => ?_) (fun c12 => ?_)
      ·
        replace hw := (if_neg c12).mp hw
        refine lv_iload hx hb dX11_slid_38 (lo_at hl 7 rfl) ?_
        by_cases c13 : x4 = (0 : Int32)
        ·
          replace hw := (if_pos c13).mp hw
          refine lv_tableIn (tgt := 76) hx hb dX11_slid_40 (by rw [c13]; decide) (by rw [c13]; decide) (by rw [c13]; first | done | rfl) (by decide) ?_
          refine lo_aload (r := Option.map A z3) hx hb dX11_slid_76 (lo_at hl 2 rfl) ?_
          refine lo_aload (r := Option.map A z6) hx hb dX11_slid_78 (lo_at hl 1 rfl) ?_
          refine lo_aload (r := Option.map A z9) hx hb dX11_slid_80 (lo_at hl 0 rfl) ?_
          obtain ⟨k14, hw⟩ := hw
          refine sf_3 k14.1 ?_
          refine res2_i hC (run2_V (As := [va_rf (Option.map A z6), va_rf (Option.map A z9)]) (rest := []) hM hC hl.1.1 kv_RX11_199 (c_X3_measured l G base A (ad z3) z6 z9 h8 _ hw) (hc_2) k14.2 rfl rfl rfl ⟨Nat.le_of_ble_eq_true rfl, Nat.le_of_ble_eq_true rfl⟩ (Nat.le_of_ble_eq_true rfl) ⟨Nat.le_of_ble_eq_true rfl, Nat.le_of_ble_eq_true rfl⟩ dX11_slid_82) (fun z16 h15 H locs hw hC => ?_)
          refine res2_i hC (run2_S (As := [.int z16]) (rest := []) hM hC hl.1.1 kv_RX11_203 (c_X2_many l G base A z16 h15 _ hw) rfl rfl rfl ⟨Nat.le_of_ble_eq_true rfl, Nat.le_of_ble_eq_true rfl⟩ (Nat.le_of_ble_eq_true rfl) ⟨Nat.le_of_ble_eq_true rfl, Nat.le_of_ble_eq_true rfl⟩ dX11_slid_85) (fun z18 h17 H locs hw hC => ?_)
          exact ret2_i hM hC hw dX11_slid_88
        replace hw := (if_neg c13).mp hw
        by_cases c19 : x4 = (1 : Int32)
        ·
          replace hw := (if_pos c19).mp hw
          refine lv_tableIn (tgt := 89) hx hb dX11_slid_40 (by rw [c19]; decide) (by rw [c19]; decide) (by rw [c19]; first | done | rfl) (by decide) ?_
          refine lo_aload (r := Option.map A z3) hx hb dX11_slid_89 (lo_at hl 2 rfl) ?_
          refine lo_aload (r := Option.map A z6) hx hb dX11_slid_91 (lo_at hl 1 rfl) ?_
          refine lo_aload (r := Option.map A z9) hx hb dX11_slid_93 (lo_at hl 0 rfl) ?_
          obtain ⟨k20, hw⟩ := hw
          refine sf_3 k20.1 ?_
          refine res2_i hC (run2_V (As := [va_rf (Option.map A z6), va_rf (Option.map A z9)]) (rest := []) hM hC hl.1.1 kv_RX11_199 (c_X3_measured l G base A (ad z3) z6 z9 h8 _ hw) (hc_2) k20.2 rfl rfl rfl ⟨Nat.le_of_ble_eq_true rfl, Nat.le_of_ble_eq_true rfl⟩ (Nat.le_of_ble_eq_true rfl) ⟨Nat.le_of_ble_eq_true rfl, Nat.le_of_ble_eq_true rfl⟩ dX11_slid_95) (fun z22 h21 H locs hw hC => ?_)
          refine res2_i hC (run2_S (As := [.int z22]) (rest := []) hM hC hl.1.1 kv_RX11_209 (c_X2_slide l G base A z22 h21 _ hw) rfl rfl rfl ⟨Nat.le_of_ble_eq_true rfl, Nat.le_of_ble_eq_true rfl⟩ (Nat.le_of_ble_eq_true rfl) ⟨Nat.le_of_ble_eq_true rfl, Nat.le_of_ble_eq_true rfl⟩ dX11_slid_98) (fun z24 h23 H locs hw hC => ?_)
          exact ret2_i hM hC hw dX11_slid_101
        replace hw := (if_neg c19).mp hw
        by_cases c25 : x4 = (2 : Int32)
        ·
          replace hw := (if_pos c25).mp hw
          refine lv_tableIn (tgt := 102) hx hb dX11_slid_40 (by rw [c25]; decide) (by rw [c25]; decide) (by rw [c25]; first | done | rfl) (by decide) ?_
          refine lo_aload (r := Option.map A z3) hx hb dX11_slid_102 (lo_at hl 2 rfl) ?_
          refine lo_aload (r := Option.map A z6) hx hb dX11_slid_104 (lo_at hl 1 rfl) ?_
          refine lo_aload (r := Option.map A z9) hx hb dX11_slid_106 (lo_at hl 0 rfl) ?_
          obtain ⟨k26, hw⟩ := hw
          refine sf_3 k26.1 ?_
          refine res2_i hC (run2_V (As := [va_rf (Option.map A z6), va_rf (Option.map A z9)]) (rest := []) hM hC hl.1.1 kv_RX11_199 (c_X3_measured l G base A (ad z3) z6 z9 h8 _ hw) (hc_2) k26.2 rfl rfl rfl ⟨Nat.le_of_ble_eq_true rfl, Nat.le_of_ble_eq_true rfl⟩ (Nat.le_of_ble_eq_true rfl) ⟨Nat.le_of_ble_eq_true rfl, Nat.le_of_ble_eq_true rfl⟩ dX11_slid_108) (fun z28 h27 H locs hw hC => ?_)
          refine res2_i hC (run2_S (As := [.int z28]) (rest := []) hM hC hl.1.1 kv_RX11_212 (c_X2_longest l G base A z28 h27 _ hw) rfl rfl rfl ⟨Nat.le_of_ble_eq_true rfl, Nat.le_of_ble_eq_true rfl⟩ (Nat.le_of_ble_eq_true rfl) ⟨Nat.le_of_ble_eq_true rfl, Nat.le_of_ble_eq_true rfl⟩ dX11_slid_111) (fun z30 h29 H locs hw hC => ?_)
          exact ret2_i hM hC hw dX11_slid_114
        replace hw := (if_neg c25).mp hw
        by_cases c31 : x4 = (3 : Int32)
        ·
          replace hw := (if_pos c31).mp hw
          refine lv_tableIn (tgt := 115) hx hb dX11_slid_40 (by rw [c31]; decide) (by rw [c31]; decide) (by rw [c31]; first | done | rfl) (by decide) ?_
          refine lo_aload (r := Option.map A z3) hx hb dX11_slid_115 (lo_at hl 2 rfl) ?_
          refine lo_aload (r := Option.map A z6) hx hb dX11_slid_117 (lo_at hl 1 rfl) ?_
          refine lo_aload (r := Option.map A z9) hx hb dX11_slid_119 (lo_at hl 0 rfl) ?_
          refine lv_aload_n hx hb dX11_slid_121 rfl (lo_at hl 3 rfl) ?_
          obtain ⟨k32, hw⟩ := hw
          refine s_getR hx hb hts hown hg hC fb_9_15 k32 mk_f_RX11_69 dX11_slid_122 ?_
          obtain ⟨k33, hw⟩ := hw
          refine sf_4 k33.1 ?_
          refine res2_i hC (run2_V (As := [va_rf (Option.map A z6), va_rf (Option.map A z9), va_rf (Option.map A (hpR h8 o 15))]) (rest := []) hM hC hl.1.1 kv_RX11_215 (c_X3_piecesOf l G base A (ad z3) z6 z9 (hpR h8 o 15) h8 _ hw) (hc_2) k33.2 rfl rfl rfl ⟨Nat.le_of_ble_eq_true rfl, Nat.le_of_ble_eq_true rfl⟩ (Nat.le_of_ble_eq_true rfl) ⟨Nat.le_of_ble_eq_true rfl, Nat.le_of_ble_eq_true rfl⟩ dX11_slid_125) (fun z35 h34 H locs hw hC => ?_)
          exact ret2_i hM hC hw dX11_slid_128
        replace hw := (if_neg c31).mp hw
        by_cases c36 : x4 = (4 : Int32)
        ·
          replace hw := (if_pos c36).mp hw
          refine lv_tableIn (tgt := 129) hx hb dX11_slid_40 (by rw [c36]; decide) (by rw [c36]; decide) (by rw [c36]; first | done | rfl) (by decide) ?_
          refine lo_aload (r := Option.map A z6) hx hb dX11_slid_129 (lo_at hl 1 rfl) ?_
          obtain ⟨k37, hw⟩ := hw
          refine sf_1 k37.1 ?_
          refine res2_i hC (run2_V (As := []) (rest := []) hM hC hl.1.1 kv_RX11_219 (c_X0_missing l G base A (ad z6) h8 _ hw) (hc_0) k37.2 rfl rfl rfl ⟨Nat.le_of_ble_eq_true rfl, Nat.le_of_ble_eq_true rfl⟩ (Nat.le_of_ble_eq_true rfl) ⟨Nat.le_of_ble_eq_true rfl, Nat.le_of_ble_eq_true rfl⟩ dX11_slid_131) (fun z39 h38 H locs hw hC => ?_)
          refine lo_aload (r := Option.map A z9) hx hb dX11_slid_134 (lo_at hl 0 rfl) ?_
          obtain ⟨k40, hw⟩ := hw
          refine sf_1 k40.1 ?_
          refine res2_i hC (run2_V (As := []) (rest := [.int z39]) hM hC hl.1.1 kv_RX11_219 (c_X0_missing l G base A (ad z9) h38 _ hw) (hc_0) k40.2 rfl rfl rfl ⟨Nat.le_of_ble_eq_true rfl, Nat.le_of_ble_eq_true rfl⟩ (Nat.le_of_ble_eq_true rfl) ⟨Nat.le_of_ble_eq_true rfl, Nat.le_of_ble_eq_true rfl⟩ dX11_slid_136) (fun z42 h41 H locs hw hC => ?_)
          refine lv_iadd hx hb dX11_slid_139 ?_
          exact ret2_i hM hC hw dX11_slid_140
        replace hw := (if_neg c36).mp hw
        refine lv_tableOut (tgt := 141) hx hb dX11_slid_40 (sw_out 0 5 (by decide) (fun k hk => match k, hk with | 0, _ => c13 | 1, _ => c19 | 2, _ => c25 | 3, _ => c31 | 4, _ => c36 | k + 5, hk => absurd hk (by omega))) (by decide) ?_
        refine lv_iload hx hb dX11_slid_141 (lo_at hl 7 rfl) ?_
        refine lv_bipush (v := 32) hx hb dX11_slid_143 (by decide) ?_
        refine lv_icmp_lt (tgt := 155) hx hb dX11_slid_145 (by decide) (fun c43 => ?_) (fun c43 => ?_)
        ·
          replace hw := (if_pos c43).mp hw
          refine lv_iconst (v := -1) hx hb dX11_slid_155 (by decide) ?_
          refine lv_goto (tgt := 185) hx hb dX11_slid_156 (by decide) ?_
          exact ret2_i hM hC hw dX11_slid_185
        ·
          replace hw := (if_neg c43).mp hw
          refine lv_iload hx hb dX11_slid_148 (lo_at hl 7 rfl) ?_
          refine lv_bipush (v := 64) hx hb dX11_slid_150 (by decide) ?_
          refine lv_icmp_lt (tgt := 159) hx hb dX11_slid_152 (by decide) (fun c44 => ?_) (fun c44 => ?_)
          ·
            replace hw := (if_pos c44).mp hw
            refine lo_aload (r := Option.map A z6) hx hb dX11_slid_159 (lo_at hl 1 rfl) ?_
            obtain ⟨k45, hw⟩ := hw
            refine sf_1 k45.1 ?_
            refine s_getR hx hb hts hown hg hC fb_0_4 k45.2 mk_f_RX11_131 dX11_slid_161 ?_
            refine lo_aload (r := Option.map A z9) hx hb dX11_slid_164 (lo_at hl 0 rfl) ?_
            obtain ⟨k46, hw⟩ := hw
            refine sf_1 k46.1 ?_
            refine s_getR hx hb hts hown hg hC fb_0_4 k46.2 mk_f_RX11_131 dX11_slid_166 ?_
            refine lv_iload hx hb dX11_slid_169 (lo_at hl 7 rfl) ?_
            refine lv_bipush (v := 32) hx hb dX11_slid_171 (by decide) ?_
            refine lv_isub hx hb dX11_slid_173 ?_
            refine lo_aload (r := Option.map A z3) hx hb dX11_slid_174 (lo_at hl 2 rfl) ?_
            obtain ⟨k47, hw⟩ := hw
            refine sf_1 k47.1 ?_
            refine s_getI hx hb hts hown hg hC fb_2_0 k47.2 mk_f_RX11_223 dX11_slid_176 ?_
            refine res2_i hC (run2_S (As := [va_rf (Option.map A (hpR h8 (ad z6) 4)), va_rf (Option.map A (hpR h8 (ad z9) 4)), .int (x4 - (32 : Int32)), .int (hpI h8 (ad z3) 0)]) (rest := []) hM hC hl.1.1 kv_RX11_226 (c_X6_runs l G base A (hpR h8 (ad z6) 4) (hpR h8 (ad z9) 4) (x4 - (32 : Int32)) (hpI h8 (ad z3) 0) h8 _ hw) rfl rfl rfl ⟨Nat.le_of_ble_eq_true rfl, Nat.le_of_ble_eq_true rfl⟩ (Nat.le_of_ble_eq_true rfl) ⟨Nat.le_of_ble_eq_true rfl, Nat.le_of_ble_eq_true rfl⟩ dX11_slid_179) (fun z49 h48 H locs hw hC => ?_)
            refine res2_i hC (run2_S (As := [.int z49]) (rest := []) hM hC hl.1.1 kv_RX11_232 (c_J6_bitCount_0f7a4 l G base A z49 h48 _ hw) rfl rfl rfl ⟨Nat.le_of_ble_eq_true rfl, Nat.le_of_ble_eq_true rfl⟩ (Nat.le_of_ble_eq_true rfl) ⟨Nat.le_of_ble_eq_true rfl, Nat.le_of_ble_eq_true rfl⟩ dX11_slid_182) (fun z51 h50 H locs hw hC => ?_)
            exact ret2_i hM hC hw dX11_slid_185
          ·
            replace hw := (if_neg c44).mp hw
            refine lv_iconst (v := -1) hx hb dX11_slid_155 (by decide) ?_
            refine lv_goto (tgt := 185) hx hb dX11_slid_156 (by decide) ?_
            exact ret2_i hM hC hw dX11_slid_185
      ·
        replace hw := (if_pos c12).mp hw
        refine lv_iconst (v := -1) hx hb dX11_slid_36 (by decide) ?_
        exact ret2_i hM hC hw dX11_slid_37
abbrev rm_X11_odds : Room := { frames := 3, cells := 0, slots := 0, locals := 78 }
set_option maxRecDepth 100000 in
def wp_X11_odds_L74 (o : Nat) (x2 : Int32) (x3 : Int32) (x4 : Int32) (r5 : Option Nat) (x7 : Int32) (r8 : Option Nat) (K134 : Int32 → Hp → Prop) (Q : Int32 → Hp → Prop) : Nat → Int32 → Int32 → Hp → Prop
  | 0, _, _, _ => False
  | n + 1, x6, x9, h => ((hpK h o).1 = 20 + 9) ∧ ((if (hpI h o 5) ≤ x9 then (K134 x6 h) else (okA h (hpR h o 4) 3 x9 ∧ (wp_X11_truthOf r8 (hpR h (ad (hpR h o 4)) (x9).toNatClampNeg) h (fun (z19 : Int32) (h18 : Hp) => (if z19 = x3 then ((if x4 = (1 : Int32) then (∀ v23 : Int32, v23 = x6 + (1 : Int32) → (∀ v24 : Int32, v24 = x9 + (1 : Int32) → (wp_X11_odds_L74 o x2 x3 x4 r5 x7 r8 K134 Q n v23 v24 h18))) else (okO h18 r5 2 ∧ (wp_X3_measured (ad r5) r8 (hpR h (ad (hpR h o 4)) (x9).toNatClampNeg) h18 (fun (z27 : Int32) (h26 : Hp) => wp_X2_longest z27 h26 (fun (z29 : Int32) (h28 : Hp) => (if z29 < x2 then (∀ v31 : Int32, v31 = x9 + (1 : Int32) → (wp_X11_odds_L74 o x2 x3 x4 r5 x7 r8 K134 Q n x6 v31 h28)) else (∀ v32 : Int32, v32 = x6 + (1 : Int32) → (∀ v33 : Int32, v33 = x9 + (1 : Int32) → (wp_X11_odds_L74 o x2 x3 x4 r5 x7 r8 K134 Q n v32 v33 h28)))))))))) else (∀ v21 : Int32, v21 = x9 + (1 : Int32) → (wp_X11_odds_L74 o x2 x3 x4 r5 x7 r8 K134 Q n x6 v21 h18))))))))
set_option maxRecDepth 100000 in
def wp_X11_odds_L50 (o : Nat) (x2 : Int32) (x3 : Int32) (x4 : Int32) (r5 : Option Nat) (K140 : Int32 → Hp → Prop) (Q : Int32 → Hp → Prop) : Nat → Int32 → Int32 → Hp → Prop
  | 0, _, _, _ => False
  | n + 1, x6, x7, h => ((hpK h o).1 = 20 + 9) ∧ ((if (hpI h o 5) ≤ x7 then (K140 x6 h) else (okA h (hpR h o 4) 3 x7 ∧ (∀ v14 : Int32, v14 = x7 + (1 : Int32) → (wp_X11_odds_L74 o x2 x3 x4 r5 x7 (hpR h (ad (hpR h o 4)) (x7).toNatClampNeg) (fun (y35 : Int32) (h34 : Hp) => ∀ v36 : Int32, v36 = x7 + (1 : Int32) → (wp_X11_odds_L50 o x2 x3 x4 r5 K140 Q n y35 v36 h34)) Q fuel x6 v14 h)))))
set_option maxRecDepth 100000 in
def wp_X11_odds (o : Nat) (x1 : Int32) (x2 : Int32) (x3 : Int32) (x4 : Int32) (h : Hp) (Q : Int32 → Hp → Prop) : Prop := ((hpK h o).1 = 20 + 9) ∧ (wp_X11_lookerAt o x1 h (fun (z3 : Option Nat) (h2 : Hp) => (if z3 = none then (Q (-1 : Int32) h2) else ((if x2 < 0 then (Q (-1 : Int32) h2) else ((if (32 : Int32) < x2 then (Q (-1 : Int32) h2) else ((if x3 < 0 then (Q (-1 : Int32) h2) else ((if (2 : Int32) < x3 then (Q (-1 : Int32) h2) else ((if x4 < 0 then (Q (-1 : Int32) h2) else ((if x4 ≤ (1 : Int32) then (wp_X11_odds_L50 o x2 x3 x4 z3 (fun (y38 : Int32) (h37 : Hp) => Q y38 h37) Q fuel (0 : Int32) (0 : Int32) h2) else (Q (-1 : Int32) h2))))))))))))))))
set_option maxHeartbeats 4000000 in
set_option maxRecDepth 100000 in
theorem t_X11_odds_L74 {p : Program} {l : Launch} {e : Env} {s : State} {m : MethodId} {args : Array Value} {below : List Frame} {meth : Method} {c : Code} {G : GG} {base : Nat} {A : Nat → Nat} {g0 : Hp} (hM : Mx G base p s m args meth c cX11_odds 11 (some .int) RX11 "odds") (o : Nat) (x2 : Int32) (x3 : Int32) (x4 : Int32) (r5 : Option Nat) (x7 : Int32) (r8 : Option Nat) (K134 : Int32 → Hp → Prop) (Q : Int32 → Hp → Prop) (hK134 : ∀ (y6 : Int32) (h : Hp) (H : Heap) (locs : List Loc) (ls : Array Slot), Cx2 G base A g0 A h s.heap H locs → lo_has ls 11 [(0, .ref (A o)), (2, .int x2), (3, .int x3), (4, .int x4), (5, va_rf (Option.map A r5)), (6, .int y6), (7, .int x7)] → K134 y6 h → W p l e rm_X11_odds s m args below meth c H locs 0 0 (MQ below (va_Qi Q (PU2 G base A g0 A) (fun q => base ≤ q)) args s 0 0 (fun q => base ≤ q)) (F0 m 134 ls [])) : ∀ (n : Nat) (x6 : Int32) (x9 : Int32) (h : Hp) (H : Heap) (locs : List Loc) (ls : Array Slot), Cx2 G base A g0 A h s.heap H locs → lo_has ls 11 [(0, .ref (A o)), (2, .int x2), (3, .int x3), (4, .int x4), (5, va_rf (Option.map A r5)), (6, .int x6), (7, .int x7), (8, va_rf (Option.map A r8)), (9, .int x9)] → wp_X11_odds_L74 o x2 x3 x4 r5 x7 r8 K134 Q n x6 x9 h → W p l e rm_X11_odds s m args below meth c H locs 0 0 (MQ below (va_Qi Q (PU2 G base A g0 A) (fun q => base ≤ q)) args s 0 0 (fun q => base ≤ q)) (F0 m 74 ls []) := by
  intro n
  induction n with
  | zero =>
    intro x6 x9 h H locs ls hC hl hw
    rw [wp_X11_odds_L74] at hw
    exact hw.elim
  | succ n ih =>
    intro x6 x9 h H locs ls hC hl hw
    rw [wp_X11_odds_L74] at hw
    obtain ⟨hx, hb, hr, hml, hown, hts, hg, hs, hlk, hnm⟩ := id hM
    refine lv_iload hx hb dX11_odds_74 (lo_at hl 8 rfl) ?_
    refine lv_aload_n hx hb dX11_odds_76 rfl (lo_at hl 0 rfl) ?_
    obtain ⟨k15, hw⟩ := hw
    refine s_getI hx hb hts hown hg hC fb_9_5 k15 mk_f_RX11_122 dX11_odds_77 ?_
    refine lv_icmp_ge (tgt := 134) hx hb dX11_odds_80 (by decide) (fun c16 => ?_) (fun c16 => ?_)
    ·
      replace hw := (if_pos c16).mp hw
      exact hK134 x6 h H locs ls hC (lo_sub hl [0, 1, 2, 3, 4, 5, 6] rfl) hw
    ·
      replace hw := (if_neg c16).mp hw
      refine lv_aload_n hx hb dX11_odds_83 rfl (lo_at hl 0 rfl) ?_
      refine s_getR hx hb hts hown hg hC fb_9_4 k15 mk_f_RX11_23 dX11_odds_84 ?_
      refine lv_iload hx hb dX11_odds_87 (lo_at hl 8 rfl) ?_
      obtain ⟨k17, hw⟩ := hw
      refine sf_2 k17.1 ?_
      refine s_aald (kd := 3) (t0 := 2) hx hb hg hC k17.2.1 (by decide) rfl k17.2.2 dX11_odds_89 ?_
      refine lo_astore (r := Option.map A (hpR h (ad (hpR h o 4)) (x9).toNatClampNeg)) (lv' := [(10, va_rf (Option.map A (hpR h (ad (hpR h o 4)) (x9).toNatClampNeg))), (0, .ref (A o)), (2, .int x2), (3, .int x3), (4, .int x4), (5, va_rf (Option.map A r5)), (6, .int x6), (7, .int x7), (8, va_rf (Option.map A r8)), (9, .int x9)]) hx hb dX11_odds_90 hl (by decide) rfl (fun ls hl => ?_)
      refine lo_aload (r := Option.map A r8) hx hb dX11_odds_92 (lo_at hl 8 rfl) ?_
      refine lo_aload (r := Option.map A (hpR h (ad (hpR h o 4)) (x9).toNatClampNeg)) hx hb dX11_odds_94 (lo_at hl 0 rfl) ?_
      refine res2_i hC (run2_S (As := [va_rf (Option.map A r8), va_rf (Option.map A (hpR h (ad (hpR h o 4)) (x9).toNatClampNeg))]) (rest := []) hM hC hl.1.1 kv_RX11_241 (c_X11_truthOf l G base A r8 (hpR h (ad (hpR h o 4)) (x9).toNatClampNeg) h _ hw) rfl rfl rfl ⟨Nat.le_of_ble_eq_true rfl, Nat.le_of_ble_eq_true rfl⟩ (Nat.le_of_ble_eq_true rfl) ⟨Nat.le_of_ble_eq_true rfl, Nat.le_of_ble_eq_true rfl⟩ dX11_odds_96) (fun z19 h18 H locs hw hC => ?_)
      refine lv_iload_n hx hb dX11_odds_99 rfl (lo_at hl 3 rfl) ?_
      refine lv_icmp_ne (tgt := 128) hx hb dX11_odds_100 (by decide) (fun c20 => ?_) (fun c20 => ?_)
      ·
        replace hw := (if_neg c20).mp hw
        obtain ⟨v21, ev21⟩ : ∃ y : Int32, y = x9 + (1 : Int32) := ⟨_, rfl⟩
        replace hw := hw v21 ev21
        refine lo_iinc (v := v21) (lv' := [(9, .int v21), (10, va_rf (Option.map A (hpR h (ad (hpR h o 4)) (x9).toNatClampNeg))), (0, .ref (A o)), (2, .int x2), (3, .int x3), (4, .int x4), (5, va_rf (Option.map A r5)), (6, .int x6), (7, .int x7), (8, va_rf (Option.map A r8))]) hx hb dX11_odds_128 hl (k := 9) rfl (by rw [ev21]; rfl) (by decide) rfl (fun ls hl => ?_)
        refine lv_goto (tgt := 74) hx hb dX11_odds_131 (by decide) ?_
        exact ih x6 v21 h18 H locs ls hC (lo_sub hl [2, 3, 4, 5, 6, 7, 8, 9, 0] rfl) hw
      ·
        replace hw := (if_pos c20).mp hw
        refine lv_iload hx hb dX11_odds_103 (lo_at hl 4 rfl) ?_
        refine lv_iconst (v := 1) hx hb dX11_odds_105 (by decide) ?_
        refine lv_icmp_eq (tgt := 125) hx hb dX11_odds_106 (by decide) (fun c22 => ?_) (fun c22 => ?_)
        ·
          replace hw := (if_pos c22).mp hw
          obtain ⟨v23, ev23⟩ : ∃ y : Int32, y = x6 + (1 : Int32) := ⟨_, rfl⟩
          replace hw := hw v23 ev23
          refine lo_iinc (v := v23) (lv' := [(6, .int v23), (10, va_rf (Option.map A (hpR h (ad (hpR h o 4)) (x9).toNatClampNeg))), (0, .ref (A o)), (2, .int x2), (3, .int x3), (4, .int x4), (5, va_rf (Option.map A r5)), (7, .int x7), (8, va_rf (Option.map A r8)), (9, .int x9)]) hx hb dX11_odds_125 hl (k := 6) rfl (by rw [ev23]; rfl) (by decide) rfl (fun ls hl => ?_)
          obtain ⟨v24, ev24⟩ : ∃ y : Int32, y = x9 + (1 : Int32) := ⟨_, rfl⟩
          replace hw := hw v24 ev24
          refine lo_iinc (v := v24) (lv' := [(9, .int v24), (6, .int v23), (10, va_rf (Option.map A (hpR h (ad (hpR h o 4)) (x9).toNatClampNeg))), (0, .ref (A o)), (2, .int x2), (3, .int x3), (4, .int x4), (5, va_rf (Option.map A r5)), (7, .int x7), (8, va_rf (Option.map A r8))]) hx hb dX11_odds_128 hl (k := 9) rfl (by rw [ev24]; rfl) (by decide) rfl (fun ls hl => ?_)
          refine lv_goto (tgt := 74) hx hb dX11_odds_131 (by decide) ?_
          exact ih v23 v24 h18 H locs ls hC (lo_sub hl [3, 4, 5, 6, 7, 1, 8, 9, 0] rfl) hw
        ·
          replace hw := (if_neg c22).mp hw
          refine lo_aload (r := Option.map A r5) hx hb dX11_odds_109 (lo_at hl 5 rfl) ?_
          refine lo_aload (r := Option.map A r8) hx hb dX11_odds_111 (lo_at hl 8 rfl) ?_
          refine lo_aload (r := Option.map A (hpR h (ad (hpR h o 4)) (x9).toNatClampNeg)) hx hb dX11_odds_113 (lo_at hl 0 rfl) ?_
          obtain ⟨k25, hw⟩ := hw
          refine sf_3 k25.1 ?_
          refine res2_i hC (run2_V (As := [va_rf (Option.map A r8), va_rf (Option.map A (hpR h (ad (hpR h o 4)) (x9).toNatClampNeg))]) (rest := []) hM hC hl.1.1 kv_RX11_199 (c_X3_measured l G base A (ad r5) r8 (hpR h (ad (hpR h o 4)) (x9).toNatClampNeg) h18 _ hw) (hc_2) k25.2 rfl rfl rfl ⟨Nat.le_of_ble_eq_true rfl, Nat.le_of_ble_eq_true rfl⟩ (Nat.le_of_ble_eq_true rfl) ⟨Nat.le_of_ble_eq_true rfl, Nat.le_of_ble_eq_true rfl⟩ dX11_odds_115) (fun z27 h26 H locs hw hC => ?_)
          refine res2_i hC (run2_S (As := [.int z27]) (rest := []) hM hC hl.1.1 kv_RX11_212 (c_X2_longest l G base A z27 h26 _ hw) rfl rfl rfl ⟨Nat.le_of_ble_eq_true rfl, Nat.le_of_ble_eq_true rfl⟩ (Nat.le_of_ble_eq_true rfl) ⟨Nat.le_of_ble_eq_true rfl, Nat.le_of_ble_eq_true rfl⟩ dX11_odds_118) (fun z29 h28 H locs hw hC => ?_)
          refine lv_iload_n hx hb dX11_odds_121 rfl (lo_at hl 2 rfl) ?_
          refine lv_icmp_lt (tgt := 128) hx hb dX11_odds_122 (by decide) (fun c30 => ?_) (fun c30 => ?_)
          ·
            replace hw := (if_pos c30).mp hw
            obtain ⟨v31, ev31⟩ : ∃ y : Int32, y = x9 + (1 : Int32) := ⟨_, rfl⟩
            replace hw := hw v31 ev31
            refine lo_iinc (v := v31) (lv' := [(9, .int v31), (10, va_rf (Option.map A (hpR h (ad (hpR h o 4)) (x9).toNatClampNeg))), (0, .ref (A o)), (2, .int x2), (3, .int x3), (4, .int x4), (5, va_rf (Option.map A r5)), (6, .int x6), (7, .int x7), (8, va_rf (Option.map A r8))]) hx hb dX11_odds_128 hl (k := 9) rfl (by rw [ev31]; rfl) (by decide) rfl (fun ls hl => ?_)
            refine lv_goto (tgt := 74) hx hb dX11_odds_131 (by decide) ?_
            exact ih x6 v31 h28 H locs ls hC (lo_sub hl [2, 3, 4, 5, 6, 7, 8, 9, 0] rfl) hw
          ·
            replace hw := (if_neg c30).mp hw
            obtain ⟨v32, ev32⟩ : ∃ y : Int32, y = x6 + (1 : Int32) := ⟨_, rfl⟩
            replace hw := hw v32 ev32
            refine lo_iinc (v := v32) (lv' := [(6, .int v32), (10, va_rf (Option.map A (hpR h (ad (hpR h o 4)) (x9).toNatClampNeg))), (0, .ref (A o)), (2, .int x2), (3, .int x3), (4, .int x4), (5, va_rf (Option.map A r5)), (7, .int x7), (8, va_rf (Option.map A r8)), (9, .int x9)]) hx hb dX11_odds_125 hl (k := 6) rfl (by rw [ev32]; rfl) (by decide) rfl (fun ls hl => ?_)
            obtain ⟨v33, ev33⟩ : ∃ y : Int32, y = x9 + (1 : Int32) := ⟨_, rfl⟩
            replace hw := hw v33 ev33
            refine lo_iinc (v := v33) (lv' := [(9, .int v33), (6, .int v32), (10, va_rf (Option.map A (hpR h (ad (hpR h o 4)) (x9).toNatClampNeg))), (0, .ref (A o)), (2, .int x2), (3, .int x3), (4, .int x4), (5, va_rf (Option.map A r5)), (7, .int x7), (8, va_rf (Option.map A r8))]) hx hb dX11_odds_128 hl (k := 9) rfl (by rw [ev33]; rfl) (by decide) rfl (fun ls hl => ?_)
            refine lv_goto (tgt := 74) hx hb dX11_odds_131 (by decide) ?_
            exact ih v32 v33 h28 H locs ls hC (lo_sub hl [3, 4, 5, 6, 7, 1, 8, 9, 0] rfl) hw
set_option maxHeartbeats 4000000 in
set_option maxRecDepth 100000 in
theorem t_X11_odds_L50 {p : Program} {l : Launch} {e : Env} {s : State} {m : MethodId} {args : Array Value} {below : List Frame} {meth : Method} {c : Code} {G : GG} {base : Nat} {A : Nat → Nat} {g0 : Hp} (hM : Mx G base p s m args meth c cX11_odds 11 (some .int) RX11 "odds") (o : Nat) (x2 : Int32) (x3 : Int32) (x4 : Int32) (r5 : Option Nat) (K140 : Int32 → Hp → Prop) (Q : Int32 → Hp → Prop) (hK140 : ∀ (y6 : Int32) (h : Hp) (H : Heap) (locs : List Loc) (ls : Array Slot), Cx2 G base A g0 A h s.heap H locs → lo_has ls 11 [(6, .int y6)] → K140 y6 h → W p l e rm_X11_odds s m args below meth c H locs 0 0 (MQ below (va_Qi Q (PU2 G base A g0 A) (fun q => base ≤ q)) args s 0 0 (fun q => base ≤ q)) (F0 m 140 ls [])) : ∀ (n : Nat) (x6 : Int32) (x7 : Int32) (h : Hp) (H : Heap) (locs : List Loc) (ls : Array Slot), Cx2 G base A g0 A h s.heap H locs → lo_has ls 11 [(0, .ref (A o)), (2, .int x2), (3, .int x3), (4, .int x4), (5, va_rf (Option.map A r5)), (6, .int x6), (7, .int x7)] → wp_X11_odds_L50 o x2 x3 x4 r5 K140 Q n x6 x7 h → W p l e rm_X11_odds s m args below meth c H locs 0 0 (MQ below (va_Qi Q (PU2 G base A g0 A) (fun q => base ≤ q)) args s 0 0 (fun q => base ≤ q)) (F0 m 50 ls []) := by
  intro n
  induction n with
  | zero =>
    intro x6 x7 h H locs ls hC hl hw
    rw [wp_X11_odds_L50] at hw
    exact hw.elim
  | succ n ih =>
    intro x6 x7 h H locs ls hC hl hw
    rw [wp_X11_odds_L50] at hw
    obtain ⟨hx, hb, hr, hml, hown, hts, hg, hs, hlk, hnm⟩ := id hM
    refine lv_iload hx hb dX11_odds_50 (lo_at hl 6 rfl) ?_
    refine lv_aload_n hx hb dX11_odds_52 rfl (lo_at hl 0 rfl) ?_
    obtain ⟨k11, hw⟩ := hw
    refine s_getI hx hb hts hown hg hC fb_9_5 k11 mk_f_RX11_122 dX11_odds_53 ?_
    refine lv_icmp_ge (tgt := 140) hx hb dX11_odds_56 (by decide) (fun c12 => ?_) (fun c12 => ?_)
    ·
      replace hw := (if_pos c12).mp hw
      exact hK140 x6 h H locs ls hC (lo_sub hl [5] rfl) hw
    ·
      replace hw := (if_neg c12).mp hw
      refine lv_aload_n hx hb dX11_odds_59 rfl (lo_at hl 0 rfl) ?_
      refine s_getR hx hb hts hown hg hC fb_9_4 k11 mk_f_RX11_23 dX11_odds_60 ?_
      refine lv_iload hx hb dX11_odds_63 (lo_at hl 6 rfl) ?_
      obtain ⟨k13, hw⟩ := hw
      refine sf_2 k13.1 ?_
      refine s_aald (kd := 3) (t0 := 2) hx hb hg hC k13.2.1 (by decide) rfl k13.2.2 dX11_odds_65 ?_
      refine lo_astore (r := Option.map A (hpR h (ad (hpR h o 4)) (x7).toNatClampNeg)) (lv' := [(8, va_rf (Option.map A (hpR h (ad (hpR h o 4)) (x7).toNatClampNeg))), (0, .ref (A o)), (2, .int x2), (3, .int x3), (4, .int x4), (5, va_rf (Option.map A r5)), (6, .int x6), (7, .int x7)]) hx hb dX11_odds_66 hl (by decide) rfl (fun ls hl => ?_)
      refine lv_iload hx hb dX11_odds_68 (lo_at hl 7 rfl) ?_
      refine lv_iconst (v := 1) hx hb dX11_odds_70 (by decide) ?_
      refine lv_iadd hx hb dX11_odds_71 ?_
      refine lv_topi (fun v14 ev14 => ?_)
      replace hw := hw v14 ev14
      refine lo_istore (lv' := [(9, .int v14), (8, va_rf (Option.map A (hpR h (ad (hpR h o 4)) (x7).toNatClampNeg))), (0, .ref (A o)), (2, .int x2), (3, .int x3), (4, .int x4), (5, va_rf (Option.map A r5)), (6, .int x6), (7, .int x7)]) hx hb dX11_odds_72 hl (by decide) rfl (fun ls hl => ?_)
      refine t_X11_odds_L74 hM o x2 x3 x4 r5 x7 (hpR h (ad (hpR h o 4)) (x7).toNatClampNeg) _ Q ?_ fuel x6 v14 h H locs ls hC (lo_sub hl [2, 3, 4, 5, 6, 7, 8, 1, 0] rfl) hw
      intro y35 h34 H locs ls hC hl hw
      obtain ⟨v36, ev36⟩ : ∃ y : Int32, y = x7 + (1 : Int32) := ⟨_, rfl⟩
      replace hw := hw v36 ev36
      refine lo_iinc (v := v36) (lv' := [(7, .int v36), (0, .ref (A o)), (2, .int x2), (3, .int x3), (4, .int x4), (5, va_rf (Option.map A r5)), (6, .int y35)]) hx hb dX11_odds_134 hl (k := 6) rfl (by rw [ev36]; rfl) (by decide) rfl (fun ls hl => ?_)
      refine lv_goto (tgt := 50) hx hb dX11_odds_137 (by decide) ?_
      exact ih y35 v36 h34 H locs ls hC (lo_sub hl [1, 2, 3, 4, 5, 6, 0] rfl) hw
set_option maxHeartbeats 4000000 in
set_option maxRecDepth 100000 in
theorem c_X11_odds (l : Launch) (G : GG) (base : Nat) (A : Nat → Nat) (o : Nat) (x1 : Int32) (x2 : Int32) (x3 : Int32) (x4 : Int32) (h : Hp) (Q : Int32 → Hp → Prop) (hw : wp_X11_odds o x1 x2 x3 x4 h Q) : Met l yX11_odds (ww yX11_odds cX11_odds 11 (some .int)) rm_X11_odds (va_Pc [.ref (A o), .int x1, .int x2, .int x3, .int x4] (PU2 G base A h A h)) (va_Qi Q (PU2 G base A h A) (fun q => base ≤ q)) 0 0 (fun q => base ≤ q) := by
  refine met2_of (own := RX11) (nm := "odds") (by decide) rfl rfl (List.forall_mem_cons.mpr ⟨rfl, (List.forall_mem_cons.mpr ⟨rfl, (List.forall_mem_cons.mpr ⟨rfl, (List.forall_mem_cons.mpr ⟨rfl, (List.forall_mem_cons.mpr ⟨rfl, (fun _ h => absurd h List.not_mem_nil)⟩)⟩)⟩)⟩)⟩) (Nat.le_of_ble_eq_true rfl) rfl ?_
  intro p e s m args below meth c H locs ls hM hC hl
  obtain ⟨hx, hb, hr, hml, hown, hts, hg, hs, hlk, hnm⟩ := id hM
  unfold wp_X11_odds at hw
  refine lv_aload_n hx hb dX11_odds_0 rfl (lo_at hl 0 rfl) ?_
  refine lv_iload_n hx hb dX11_odds_1 rfl (lo_at hl 1 rfl) ?_
  obtain ⟨k1, hw⟩ := hw
  refine res2_q hC (run2_V (As := [.int x1]) (rest := []) hM hC hl.1.1 kv_RX11_144 (c_X11_lookerAt l G base A o x1 h _ hw) (hc_9) k1 rfl rfl rfl ⟨Nat.le_of_ble_eq_true rfl, Nat.le_of_ble_eq_true rfl⟩ (Nat.le_of_ble_eq_true rfl) ⟨Nat.le_of_ble_eq_true rfl, Nat.le_of_ble_eq_true rfl⟩ dX11_odds_2) (fun z3 h2 H locs hw hC => ?_)
  refine lo_astore (r := Option.map A z3) (lv' := [(5, va_rf (Option.map A z3)), (0, .ref (A o)), (1, .int x1), (2, .int x2), (3, .int x3), (4, .int x4)]) hx hb dX11_odds_5 hl (by decide) rfl (fun ls hl => ?_)
  refine lo_aload (r := Option.map A z3) hx hb dX11_odds_7 (lo_at hl 0 rfl) ?_
  refine s_ifnull (r := z3) (A := A) (tgt := 42) hx hb dX11_odds_9 (by decide) (fun c4 => ?_) (fun c4 => ?_)
  ·
    replace hw := (if_pos c4).mp hw
    refine lv_iconst (v := -1) hx hb dX11_odds_42 (by decide) ?_
    exact ret2_i hM hC hw dX11_odds_43
  ·
    replace hw := (if_neg c4).mp hw
    refine lv_iload_n hx hb dX11_odds_12 rfl (lo_at hl 3 rfl) ?_
    refine lv_if_lt (tgt := 42) hx hb dX11_odds_13 (by decide) (fun c5 => ?_) (fun c5 => ?_)
    ·
      replace hw := (if_pos c5).mp hw
      refine lv_iconst (v := -1) hx hb dX11_odds_42 (by decide) ?_
      exact ret2_i hM hC hw dX11_odds_43
    ·
      replace hw := (if_neg c5).mp hw
      refine lv_iload_n hx hb dX11_odds_16 rfl (lo_at hl 3 rfl) ?_
      refine lv_bipush (v := 32) hx hb dX11_odds_17 (by decide) ?_
      refine lv_icmp_gt (tgt := 42) hx hb dX11_odds_19 (by decide) (fun c6 => ?_) (fun c6 => ?_)
      ·
        replace hw := (if_pos c6).mp hw
        refine lv_iconst (v := -1) hx hb dX11_odds_42 (by decide) ?_
        exact ret2_i hM hC hw dX11_odds_43
      ·
        replace hw := (if_neg c6).mp hw
        refine lv_iload_n hx hb dX11_odds_22 rfl (lo_at hl 4 rfl) ?_
        refine lv_if_lt (tgt := 42) hx hb dX11_odds_23 (by decide) (fun c7 => ?_) (fun c7 => ?_)
        ·
          replace hw := (if_pos c7).mp hw
          refine lv_iconst (v := -1) hx hb dX11_odds_42 (by decide) ?_
          exact ret2_i hM hC hw dX11_odds_43
        ·
          replace hw := (if_neg c7).mp hw
          refine lv_iload_n hx hb dX11_odds_26 rfl (lo_at hl 4 rfl) ?_
          refine lv_iconst (v := 2) hx hb dX11_odds_27 (by decide) ?_
          refine lv_icmp_gt (tgt := 42) hx hb dX11_odds_28 (by decide) (fun c8 => ?_) (fun c8 => ?_)
          ·
            replace hw := (if_pos c8).mp hw
            refine lv_iconst (v := -1) hx hb dX11_odds_42 (by decide) ?_
            exact ret2_i hM hC hw dX11_odds_43
          ·
            replace hw := (if_neg c8).mp hw
            refine lv_iload hx hb dX11_odds_31 (lo_at hl 5 rfl) ?_
            refine lv_if_lt (tgt := 42) hx hb dX11_odds_33 (by decide) (fun c9 => ?_) (fun c9 => ?_)
            ·
              replace hw := (if_pos c9).mp hw
              refine lv_iconst (v := -1) hx hb dX11_odds_42 (by decide) ?_
              exact ret2_i hM hC hw dX11_odds_43
            ·
              replace hw := (if_neg c9).mp hw
              refine lv_iload hx hb dX11_odds_36 (lo_at hl 5 rfl) ?_
              refine lv_iconst (v := 1) hx hb dX11_odds_38 (by decide) ?_
              refine lv_icmp_le (tgt := 44) hx hb dX11_odds_39 (by decide) (fun c10 => ?_) (fun c10 => ?_)
              ·
                replace hw := (if_pos c10).mp hw
                refine lv_iconst (v := 0) hx hb dX11_odds_44 (by decide) ?_
                refine lo_istore (lv' := [(6, .int ((0 : Int32))), (5, va_rf (Option.map A z3)), (0, .ref (A o)), (1, .int x1), (2, .int x2), (3, .int x3), (4, .int x4)]) hx hb dX11_odds_45 hl (by decide) rfl (fun ls hl => ?_)
                refine lv_iconst (v := 0) hx hb dX11_odds_47 (by decide) ?_
                refine lo_istore (lv' := [(7, .int ((0 : Int32))), (6, .int ((0 : Int32))), (5, va_rf (Option.map A z3)), (0, .ref (A o)), (1, .int x1), (2, .int x2), (3, .int x3), (4, .int x4)]) hx hb dX11_odds_48 hl (by decide) rfl (fun ls hl => ?_)
                refine t_X11_odds_L50 hM o x2 x3 x4 z3 _ Q ?_ fuel (0 : Int32) (0 : Int32) h2 H locs ls hC (lo_sub hl [3, 5, 6, 7, 2, 1, 0] rfl) hw
                intro y38 h37 H locs ls hC hl hw
                refine lv_iload hx hb dX11_odds_140 (lo_at hl 0 rfl) ?_
                exact ret2_i hM hC hw dX11_odds_142
              ·
                replace hw := (if_neg c10).mp hw
                refine lv_iconst (v := -1) hx hb dX11_odds_42 (by decide) ?_
                exact ret2_i hM hC hw dX11_odds_43
abbrev rm_X11_far : Room := { frames := 3, cells := 0, slots := 0, locals := 78 }
set_option maxRecDepth 100000 in
def wp_X11_far_J102 (o : Nat) (x2 : Int32) (r3 : Option Nat) (x4 : Int32) (x5 : Int32) (r6 : Option Nat) (x7 : Int32) (r8 : Option Nat) (KH : Int32 → Int32 → Hp → Prop) (K136 : Int32 → Hp → Prop) (Q : Int32 → Hp → Prop) (h : Hp) : Prop := okO h r3 2 ∧ (wp_X3_measured (ad r3) r6 r8 h (fun (z21 : Int32) (h20 : Hp) => wp_X2_longest z21 h20 (fun (z23 : Int32) (h22 : Hp) => (if x2 ≤ z23 then (∀ v25 : Int32, v25 = x7 + (1 : Int32) → (KH x4 v25 h22)) else (okO h22 r8 0 ∧ (okO h22 r6 0 ∧ (∀ v28 : Int32, v28 = (hpI h22 (ad r8) 2) - (hpI h22 (ad r6) 2) → (∀ v29 : Int32, v29 = x7 + (1 : Int32) → (KH v28 v29 h22)))))))))
set_option maxRecDepth 100000 in
def wp_X11_far_L52 (o : Nat) (x2 : Int32) (r3 : Option Nat) (x5 : Int32) (r6 : Option Nat) (K136 : Int32 → Hp → Prop) (Q : Int32 → Hp → Prop) : Nat → Int32 → Int32 → Hp → Prop
  | 0, _, _, _ => False
  | n + 1, x4, x7, h => ((hpK h o).1 = 20 + 9) ∧ ((if (hpI h o 5) ≤ x7 then (K136 x4 h) else (okA h (hpR h o 4) 3 x7 ∧ (wp_X11_truthOf r6 (hpR h (ad (hpR h o 4)) (x7).toNatClampNeg) h (fun (z15 : Int32) (h14 : Hp) => (if z15 = 0 then ((if x4 = (-1 : Int32) then (wp_X11_far_J102 o x2 r3 x4 x5 r6 x7 (hpR h (ad (hpR h o 4)) (x7).toNatClampNeg) (wp_X11_far_L52 o x2 r3 x5 r6 K136 Q n) K136 Q h14) else (okO h14 (hpR h (ad (hpR h o 4)) (x7).toNatClampNeg) 0 ∧ (okO h14 r6 0 ∧ ((if x4 ≤ ((hpI h14 (ad (hpR h (ad (hpR h o 4)) (x7).toNatClampNeg)) 2) - (hpI h14 (ad r6) 2)) then (∀ v33 : Int32, v33 = x7 + (1 : Int32) → (wp_X11_far_L52 o x2 r3 x5 r6 K136 Q n x4 v33 h14)) else (wp_X11_far_J102 o x2 r3 x4 x5 r6 x7 (hpR h (ad (hpR h o 4)) (x7).toNatClampNeg) (wp_X11_far_L52 o x2 r3 x5 r6 K136 Q n) K136 Q h14))))))) else (∀ v17 : Int32, v17 = x7 + (1 : Int32) → (wp_X11_far_L52 o x2 r3 x5 r6 K136 Q n x4 v17 h14))))))))
set_option maxRecDepth 100000 in
def wp_X11_far_L28 (o : Nat) (x2 : Int32) (r3 : Option Nat) (K142 : Int32 → Hp → Prop) (Q : Int32 → Hp → Prop) : Nat → Int32 → Int32 → Hp → Prop
  | 0, _, _, _ => False
  | n + 1, x4, x5, h => ((hpK h o).1 = 20 + 9) ∧ ((if (hpI h o 5) ≤ x5 then (K142 x4 h) else (okA h (hpR h o 4) 3 x5 ∧ (∀ v10 : Int32, v10 = x5 + (1 : Int32) → (wp_X11_far_L52 o x2 r3 x5 (hpR h (ad (hpR h o 4)) (x5).toNatClampNeg) (fun (y35 : Int32) (h34 : Hp) => ∀ v36 : Int32, v36 = x5 + (1 : Int32) → (wp_X11_far_L28 o x2 r3 K142 Q n y35 v36 h34)) Q fuel x4 v10 h)))))
set_option maxRecDepth 100000 in
def wp_X11_far (o : Nat) (x1 : Int32) (x2 : Int32) (h : Hp) (Q : Int32 → Hp → Prop) : Prop := ((hpK h o).1 = 20 + 9) ∧ (wp_X11_lookerAt o x1 h (fun (z3 : Option Nat) (h2 : Hp) => (if z3 = none then (Q (-1 : Int32) h2) else ((if x2 < 0 then (Q (-1 : Int32) h2) else ((if x2 ≤ (33 : Int32) then (wp_X11_far_L28 o x2 z3 (fun (y38 : Int32) (h37 : Hp) => Q y38 h37) Q fuel (-1 : Int32) (0 : Int32) h2) else (Q (-1 : Int32) h2))))))))
set_option maxHeartbeats 4000000 in
set_option maxRecDepth 100000 in
theorem t_X11_far_J102 {p : Program} {l : Launch} {e : Env} {s : State} {m : MethodId} {args : Array Value} {below : List Frame} {meth : Method} {c : Code} {G : GG} {base : Nat} {A : Nat → Nat} {g0 : Hp} (hM : Mx G base p s m args meth c cX11_far 9 (some .int) RX11 "far") (o : Nat) (x2 : Int32) (r3 : Option Nat) (x4 : Int32) (x5 : Int32) (r6 : Option Nat) (x7 : Int32) (r8 : Option Nat) (KH : Int32 → Int32 → Hp → Prop) (K136 : Int32 → Hp → Prop) (Q : Int32 → Hp → Prop) (hKH : ∀ (y4 : Int32) (y7 : Int32) (h : Hp) (H : Heap) (locs : List Loc) (ls : Array Slot), Cx2 G base A g0 A h s.heap H locs → lo_has ls 9 [(0, .ref (A o)), (2, .int x2), (3, va_rf (Option.map A r3)), (4, .int y4), (5, .int x5), (6, va_rf (Option.map A r6)), (7, .int y7)] → KH y4 y7 h → W p l e rm_X11_far s m args below meth c H locs 0 0 (MQ below (va_Qi Q (PU2 G base A g0 A) (fun q => base ≤ q)) args s 0 0 (fun q => base ≤ q)) (F0 m 52 ls [])) (hK136 : ∀ (y4 : Int32) (h : Hp) (H : Heap) (locs : List Loc) (ls : Array Slot), Cx2 G base A g0 A h s.heap H locs → lo_has ls 9 [(0, .ref (A o)), (2, .int x2), (3, va_rf (Option.map A r3)), (4, .int y4), (5, .int x5)] → K136 y4 h → W p l e rm_X11_far s m args below meth c H locs 0 0 (MQ below (va_Qi Q (PU2 G base A g0 A) (fun q => base ≤ q)) args s 0 0 (fun q => base ≤ q)) (F0 m 136 ls [])) (h : Hp) (H : Heap) (locs : List Loc) (ls : Array Slot) : Cx2 G base A g0 A h s.heap H locs → lo_has ls 9 [(0, .ref (A o)), (2, .int x2), (3, va_rf (Option.map A r3)), (4, .int x4), (5, .int x5), (6, va_rf (Option.map A r6)), (7, .int x7), (8, va_rf (Option.map A r8))] → wp_X11_far_J102 o x2 r3 x4 x5 r6 x7 r8 KH K136 Q h → W p l e rm_X11_far s m args below meth c H locs 0 0 (MQ below (va_Qi Q (PU2 G base A g0 A) (fun q => base ≤ q)) args s 0 0 (fun q => base ≤ q)) (F0 m 102 ls []) := by
  intro hC hl hw
  unfold wp_X11_far_J102 at hw
  obtain ⟨hx, hb, hr, hml, hown, hts, hg, hs, hlk, hnm⟩ := id hM
  refine lo_aload_n (r := Option.map A r3) hx hb dX11_far_102 rfl (lo_at hl 2 rfl) ?_
  refine lo_aload (r := Option.map A r6) hx hb dX11_far_103 (lo_at hl 5 rfl) ?_
  refine lo_aload (r := Option.map A r8) hx hb dX11_far_105 (lo_at hl 7 rfl) ?_
  obtain ⟨k19, hw⟩ := hw
  refine sf_3 k19.1 ?_
  refine res2_i hC (run2_V (As := [va_rf (Option.map A r6), va_rf (Option.map A r8)]) (rest := []) hM hC hl.1.1 kv_RX11_199 (c_X3_measured l G base A (ad r3) r6 r8 h _ hw) (hc_2) k19.2 rfl rfl rfl ⟨Nat.le_of_ble_eq_true rfl, Nat.le_of_ble_eq_true rfl⟩ (Nat.le_of_ble_eq_true rfl) ⟨Nat.le_of_ble_eq_true rfl, Nat.le_of_ble_eq_true rfl⟩ dX11_far_107) (fun z21 h20 H locs hw hC => ?_)
  refine res2_i hC (run2_S (As := [.int z21]) (rest := []) hM hC hl.1.1 kv_RX11_212 (c_X2_longest l G base A z21 h20 _ hw) rfl rfl rfl ⟨Nat.le_of_ble_eq_true rfl, Nat.le_of_ble_eq_true rfl⟩ (Nat.le_of_ble_eq_true rfl) ⟨Nat.le_of_ble_eq_true rfl, Nat.le_of_ble_eq_true rfl⟩ dX11_far_110) (fun z23 h22 H locs hw hC => ?_)
  refine lv_iload_n hx hb dX11_far_113 rfl (lo_at hl 1 rfl) ?_
  refine lv_icmp_ge (tgt := 130) hx hb dX11_far_114 (by decide) (fun c24 => ?_) (fun c24 => ?_)
  ·
    replace hw := (if_pos c24).mp hw
    obtain ⟨v25, ev25⟩ : ∃ y : Int32, y = x7 + (1 : Int32) := ⟨_, rfl⟩
    replace hw := hw v25 ev25
    refine lo_iinc (v := v25) (lv' := [(7, .int v25), (0, .ref (A o)), (2, .int x2), (3, va_rf (Option.map A r3)), (4, .int x4), (5, .int x5), (6, va_rf (Option.map A r6)), (8, va_rf (Option.map A r8))]) hx hb dX11_far_130 hl (k := 6) rfl (by rw [ev25]; rfl) (by decide) rfl (fun ls hl => ?_)
    refine lv_goto (tgt := 52) hx hb dX11_far_133 (by decide) ?_
    exact hKH x4 v25 h22 H locs ls hC (lo_sub hl [1, 2, 3, 4, 5, 6, 0] rfl) hw
  ·
    replace hw := (if_neg c24).mp hw
    refine lo_aload (r := Option.map A r8) hx hb dX11_far_117 (lo_at hl 7 rfl) ?_
    obtain ⟨k26, hw⟩ := hw
    refine sf_1 k26.1 ?_
    refine s_getI hx hb hts hown hg hC fb_0_2 k26.2 mk_f_RX11_244 dX11_far_119 ?_
    refine lo_aload (r := Option.map A r6) hx hb dX11_far_122 (lo_at hl 5 rfl) ?_
    obtain ⟨k27, hw⟩ := hw
    refine sf_1 k27.1 ?_
    refine s_getI hx hb hts hown hg hC fb_0_2 k27.2 mk_f_RX11_244 dX11_far_124 ?_
    refine lv_isub hx hb dX11_far_127 ?_
    refine lv_topi (fun v28 ev28 => ?_)
    replace hw := hw v28 ev28
    refine lo_istore (lv' := [(4, .int v28), (0, .ref (A o)), (2, .int x2), (3, va_rf (Option.map A r3)), (5, .int x5), (6, va_rf (Option.map A r6)), (7, .int x7), (8, va_rf (Option.map A r8))]) hx hb dX11_far_128 hl (by decide) rfl (fun ls hl => ?_)
    obtain ⟨v29, ev29⟩ : ∃ y : Int32, y = x7 + (1 : Int32) := ⟨_, rfl⟩
    replace hw := hw v29 ev29
    refine lo_iinc (v := v29) (lv' := [(7, .int v29), (4, .int v28), (0, .ref (A o)), (2, .int x2), (3, va_rf (Option.map A r3)), (5, .int x5), (6, va_rf (Option.map A r6)), (8, va_rf (Option.map A r8))]) hx hb dX11_far_130 hl (k := 6) rfl (by rw [ev29]; rfl) (by decide) rfl (fun ls hl => ?_)
    refine lv_goto (tgt := 52) hx hb dX11_far_133 (by decide) ?_
    exact hKH v28 v29 h22 H locs ls hC (lo_sub hl [2, 3, 4, 1, 5, 6, 0] rfl) hw
set_option maxHeartbeats 4000000 in
set_option maxRecDepth 100000 in
theorem t_X11_far_L52 {p : Program} {l : Launch} {e : Env} {s : State} {m : MethodId} {args : Array Value} {below : List Frame} {meth : Method} {c : Code} {G : GG} {base : Nat} {A : Nat → Nat} {g0 : Hp} (hM : Mx G base p s m args meth c cX11_far 9 (some .int) RX11 "far") (o : Nat) (x2 : Int32) (r3 : Option Nat) (x5 : Int32) (r6 : Option Nat) (K136 : Int32 → Hp → Prop) (Q : Int32 → Hp → Prop) (hK136 : ∀ (y4 : Int32) (h : Hp) (H : Heap) (locs : List Loc) (ls : Array Slot), Cx2 G base A g0 A h s.heap H locs → lo_has ls 9 [(0, .ref (A o)), (2, .int x2), (3, va_rf (Option.map A r3)), (4, .int y4), (5, .int x5)] → K136 y4 h → W p l e rm_X11_far s m args below meth c H locs 0 0 (MQ below (va_Qi Q (PU2 G base A g0 A) (fun q => base ≤ q)) args s 0 0 (fun q => base ≤ q)) (F0 m 136 ls [])) : ∀ (n : Nat) (x4 : Int32) (x7 : Int32) (h : Hp) (H : Heap) (locs : List Loc) (ls : Array Slot), Cx2 G base A g0 A h s.heap H locs → lo_has ls 9 [(0, .ref (A o)), (2, .int x2), (3, va_rf (Option.map A r3)), (4, .int x4), (5, .int x5), (6, va_rf (Option.map A r6)), (7, .int x7)] → wp_X11_far_L52 o x2 r3 x5 r6 K136 Q n x4 x7 h → W p l e rm_X11_far s m args below meth c H locs 0 0 (MQ below (va_Qi Q (PU2 G base A g0 A) (fun q => base ≤ q)) args s 0 0 (fun q => base ≤ q)) (F0 m 52 ls []) := by
  intro n
  induction n with
  | zero =>
    intro x4 x7 h H locs ls hC hl hw
    rw [wp_X11_far_L52] at hw
    exact hw.elim
  | succ n ih =>
    intro x4 x7 h H locs ls hC hl hw
    rw [wp_X11_far_L52] at hw
    obtain ⟨hx, hb, hr, hml, hown, hts, hg, hs, hlk, hnm⟩ := id hM
    refine lv_iload hx hb dX11_far_52 (lo_at hl 6 rfl) ?_
    refine lv_aload_n hx hb dX11_far_54 rfl (lo_at hl 0 rfl) ?_
    obtain ⟨k11, hw⟩ := hw
    refine s_getI hx hb hts hown hg hC fb_9_5 k11 mk_f_RX11_122 dX11_far_55 ?_
    refine lv_icmp_ge (tgt := 136) hx hb dX11_far_58 (by decide) (fun c12 => ?_) (fun c12 => ?_)
    ·
      replace hw := (if_pos c12).mp hw
      exact hK136 x4 h H locs ls hC (lo_sub hl [0, 1, 2, 3, 4] rfl) hw
    ·
      replace hw := (if_neg c12).mp hw
      refine lv_aload_n hx hb dX11_far_61 rfl (lo_at hl 0 rfl) ?_
      refine s_getR hx hb hts hown hg hC fb_9_4 k11 mk_f_RX11_23 dX11_far_62 ?_
      refine lv_iload hx hb dX11_far_65 (lo_at hl 6 rfl) ?_
      obtain ⟨k13, hw⟩ := hw
      refine sf_2 k13.1 ?_
      refine s_aald (kd := 3) (t0 := 2) hx hb hg hC k13.2.1 (by decide) rfl k13.2.2 dX11_far_67 ?_
      refine lo_astore (r := Option.map A (hpR h (ad (hpR h o 4)) (x7).toNatClampNeg)) (lv' := [(8, va_rf (Option.map A (hpR h (ad (hpR h o 4)) (x7).toNatClampNeg))), (0, .ref (A o)), (2, .int x2), (3, va_rf (Option.map A r3)), (4, .int x4), (5, .int x5), (6, va_rf (Option.map A r6)), (7, .int x7)]) hx hb dX11_far_68 hl (by decide) rfl (fun ls hl => ?_)
      refine lo_aload (r := Option.map A r6) hx hb dX11_far_70 (lo_at hl 6 rfl) ?_
      refine lo_aload (r := Option.map A (hpR h (ad (hpR h o 4)) (x7).toNatClampNeg)) hx hb dX11_far_72 (lo_at hl 0 rfl) ?_
      refine res2_i hC (run2_S (As := [va_rf (Option.map A r6), va_rf (Option.map A (hpR h (ad (hpR h o 4)) (x7).toNatClampNeg))]) (rest := []) hM hC hl.1.1 kv_RX11_241 (c_X11_truthOf l G base A r6 (hpR h (ad (hpR h o 4)) (x7).toNatClampNeg) h _ hw) rfl rfl rfl ⟨Nat.le_of_ble_eq_true rfl, Nat.le_of_ble_eq_true rfl⟩ (Nat.le_of_ble_eq_true rfl) ⟨Nat.le_of_ble_eq_true rfl, Nat.le_of_ble_eq_true rfl⟩ dX11_far_74) (fun z15 h14 H locs hw hC => ?_)
      refine lv_if_ne (tgt := 130) hx hb dX11_far_77 (by decide) (fun c16 => ?_) (fun c16 => ?_)
      ·
        replace hw := (if_neg c16).mp hw
        obtain ⟨v17, ev17⟩ : ∃ y : Int32, y = x7 + (1 : Int32) := ⟨_, rfl⟩
        replace hw := hw v17 ev17
        refine lo_iinc (v := v17) (lv' := [(7, .int v17), (8, va_rf (Option.map A (hpR h (ad (hpR h o 4)) (x7).toNatClampNeg))), (0, .ref (A o)), (2, .int x2), (3, va_rf (Option.map A r3)), (4, .int x4), (5, .int x5), (6, va_rf (Option.map A r6))]) hx hb dX11_far_130 hl (k := 7) rfl (by rw [ev17]; rfl) (by decide) rfl (fun ls hl => ?_)
        refine lv_goto (tgt := 52) hx hb dX11_far_133 (by decide) ?_
        exact ih x4 v17 h14 H locs ls hC (lo_sub hl [2, 3, 4, 5, 6, 7, 0] rfl) hw
      ·
        replace hw := (if_pos c16).mp hw
        refine lv_iload hx hb dX11_far_80 (lo_at hl 4 rfl) ?_
        refine lv_iconst (v := -1) hx hb dX11_far_82 (by decide) ?_
        refine lv_icmp_eq (tgt := 102) hx hb dX11_far_83 (by decide) (fun c18 => ?_) (fun c18 => ?_)
        ·
          replace hw := (if_pos c18).mp hw
          exact t_X11_far_J102 hM o x2 r3 x4 x5 r6 x7 (hpR h (ad (hpR h o 4)) (x7).toNatClampNeg) (wp_X11_far_L52 o x2 r3 x5 r6 K136 Q n) K136 Q ih hK136 h14 H locs ls hC (lo_sub hl [1, 2, 3, 4, 5, 6, 7, 0] rfl) hw
        ·
          replace hw := (if_neg c18).mp hw
          refine lo_aload (r := Option.map A (hpR h (ad (hpR h o 4)) (x7).toNatClampNeg)) hx hb dX11_far_86 (lo_at hl 0 rfl) ?_
          obtain ⟨k30, hw⟩ := hw
          refine sf_1 k30.1 ?_
          refine s_getI hx hb hts hown hg hC fb_0_2 k30.2 mk_f_RX11_244 dX11_far_88 ?_
          refine lo_aload (r := Option.map A r6) hx hb dX11_far_91 (lo_at hl 6 rfl) ?_
          obtain ⟨k31, hw⟩ := hw
          refine sf_1 k31.1 ?_
          refine s_getI hx hb hts hown hg hC fb_0_2 k31.2 mk_f_RX11_244 dX11_far_93 ?_
          refine lv_isub hx hb dX11_far_96 ?_
          refine lv_iload hx hb dX11_far_97 (lo_at hl 4 rfl) ?_
          refine lv_icmp_ge (tgt := 130) hx hb dX11_far_99 (by decide) (fun c32 => ?_) (fun c32 => ?_)
          ·
            replace hw := (if_pos c32).mp hw
            obtain ⟨v33, ev33⟩ : ∃ y : Int32, y = x7 + (1 : Int32) := ⟨_, rfl⟩
            replace hw := hw v33 ev33
            refine lo_iinc (v := v33) (lv' := [(7, .int v33), (8, va_rf (Option.map A (hpR h (ad (hpR h o 4)) (x7).toNatClampNeg))), (0, .ref (A o)), (2, .int x2), (3, va_rf (Option.map A r3)), (4, .int x4), (5, .int x5), (6, va_rf (Option.map A r6))]) hx hb dX11_far_130 hl (k := 7) rfl (by rw [ev33]; rfl) (by decide) rfl (fun ls hl => ?_)
            refine lv_goto (tgt := 52) hx hb dX11_far_133 (by decide) ?_
            exact ih x4 v33 h14 H locs ls hC (lo_sub hl [2, 3, 4, 5, 6, 7, 0] rfl) hw
          ·
            replace hw := (if_neg c32).mp hw
            exact t_X11_far_J102 hM o x2 r3 x4 x5 r6 x7 (hpR h (ad (hpR h o 4)) (x7).toNatClampNeg) (wp_X11_far_L52 o x2 r3 x5 r6 K136 Q n) K136 Q ih hK136 h14 H locs ls hC (lo_sub hl [1, 2, 3, 4, 5, 6, 7, 0] rfl) hw
set_option maxHeartbeats 4000000 in
set_option maxRecDepth 100000 in
theorem t_X11_far_L28 {p : Program} {l : Launch} {e : Env} {s : State} {m : MethodId} {args : Array Value} {below : List Frame} {meth : Method} {c : Code} {G : GG} {base : Nat} {A : Nat → Nat} {g0 : Hp} (hM : Mx G base p s m args meth c cX11_far 9 (some .int) RX11 "far") (o : Nat) (x2 : Int32) (r3 : Option Nat) (K142 : Int32 → Hp → Prop) (Q : Int32 → Hp → Prop) (hK142 : ∀ (y4 : Int32) (h : Hp) (H : Heap) (locs : List Loc) (ls : Array Slot), Cx2 G base A g0 A h s.heap H locs → lo_has ls 9 [(4, .int y4)] → K142 y4 h → W p l e rm_X11_far s m args below meth c H locs 0 0 (MQ below (va_Qi Q (PU2 G base A g0 A) (fun q => base ≤ q)) args s 0 0 (fun q => base ≤ q)) (F0 m 142 ls [])) : ∀ (n : Nat) (x4 : Int32) (x5 : Int32) (h : Hp) (H : Heap) (locs : List Loc) (ls : Array Slot), Cx2 G base A g0 A h s.heap H locs → lo_has ls 9 [(0, .ref (A o)), (2, .int x2), (3, va_rf (Option.map A r3)), (4, .int x4), (5, .int x5)] → wp_X11_far_L28 o x2 r3 K142 Q n x4 x5 h → W p l e rm_X11_far s m args below meth c H locs 0 0 (MQ below (va_Qi Q (PU2 G base A g0 A) (fun q => base ≤ q)) args s 0 0 (fun q => base ≤ q)) (F0 m 28 ls []) := by
  intro n
  induction n with
  | zero =>
    intro x4 x5 h H locs ls hC hl hw
    rw [wp_X11_far_L28] at hw
    exact hw.elim
  | succ n ih =>
    intro x4 x5 h H locs ls hC hl hw
    rw [wp_X11_far_L28] at hw
    obtain ⟨hx, hb, hr, hml, hown, hts, hg, hs, hlk, hnm⟩ := id hM
    refine lv_iload hx hb dX11_far_28 (lo_at hl 4 rfl) ?_
    refine lv_aload_n hx hb dX11_far_30 rfl (lo_at hl 0 rfl) ?_
    obtain ⟨k7, hw⟩ := hw
    refine s_getI hx hb hts hown hg hC fb_9_5 k7 mk_f_RX11_122 dX11_far_31 ?_
    refine lv_icmp_ge (tgt := 142) hx hb dX11_far_34 (by decide) (fun c8 => ?_) (fun c8 => ?_)
    ·
      replace hw := (if_pos c8).mp hw
      exact hK142 x4 h H locs ls hC (lo_sub hl [3] rfl) hw
    ·
      replace hw := (if_neg c8).mp hw
      refine lv_aload_n hx hb dX11_far_37 rfl (lo_at hl 0 rfl) ?_
      refine s_getR hx hb hts hown hg hC fb_9_4 k7 mk_f_RX11_23 dX11_far_38 ?_
      refine lv_iload hx hb dX11_far_41 (lo_at hl 4 rfl) ?_
      obtain ⟨k9, hw⟩ := hw
      refine sf_2 k9.1 ?_
      refine s_aald (kd := 3) (t0 := 2) hx hb hg hC k9.2.1 (by decide) rfl k9.2.2 dX11_far_43 ?_
      refine lo_astore (r := Option.map A (hpR h (ad (hpR h o 4)) (x5).toNatClampNeg)) (lv' := [(6, va_rf (Option.map A (hpR h (ad (hpR h o 4)) (x5).toNatClampNeg))), (0, .ref (A o)), (2, .int x2), (3, va_rf (Option.map A r3)), (4, .int x4), (5, .int x5)]) hx hb dX11_far_44 hl (by decide) rfl (fun ls hl => ?_)
      refine lv_iload hx hb dX11_far_46 (lo_at hl 5 rfl) ?_
      refine lv_iconst (v := 1) hx hb dX11_far_48 (by decide) ?_
      refine lv_iadd hx hb dX11_far_49 ?_
      refine lv_topi (fun v10 ev10 => ?_)
      replace hw := hw v10 ev10
      refine lo_istore (lv' := [(7, .int v10), (6, va_rf (Option.map A (hpR h (ad (hpR h o 4)) (x5).toNatClampNeg))), (0, .ref (A o)), (2, .int x2), (3, va_rf (Option.map A r3)), (4, .int x4), (5, .int x5)]) hx hb dX11_far_50 hl (by decide) rfl (fun ls hl => ?_)
      refine t_X11_far_L52 hM o x2 r3 x5 (hpR h (ad (hpR h o 4)) (x5).toNatClampNeg) _ Q ?_ fuel x4 v10 h H locs ls hC (lo_sub hl [2, 3, 4, 5, 6, 1, 0] rfl) hw
      intro y35 h34 H locs ls hC hl hw
      obtain ⟨v36, ev36⟩ : ∃ y : Int32, y = x5 + (1 : Int32) := ⟨_, rfl⟩
      replace hw := hw v36 ev36
      refine lo_iinc (v := v36) (lv' := [(5, .int v36), (0, .ref (A o)), (2, .int x2), (3, va_rf (Option.map A r3)), (4, .int y35)]) hx hb dX11_far_136 hl (k := 4) rfl (by rw [ev36]; rfl) (by decide) rfl (fun ls hl => ?_)
      refine lv_goto (tgt := 28) hx hb dX11_far_139 (by decide) ?_
      exact ih y35 v36 h34 H locs ls hC (lo_sub hl [1, 2, 3, 4, 0] rfl) hw
set_option maxHeartbeats 4000000 in
set_option maxRecDepth 100000 in
theorem c_X11_far (l : Launch) (G : GG) (base : Nat) (A : Nat → Nat) (o : Nat) (x1 : Int32) (x2 : Int32) (h : Hp) (Q : Int32 → Hp → Prop) (hw : wp_X11_far o x1 x2 h Q) : Met l yX11_far (ww yX11_far cX11_far 9 (some .int)) rm_X11_far (va_Pc [.ref (A o), .int x1, .int x2] (PU2 G base A h A h)) (va_Qi Q (PU2 G base A h A) (fun q => base ≤ q)) 0 0 (fun q => base ≤ q) := by
  refine met2_of (own := RX11) (nm := "far") (by decide) rfl rfl (List.forall_mem_cons.mpr ⟨rfl, (List.forall_mem_cons.mpr ⟨rfl, (List.forall_mem_cons.mpr ⟨rfl, (fun _ h => absurd h List.not_mem_nil)⟩)⟩)⟩) (Nat.le_of_ble_eq_true rfl) rfl ?_
  intro p e s m args below meth c H locs ls hM hC hl
  obtain ⟨hx, hb, hr, hml, hown, hts, hg, hs, hlk, hnm⟩ := id hM
  unfold wp_X11_far at hw
  refine lv_aload_n hx hb dX11_far_0 rfl (lo_at hl 0 rfl) ?_
  refine lv_iload_n hx hb dX11_far_1 rfl (lo_at hl 1 rfl) ?_
  obtain ⟨k1, hw⟩ := hw
  refine res2_q hC (run2_V (As := [.int x1]) (rest := []) hM hC hl.1.1 kv_RX11_144 (c_X11_lookerAt l G base A o x1 h _ hw) (hc_9) k1 rfl rfl rfl ⟨Nat.le_of_ble_eq_true rfl, Nat.le_of_ble_eq_true rfl⟩ (Nat.le_of_ble_eq_true rfl) ⟨Nat.le_of_ble_eq_true rfl, Nat.le_of_ble_eq_true rfl⟩ dX11_far_2) (fun z3 h2 H locs hw hC => ?_)
  refine lo_astore_n (r := Option.map A z3) (lv' := [(3, va_rf (Option.map A z3)), (0, .ref (A o)), (1, .int x1), (2, .int x2)]) hx hb dX11_far_5 rfl hl (by decide) rfl (fun ls hl => ?_)
  refine lo_aload_n (r := Option.map A z3) hx hb dX11_far_6 rfl (lo_at hl 0 rfl) ?_
  refine s_ifnull (r := z3) (A := A) (tgt := 20) hx hb dX11_far_7 (by decide) (fun c4 => ?_) (fun c4 => ?_)
  ·
    replace hw := (if_pos c4).mp hw
    refine lv_iconst (v := -1) hx hb dX11_far_20 (by decide) ?_
    exact ret2_i hM hC hw dX11_far_21
  ·
    replace hw := (if_neg c4).mp hw
    refine lv_iload_n hx hb dX11_far_10 rfl (lo_at hl 3 rfl) ?_
    refine lv_if_lt (tgt := 20) hx hb dX11_far_11 (by decide) (fun c5 => ?_) (fun c5 => ?_)
    ·
      replace hw := (if_pos c5).mp hw
      refine lv_iconst (v := -1) hx hb dX11_far_20 (by decide) ?_
      exact ret2_i hM hC hw dX11_far_21
    ·
      replace hw := (if_neg c5).mp hw
      refine lv_iload_n hx hb dX11_far_14 rfl (lo_at hl 3 rfl) ?_
      refine lv_bipush (v := 33) hx hb dX11_far_15 (by decide) ?_
      refine lv_icmp_le (tgt := 22) hx hb dX11_far_17 (by decide) (fun c6 => ?_) (fun c6 => ?_)
      ·
        replace hw := (if_pos c6).mp hw
        refine lv_iconst (v := -1) hx hb dX11_far_22 (by decide) ?_
        refine lo_istore (lv' := [(4, .int ((-1 : Int32))), (3, va_rf (Option.map A z3)), (0, .ref (A o)), (1, .int x1), (2, .int x2)]) hx hb dX11_far_23 hl (by decide) rfl (fun ls hl => ?_)
        refine lv_iconst (v := 0) hx hb dX11_far_25 (by decide) ?_
        refine lo_istore (lv' := [(5, .int ((0 : Int32))), (4, .int ((-1 : Int32))), (3, va_rf (Option.map A z3)), (0, .ref (A o)), (1, .int x1), (2, .int x2)]) hx hb dX11_far_26 hl (by decide) rfl (fun ls hl => ?_)
        refine t_X11_far_L28 hM o x2 z3 _ Q ?_ fuel (-1 : Int32) (0 : Int32) h2 H locs ls hC (lo_sub hl [3, 5, 2, 1, 0] rfl) hw
        intro y38 h37 H locs ls hC hl hw
        refine lv_iload hx hb dX11_far_142 (lo_at hl 0 rfl) ?_
        exact ret2_i hM hC hw dX11_far_144
      ·
        replace hw := (if_neg c6).mp hw
        refine lv_iconst (v := -1) hx hb dX11_far_20 (by decide) ?_
        exact ret2_i hM hC hw dX11_far_21
