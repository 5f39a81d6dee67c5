abbrev rm_X12_own : Room := { frames := 3, cells := 0, slots := 0, locals := 81 }
set_option maxRecDepth 100000 in
def wp_X12_own_J120 (o : Nat) (x1 : Int32) (x2 : Int32) (x3 : Int32) (x4 : Int32) (x5 : Int32) (x6 : Int32) (x7 : Int32) (x8 : Int32) (x9 : Int32) (s0 : Int32) (s1 : Int32) (KH : Int32 → Int32 → Hp → Prop) (K138 : Int32 → Hp → Prop) (Q : Int32 → Hp → Prop) (h : Hp) : Prop := (if s1 = s0 then (∀ v41 : Int32, v41 = x8 ||| ((1 : Int32) <<< (x9 &&& 31)) → (∀ v42 : Int32, v42 = x9 + (1 : Int32) → (KH v41 v42 h))) else (∀ v40 : Int32, v40 = x9 + (1 : Int32) → (KH x8 v40 h)))
set_option maxRecDepth 100000 in
def wp_X12_own_L76 (o : Nat) (x1 : Int32) (x2 : Int32) (x3 : Int32) (x4 : Int32) (x5 : Int32) (x6 : Int32) (x7 : Int32) (K138 : Int32 → Hp → Prop) (Q : Int32 → Hp → Prop) : Nat → Int32 → Int32 → Hp → Prop
  | 0, _, _, _ => False
  | n + 1, x8, x9, h => (if (32 : Int32) ≤ x9 then (K138 x8 h) else (((hpK h o).1 = 20 + 10) ∧ (wp_X12_runs o x1 x2 x3 x9 x6 h (fun (z32 : Int32) (h31 : Hp) => (if z32 = 0 then (∀ v34 : Int32, v34 = x9 + (1 : Int32) → (wp_X12_own_L76 o x1 x2 x3 x4 x5 x6 x7 K138 Q n x8 v34 h31)) else (((hpK h31 o).1 = 20 + 10) ∧ (wp_X12_runs o x1 x2 x4 x9 x7 h31 (fun (z37 : Int32) (h36 : Hp) => (if x5 = (1 : Int32) then (wp_X12_own_J120 o x1 x2 x3 x4 x5 x6 x7 x8 x9 (1 : Int32) z37 (wp_X12_own_L76 o x1 x2 x3 x4 x5 x6 x7 K138 Q n) K138 Q h36) else (wp_X12_own_J120 o x1 x2 x3 x4 x5 x6 x7 x8 x9 (0 : Int32) z37 (wp_X12_own_L76 o x1 x2 x3 x4 x5 x6 x7 K138 Q n) K138 Q h36))))))))))
set_option maxRecDepth 100000 in
def wp_X12_own (o : Nat) (x1 : Int32) (x2 : Int32) (x3 : Int32) (x4 : Int32) (x5 : Int32) (h : Hp) (Q : Int32 → Hp → Prop) : Prop := ((hpK h o).1 = 20 + 10) ∧ (∀ h2 : Hp, h2 = stI h o 0 (0 : Int32) → (((hpK h2 o).1 = 20 + 10) ∧ (wp_X12_isLooker o x1 h2 (fun (z5 : Int32) (h4 : Hp) => (if z5 = 0 then (Q (0 : Int32) h4) else (((hpK h4 o).1 = 20 + 10) ∧ (wp_X12_isBall o x2 h4 (fun (z9 : Int32) (h8 : Hp) => (if z9 = 0 then (Q (0 : Int32) h8) else (((hpK h8 o).1 = 20 + 10) ∧ (wp_X12_isBall o x3 h8 (fun (z13 : Int32) (h12 : Hp) => (if z13 = 0 then (Q (0 : Int32) h12) else (((hpK h12 o).1 = 20 + 10) ∧ (wp_X12_isBall o x4 h12 (fun (z17 : Int32) (h16 : Hp) => (if z17 = 0 then (Q (0 : Int32) h16) else (((hpK h16 o).1 = 20 + 10) ∧ (wp_X12_isIn o x5 (0 : Int32) (1 : Int32) h16 (fun (z21 : Int32) (h20 : Hp) => (if z21 = 0 then (Q (0 : Int32) h20) else (((hpK h20 o).1 = 20 + 10) ∧ (wp_X12_bestSlide o x1 x2 x3 h20 (fun (z25 : Int32) (h24 : Hp) => ((hpK h24 o).1 = 20 + 10) ∧ (wp_X12_bestSlide o x1 x2 x4 h24 (fun (z28 : Int32) (h27 : Hp) => wp_X12_own_L76 o x1 x2 x3 x4 x5 z25 z28 (fun (y44 : Int32) (h43 : Hp) => Q y44 h43) Q fuel (0 : Int32) (0 : Int32) h27))))))))))))))))))))))))))
set_option maxHeartbeats 4000000 in
set_option maxRecDepth 100000 in
theorem t_X12_own_J120 {p : Program} {l : Launch} {e : Env} {s : State} {m : MethodId} {args : Array Value} {below : List Frame} {meth : Method} {c : Code} {G : GG} {base : Nat} {A : Nat → Nat} {g0 : Hp} (hM : Mx G base p s m args meth c cX12_own 10 (some .int) RX12 "own") (o : Nat) (x1 : Int32) (x2 : Int32) (x3 : Int32) (x4 : Int32) (x5 : Int32) (x6 : Int32) (x7 : Int32) (x8 : Int32) (x9 : Int32) (s0 : Int32) (s1 : Int32) (KH : Int32 → Int32 → Hp → Prop) (K138 : Int32 → Hp → Prop) (Q : Int32 → Hp → Prop) (hKH : ∀ (y8 : Int32) (y9 : Int32) (h : Hp) (H : Heap) (locs : List Loc) (ls : Array Slot), Cx2 G base A g0 A h s.heap H locs → lo_has ls 10 [(0, .ref (A o)), (1, .int x1), (2, .int x2), (3, .int x3), (4, .int x4), (5, .int x5), (6, .int x6), (7, .int x7), (8, .int y8), (9, .int y9)] → KH y8 y9 h → W p l e rm_X12_own s m args below meth c H locs 0 0 (MQ below (va_Qi Q (PU2 G base A g0 A) (fun q => base ≤ q)) args s 0 0 (fun q => base ≤ q)) (F0 m 76 ls [])) (hK138 : ∀ (y8 : Int32) (h : Hp) (H : Heap) (locs : List Loc) (ls : Array Slot), Cx2 G base A g0 A h s.heap H locs → lo_has ls 10 [(8, .int y8)] → K138 y8 h → W p l e rm_X12_own s m args below meth c H locs 0 0 (MQ below (va_Qi Q (PU2 G base A g0 A) (fun q => base ≤ q)) args s 0 0 (fun q => base ≤ q)) (F0 m 138 ls [])) (h : Hp) (H : Heap) (locs : List Loc) (ls : Array Slot) : Cx2 G base A g0 A h s.heap H locs → lo_has ls 10 [(0, .ref (A o)), (1, .int x1), (2, .int x2), (3, .int x3), (4, .int x4), (5, .int x5), (6, .int x6), (7, .int x7), (8, .int x8), (9, .int x9)] → wp_X12_own_J120 o x1 x2 x3 x4 x5 x6 x7 x8 x9 s0 s1 KH K138 Q h → W p l e rm_X12_own s m args below meth c H locs 0 0 (MQ below (va_Qi Q (PU2 G base A g0 A) (fun q => base ≤ q)) args s 0 0 (fun q => base ≤ q)) (F0 m 120 ls [.int s0, .int s1]) := by
  intro hC hl hw
  unfold wp_X12_own_J120 at hw
  obtain ⟨hx, hb, hr, hml, hown, hts, hg, hs, hlk, hnm⟩ := id hM
  refine lv_icmp_ne (tgt := 132) hx hb dX12_own_120 (by decide) (fun c39 => ?_) (fun c39 => ?_)
  ·
    replace hw := (if_neg c39).mp hw
    obtain ⟨v40, ev40⟩ : ∃ y : Int32, y = x9 + (1 : Int32) := ⟨_, rfl⟩
    replace hw := hw v40 ev40
    refine lo_iinc (v := v40) (lv' := [(9, .int v40), (0, .ref (A o)), (1, .int x1), (2, .int x2), (3, .int x3), (4, .int x4), (5, .int x5), (6, .int x6), (7, .int x7), (8, .int x8)]) hx hb dX12_own_132 hl (k := 9) rfl (by rw [ev40]; rfl) (by decide) rfl (fun ls hl => ?_)
    refine lv_goto (tgt := 76) hx hb dX12_own_135 (by decide) ?_
    exact hKH x8 v40 h H locs ls hC (lo_sub hl [1, 2, 3, 4, 5, 6, 7, 8, 9, 0] rfl) hw
  ·
    replace hw := (if_pos c39).mp hw
    refine lv_iload hx hb dX12_own_123 (lo_at hl 8 rfl) ?_
    refine lv_iconst (v := 1) hx hb dX12_own_125 (by decide) ?_
    refine lv_iload hx hb dX12_own_126 (lo_at hl 9 rfl) ?_
    refine lv_ishl hx hb dX12_own_128 ?_
    refine lv_ior hx hb dX12_own_129 ?_
    refine lv_topi (fun v41 ev41 => ?_)
    replace hw := hw v41 ev41
    refine lo_istore (lv' := [(8, .int v41), (0, .ref (A o)), (1, .int x1), (2, .int x2), (3, .int x3), (4, .int x4), (5, .int x5), (6, .int x6), (7, .int x7), (9, .int x9)]) hx hb dX12_own_130 hl (by decide) rfl (fun ls hl => ?_)
    obtain ⟨v42, ev42⟩ : ∃ y : Int32, y = x9 + (1 : Int32) := ⟨_, rfl⟩
    replace hw := hw v42 ev42
    refine lo_iinc (v := v42) (lv' := [(9, .int v42), (8, .int v41), (0, .ref (A o)), (1, .int x1), (2, .int x2), (3, .int x3), (4, .int x4), (5, .int x5), (6, .int x6), (7, .int x7)]) hx hb dX12_own_132 hl (k := 9) rfl (by rw [ev42]; rfl) (by decide) rfl (fun ls hl => ?_)
    refine lv_goto (tgt := 76) hx hb dX12_own_135 (by decide) ?_
    exact hKH v41 v42 h H locs ls hC (lo_sub hl [2, 3, 4, 5, 6, 7, 8, 9, 1, 0] rfl) hw
set_option maxHeartbeats 4000000 in
set_option maxRecDepth 100000 in
theorem t_X12_own_L76 {p : Program} {l : Launch} {e : Env} {s : State} {m : MethodId} {args : Array Value} {below : List Frame} {meth : Method} {c : Code} {G : GG} {base : Nat} {A : Nat → Nat} {g0 : Hp} (hM : Mx G base p s m args meth c cX12_own 10 (some .int) RX12 "own") (o : Nat) (x1 : Int32) (x2 : Int32) (x3 : Int32) (x4 : Int32) (x5 : Int32) (x6 : Int32) (x7 : Int32) (K138 : Int32 → Hp → Prop) (Q : Int32 → Hp → Prop) (hK138 : ∀ (y8 : Int32) (h : Hp) (H : Heap) (locs : List Loc) (ls : Array Slot), Cx2 G base A g0 A h s.heap H locs → lo_has ls 10 [(8, .int y8)] → K138 y8 h → W p l e rm_X12_own s m args below meth c H locs 0 0 (MQ below (va_Qi Q (PU2 G base A g0 A) (fun q => base ≤ q)) args s 0 0 (fun q => base ≤ q)) (F0 m 138 ls [])) : ∀ (n : Nat) (x8 : Int32) (x9 : Int32) (h : Hp) (H : Heap) (locs : List Loc) (ls : Array Slot), Cx2 G base A g0 A h s.heap H locs → lo_has ls 10 [(0, .ref (A o)), (1, .int x1), (2, .int x2), (3, .int x3), (4, .int x4), (5, .int x5), (6, .int x6), (7, .int x7), (8, .int x8), (9, .int x9)] → wp_X12_own_L76 o x1 x2 x3 x4 x5 x6 x7 K138 Q n x8 x9 h → W p l e rm_X12_own s m args below meth c H locs 0 0 (MQ below (va_Qi Q (PU2 G base A g0 A) (fun q => base ≤ q)) args s 0 0 (fun q => base ≤ q)) (F0 m 76 ls []) := by
  intro n
  induction n with
  | zero =>
    intro x8 x9 h H locs ls hC hl hw
    rw [wp_X12_own_L76] at hw
    exact hw.elim
  | succ n ih =>
    intro x8 x9 h H locs ls hC hl hw
    rw [wp_X12_own_L76] at hw
    obtain ⟨hx, hb, hr, hml, hown, hts, hg, hs, hlk, hnm⟩ := id hM
    refine lv_iload hx hb dX12_own_76 (lo_at hl 9 rfl) ?_
    refine lv_bipush (v := 32) hx hb dX12_own_78 (by decide) ?_
    refine lv_icmp_ge (tgt := 138) hx hb dX12_own_80 (by decide) (fun c29 => ?_) (fun c29 => ?_)
    ·
      replace hw := (if_pos c29).mp hw
      exact hK138 x8 h H locs ls hC (lo_sub hl [8] rfl) hw
    ·
      replace hw := (if_neg c29).mp hw
      refine lv_aload_n hx hb dX12_own_83 rfl (lo_at hl 0 rfl) ?_
      refine lv_iload_n hx hb dX12_own_84 rfl (lo_at hl 1 rfl) ?_
      refine lv_iload_n hx hb dX12_own_85 rfl (lo_at hl 2 rfl) ?_
      refine lv_iload_n hx hb dX12_own_86 rfl (lo_at hl 3 rfl) ?_
      refine lv_iload hx hb dX12_own_87 (lo_at hl 9 rfl) ?_
      refine lv_iload hx hb dX12_own_89 (lo_at hl 6 rfl) ?_
      obtain ⟨k30, hw⟩ := hw
      refine res2_i hC (run2_V (As := [.int x1, .int x2, .int x3, .int x9, .int x6]) (rest := []) hM hC hl.1.1 kv_RX12_298 (c_X12_runs l G base A o x1 x2 x3 x9 x6 h _ hw) (hc_10) k30 rfl rfl rfl ⟨Nat.le_of_ble_eq_true rfl, Nat.le_of_ble_eq_true rfl⟩ (Nat.le_of_ble_eq_true rfl) ⟨Nat.le_of_ble_eq_true rfl, Nat.le_of_ble_eq_true rfl⟩ dX12_own_91) (fun z32 h31 H locs hw hC => ?_)
      refine lv_if_eq (tgt := 132) hx hb dX12_own_94 (by decide) (fun c33 => ?_) (fun c33 => ?_)
      ·
        replace hw := (if_pos c33).mp hw
        obtain ⟨v34, ev34⟩ : ∃ y : Int32, y = x9 + (1 : Int32) := ⟨_, rfl⟩
        replace hw := hw v34 ev34
        refine lo_iinc (v := v34) (lv' := [(9, .int v34), (0, .ref (A o)), (1, .int x1), (2, .int x2), (3, .int x3), (4, .int x4), (5, .int x5), (6, .int x6), (7, .int x7), (8, .int x8)]) hx hb dX12_own_132 hl (k := 9) rfl (by rw [ev34]; rfl) (by decide) rfl (fun ls hl => ?_)
        refine lv_goto (tgt := 76) hx hb dX12_own_135 (by decide) ?_
        exact ih x8 v34 h31 H locs ls hC (lo_sub hl [1, 2, 3, 4, 5, 6, 7, 8, 9, 0] rfl) hw
      ·
        replace hw := (if_neg c33).mp hw
        refine lv_aload_n hx hb dX12_own_97 rfl (lo_at hl 0 rfl) ?_
        refine lv_iload_n hx hb dX12_own_98 rfl (lo_at hl 1 rfl) ?_
        refine lv_iload_n hx hb dX12_own_99 rfl (lo_at hl 2 rfl) ?_
        refine lv_iload hx hb dX12_own_100 (lo_at hl 4 rfl) ?_
        refine lv_iload hx hb dX12_own_102 (lo_at hl 9 rfl) ?_
        refine lv_iload hx hb dX12_own_104 (lo_at hl 7 rfl) ?_
        obtain ⟨k35, hw⟩ := hw
        refine res2_i hC (run2_V (As := [.int x1, .int x2, .int x4, .int x9, .int x7]) (rest := []) hM hC hl.1.1 kv_RX12_298 (c_X12_runs l G base A o x1 x2 x4 x9 x7 h31 _ hw) (hc_10) k35 rfl rfl rfl ⟨Nat.le_of_ble_eq_true rfl, Nat.le_of_ble_eq_true rfl⟩ (Nat.le_of_ble_eq_true rfl) ⟨Nat.le_of_ble_eq_true rfl, Nat.le_of_ble_eq_true rfl⟩ dX12_own_106) (fun z37 h36 H locs hw hC => ?_)
        refine lv_iload hx hb dX12_own_109 (lo_at hl 5 rfl) ?_
        refine lv_iconst (v := 1) hx hb dX12_own_111 (by decide) ?_
        refine lv_icmp_ne (tgt := 119) hx hb dX12_own_112 (by decide) (fun c38 => ?_) (fun c38 => ?_)
        ·
          replace hw := (if_neg c38).mp hw
          refine lv_iconst (v := 0) hx hb dX12_own_119 (by decide) ?_
          exact t_X12_own_J120 hM o x1 x2 x3 x4 x5 x6 x7 x8 x9 (0 : Int32) z37 (wp_X12_own_L76 o x1 x2 x3 x4 x5 x6 x7 K138 Q n) K138 Q ih hK138 h36 H locs ls hC (lo_sub hl [0, 1, 2, 3, 4, 5, 6, 7, 8, 9] rfl) hw
        ·
          replace hw := (if_pos c38).mp hw
          refine lv_iconst (v := 1) hx hb dX12_own_115 (by decide) ?_
          refine lv_goto (tgt := 120) hx hb dX12_own_116 (by decide) ?_
          exact t_X12_own_J120 hM o x1 x2 x3 x4 x5 x6 x7 x8 x9 (1 : Int32) z37 (wp_X12_own_L76 o x1 x2 x3 x4 x5 x6 x7 K138 Q n) K138 Q ih hK138 h36 H locs ls hC (lo_sub hl [0, 1, 2, 3, 4, 5, 6, 7, 8, 9] rfl) hw
set_option maxHeartbeats 4000000 in
set_option maxRecDepth 100000 in
theorem c_X12_own (l : Launch) (G : GG) (base : Nat) (A : Nat → Nat) (o : Nat) (x1 : Int32) (x2 : Int32) (x3 : Int32) (x4 : Int32) (x5 : Int32) (h : Hp) (Q : Int32 → Hp → Prop) (hw : wp_X12_own o x1 x2 x3 x4 x5 h Q) : Met l yX12_own (ww yX12_own cX12_own 10 (some .int)) rm_X12_own (va_Pc [.ref (A o), .int x1, .int x2, .int x3, .int x4, .int x5] (PU2 G base A h A h)) (va_Qi Q (PU2 G base A h A) (fun q => base ≤ q)) 0 0 (fun q => base ≤ q) := by
  refine met2_of (own := RX12) (nm := "own") (by decide) rfl rfl (List.forall_mem_cons.mpr ⟨rfl, (List.forall_mem_cons.mpr ⟨rfl, (List.forall_mem_cons.mpr ⟨rfl, (List.forall_mem_cons.mpr ⟨rfl, (List.forall_mem_cons.mpr ⟨rfl, (List.forall_mem_cons.mpr ⟨rfl, (fun _ h => absurd h List.not_mem_nil)⟩)⟩)⟩)⟩)⟩)⟩) (Nat.le_of_ble_eq_true rfl) rfl ?_
  intro p e s m args below meth c H locs ls hM hC hl
  obtain ⟨hx, hb, hr, hml, hown, hts, hg, hs, hlk, hnm⟩ := id hM
  unfold wp_X12_own at hw
  refine lv_aload_n hx hb dX12_own_0 rfl (lo_at hl 0 rfl) ?_
  refine lv_iconst (v := 0) hx hb dX12_own_1 (by decide) ?_
  obtain ⟨k1, hw⟩ := hw
  refine s_putI hx hb hts hown hg hC fb_10_0 k1 rfl rfl mk_f_RX12_132 dX12_own_2 (fun h2 H locs eh2 hC => ?_)
  replace hw := hw h2 eh2
  refine lv_aload_n hx hb dX12_own_5 rfl (lo_at hl 0 rfl) ?_
  refine lv_iload_n hx hb dX12_own_6 rfl (lo_at hl 1 rfl) ?_
  obtain ⟨k3, hw⟩ := hw
  refine res2_i hC (run2_V (As := [.int x1]) (rest := []) hM hC hl.1.1 kv_RX12_309 (c_X12_isLooker l G base A o x1 h2 _ hw) (hc_10) k3 rfl rfl rfl ⟨Nat.le_of_ble_eq_true rfl, Nat.le_of_ble_eq_true rfl⟩ (Nat.le_of_ble_eq_true rfl) ⟨Nat.le_of_ble_eq_true rfl, Nat.le_of_ble_eq_true rfl⟩ dX12_own_7) (fun z5 h4 H locs hw hC => ?_)
  refine lv_if_eq (tgt := 49) hx hb dX12_own_10 (by decide) (fun c6 => ?_) (fun c6 => ?_)
  ·
    replace hw := (if_pos c6).mp hw
    refine lv_iconst (v := 0) hx hb dX12_own_49 (by decide) ?_
    exact ret2_i hM hC hw dX12_own_50
  ·
    replace hw := (if_neg c6).mp hw
    refine lv_aload_n hx hb dX12_own_13 rfl (lo_at hl 0 rfl) ?_
    refine lv_iload_n hx hb dX12_own_14 rfl (lo_at hl 2 rfl) ?_
    obtain ⟨k7, hw⟩ := hw
    refine res2_i hC (run2_V (As := [.int x2]) (rest := []) hM hC hl.1.1 kv_RX12_168 (c_X12_isBall l G base A o x2 h4 _ hw) (hc_10) k7 rfl rfl rfl ⟨Nat.le_of_ble_eq_true rfl, Nat.le_of_ble_eq_true rfl⟩ (Nat.le_of_ble_eq_true rfl) ⟨Nat.le_of_ble_eq_true rfl, Nat.le_of_ble_eq_true rfl⟩ dX12_own_15) (fun z9 h8 H locs hw hC => ?_)
    refine lv_if_eq (tgt := 49) hx hb dX12_own_18 (by decide) (fun c10 => ?_) (fun c10 => ?_)
    ·
      replace hw := (if_pos c10).mp hw
      refine lv_iconst (v := 0) hx hb dX12_own_49 (by decide) ?_
      exact ret2_i hM hC hw dX12_own_50
    ·
      replace hw := (if_neg c10).mp hw
      refine lv_aload_n hx hb dX12_own_21 rfl (lo_at hl 0 rfl) ?_
      refine lv_iload_n hx hb dX12_own_22 rfl (lo_at hl 3 rfl) ?_
      obtain ⟨k11, hw⟩ := hw
      refine res2_i hC (run2_V (As := [.int x3]) (rest := []) hM hC hl.1.1 kv_RX12_168 (c_X12_isBall l G base A o x3 h8 _ hw) (hc_10) k11 rfl rfl rfl ⟨Nat.le_of_ble_eq_true rfl, Nat.le_of_ble_eq_true rfl⟩ (Nat.le_of_ble_eq_true rfl) ⟨Nat.le_of_ble_eq_true rfl, Nat.le_of_ble_eq_true rfl⟩ dX12_own_23) (fun z13 h12 H locs hw hC => ?_)
      refine lv_if_eq (tgt := 49) hx hb dX12_own_26 (by decide) (fun c14 => ?_) (fun c14 => ?_)
      ·
        replace hw := (if_pos c14).mp hw
        refine lv_iconst (v := 0) hx hb dX12_own_49 (by decide) ?_
        exact ret2_i hM hC hw dX12_own_50
      ·
        replace hw := (if_neg c14).mp hw
        refine lv_aload_n hx hb dX12_own_29 rfl (lo_at hl 0 rfl) ?_
        refine lv_iload hx hb dX12_own_30 (lo_at hl 4 rfl) ?_
        obtain ⟨k15, hw⟩ := hw
        refine res2_i hC (run2_V (As := [.int x4]) (rest := []) hM hC hl.1.1 kv_RX12_168 (c_X12_isBall l G base A o x4 h12 _ hw) (hc_10) k15 rfl rfl rfl ⟨Nat.le_of_ble_eq_true rfl, Nat.le_of_ble_eq_true rfl⟩ (Nat.le_of_ble_eq_true rfl) ⟨Nat.le_of_ble_eq_true rfl, Nat.le_of_ble_eq_true rfl⟩ dX12_own_32) (fun z17 h16 H locs hw hC => ?_)
        refine lv_if_eq (tgt := 49) hx hb dX12_own_35 (by decide) (fun c18 => ?_) (fun c18 => ?_)
        ·
          replace hw := (if_pos c18).mp hw
          refine lv_iconst (v := 0) hx hb dX12_own_49 (by decide) ?_
          exact ret2_i hM hC hw dX12_own_50
        ·
          replace hw := (if_neg c18).mp hw
          refine lv_aload_n hx hb dX12_own_38 rfl (lo_at hl 0 rfl) ?_
          refine lv_iload hx hb dX12_own_39 (lo_at hl 5 rfl) ?_
          refine lv_iconst (v := 0) hx hb dX12_own_41 (by decide) ?_
          refine lv_iconst (v := 1) hx hb dX12_own_42 (by decide) ?_
          obtain ⟨k19, hw⟩ := hw
          refine res2_i hC (run2_V (As := [.int x5, .int ((0 : Int32)), .int ((1 : Int32))]) (rest := []) hM hC hl.1.1 kv_RX12_144 (c_X12_isIn l G base A o x5 (0 : Int32) (1 : Int32) h16 _ hw) (hc_10) k19 rfl rfl rfl ⟨Nat.le_of_ble_eq_true rfl, Nat.le_of_ble_eq_true rfl⟩ (Nat.le_of_ble_eq_true rfl) ⟨Nat.le_of_ble_eq_true rfl, Nat.le_of_ble_eq_true rfl⟩ dX12_own_43) (fun z21 h20 H locs hw hC => ?_)
          refine lv_if_ne (tgt := 51) hx hb dX12_own_46 (by decide) (fun c22 => ?_) (fun c22 => ?_)
          ·
            replace hw := (if_neg c22).mp hw
            refine lv_aload_n hx hb dX12_own_51 rfl (lo_at hl 0 rfl) ?_
            refine lv_iload_n hx hb dX12_own_52 rfl (lo_at hl 1 rfl) ?_
            refine lv_iload_n hx hb dX12_own_53 rfl (lo_at hl 2 rfl) ?_
            refine lv_iload_n hx hb dX12_own_54 rfl (lo_at hl 3 rfl) ?_
            obtain ⟨k23, hw⟩ := hw
            refine res2_i hC (run2_V (As := [.int x1, .int x2, .int x3]) (rest := []) hM hC hl.1.1 kv_RX12_318 (c_X12_bestSlide l G base A o x1 x2 x3 h20 _ hw) (hc_10) k23 rfl rfl rfl ⟨Nat.le_of_ble_eq_true rfl, Nat.le_of_ble_eq_true rfl⟩ (Nat.le_of_ble_eq_true rfl) ⟨Nat.le_of_ble_eq_true rfl, Nat.le_of_ble_eq_true rfl⟩ dX12_own_55) (fun z25 h24 H locs hw hC => ?_)
            refine lo_istore (lv' := [(6, .int z25), (0, .ref (A o)), (1, .int x1), (2, .int x2), (3, .int x3), (4, .int x4), (5, .int x5)]) hx hb dX12_own_58 hl (by decide) rfl (fun ls hl => ?_)
            refine lv_aload_n hx hb dX12_own_60 rfl (lo_at hl 1 rfl) ?_
            refine lv_iload_n hx hb dX12_own_61 rfl (lo_at hl 2 rfl) ?_
            refine lv_iload_n hx hb dX12_own_62 rfl (lo_at hl 3 rfl) ?_
            refine lv_iload hx hb dX12_own_63 (lo_at hl 5 rfl) ?_
            obtain ⟨k26, hw⟩ := hw
            refine res2_i hC (run2_V (As := [.int x1, .int x2, .int x4]) (rest := []) hM hC hl.1.1 kv_RX12_318 (c_X12_bestSlide l G base A o x1 x2 x4 h24 _ hw) (hc_10) k26 rfl rfl rfl ⟨Nat.le_of_ble_eq_true rfl, Nat.le_of_ble_eq_true rfl⟩ (Nat.le_of_ble_eq_true rfl) ⟨Nat.le_of_ble_eq_true rfl, Nat.le_of_ble_eq_true rfl⟩ dX12_own_65) (fun z28 h27 H locs hw hC => ?_)
            refine lo_istore (lv' := [(7, .int z28), (6, .int z25), (0, .ref (A o)), (1, .int x1), (2, .int x2), (3, .int x3), (4, .int x4), (5, .int x5)]) hx hb dX12_own_68 hl (by decide) rfl (fun ls hl => ?_)
            refine lv_iconst (v := 0) hx hb dX12_own_70 (by decide) ?_
            refine lo_istore (lv' := [(8, .int ((0 : Int32))), (7, .int z28), (6, .int z25), (0, .ref (A o)), (1, .int x1), (2, .int x2), (3, .int x3), (4, .int x4), (5, .int x5)]) hx hb dX12_own_71 hl (by decide) rfl (fun ls hl => ?_)
            refine lv_iconst (v := 0) hx hb dX12_own_73 (by decide) ?_
            refine lo_istore (lv' := [(9, .int ((0 : Int32))), (8, .int ((0 : Int32))), (7, .int z28), (6, .int z25), (0, .ref (A o)), (1, .int x1), (2, .int x2), (3, .int x3), (4, .int x4), (5, .int x5)]) hx hb dX12_own_74 hl (by decide) rfl (fun ls hl => ?_)
            refine t_X12_own_L76 hM o x1 x2 x3 x4 x5 z25 z28 _ Q ?_ fuel (0 : Int32) (0 : Int32) h27 H locs ls hC (lo_sub hl [4, 5, 6, 7, 8, 9, 3, 2, 1, 0] rfl) hw
            intro y44 h43 H locs ls hC hl hw
            refine lv_iload hx hb dX12_own_138 (lo_at hl 0 rfl) ?_
            exact ret2_i hM hC hw dX12_own_140
          ·
            replace hw := (if_pos c22).mp hw
            refine lv_iconst (v := 0) hx hb dX12_own_49 (by decide) ?_
            exact ret2_i hM hC hw dX12_own_50
abbrev rm_X12_list : Room := { frames := 4, cells := 0, slots := 0, locals := 105 }
set_option maxRecDepth 100000 in
def wp_X12_list_L41 (o : Nat) (x1 : Int32) (x2 : Int32) (x3 : Int32) (K91 : Hp → Prop) (Q : Int32 → Hp → Prop) : Nat → Int32 → Hp → Prop
  | 0, _, _ => False
  | n + 1, x4, h => ((hpK h o).1 = 20 + 10) ∧ ((if (hpI h o 12) ≤ x4 then (K91 h) else (wp_X12_bestSlide o x1 x2 x4 h (fun (z18 : Int32) (h17 : Hp) => ((hpK h17 o).1 = 20 + 10) ∧ (wp_X12_manyOf o x1 x2 x4 z18 h17 (fun (z21 : Int32) (h20 : Hp) => ((hpK h20 o).1 = 20 + 10) ∧ (wp_X12_longest o x1 x2 x4 h20 (fun (z24 : Int32) (h23 : Hp) => okA h23 (hpR h o 52) 1 x4 ∧ (∀ h26 : Hp, h26 = stI h23 (ad (hpR h o 52)) (x4).toNatClampNeg (((64 : Int32) * z21) + z24) → (∀ v27 : Int32, v27 = x4 + (1 : Int32) → (wp_X12_list_L41 o x1 x2 x3 K91 Q n v27 h26)))))))))))
set_option maxRecDepth 100000 in
def wp_X12_list_L116 (o : Nat) (x3 : Int32) (x5 : Int32) (K152 : Int32 → Hp → Prop) (Q : Int32 → Hp → Prop) : Nat → Int32 → Int32 → Hp → Prop
  | 0, _, _, _ => False
  | n + 1, x4, x6, h => ((hpK h o).1 = 20 + 10) ∧ ((if (hpI h o 12) ≤ x6 then (K152 x4 h) else (okA h (hpR h o 52) 1 x6 ∧ (∀ v36 : Int32, v36 = hpI h (ad (hpR h o 52)) (x6).toNatClampNeg → (okA h (hpR h o 52) 1 x4 ∧ (∀ v38 : Int32, v38 = hpI h (ad (hpR h o 52)) (x4).toNatClampNeg → ((if v36 ≤ v38 then (∀ v40 : Int32, v40 = x6 + (1 : Int32) → (wp_X12_list_L116 o x3 x5 K152 Q n x4 v40 h)) else (∀ v41 : Int32, v41 = x6 + (1 : Int32) → (wp_X12_list_L116 o x3 x5 K152 Q n x6 v41 h))))))))))
set_option maxRecDepth 100000 in
def wp_X12_list_L104 (o : Nat) (x3 : Int32) (K166 : Int32 → Hp → Prop) (Q : Int32 → Hp → Prop) : Nat → Int32 → Int32 → Hp → Prop
  | 0, _, _, _ => False
  | n + 1, x4, x5, h => (if x3 < x5 then (K166 x4 h) else (wp_X12_list_L116 o x3 x5 (fun (y43 : Int32) (h42 : Hp) => ((hpK h42 o).1 = 20 + 10) ∧ (okA h42 (hpR h42 o 52) 1 y43 ∧ (∀ h46 : Hp, h46 = stI h42 (ad (hpR h42 o 52)) (y43).toNatClampNeg (-1 : Int32) → (∀ v47 : Int32, v47 = x5 + (1 : Int32) → (wp_X12_list_L104 o x3 K166 Q n y43 v47 h46))))) Q fuel (0 : Int32) (1 : Int32) h))
set_option maxRecDepth 100000 in
def wp_X12_list (o : Nat) (x1 : Int32) (x2 : Int32) (x3 : Int32) (h : Hp) (Q : Int32 → Hp → Prop) : Prop := ((hpK h o).1 = 20 + 10) ∧ (∀ h2 : Hp, h2 = stI h o 0 (0 : Int32) → (((hpK h2 o).1 = 20 + 10) ∧ (wp_X12_isLooker o x1 h2 (fun (z5 : Int32) (h4 : Hp) => (if z5 = 0 then (Q (-1 : Int32) h4) else (((hpK h4 o).1 = 20 + 10) ∧ (wp_X12_isBall o x2 h4 (fun (z9 : Int32) (h8 : Hp) => (if z9 = 0 then (Q (-1 : Int32) h8) else (((hpK h8 o).1 = 20 + 10) ∧ (wp_X12_isIn o x3 (0 : Int32) ((hpI h8 o 12) - (2 : Int32)) h8 (fun (z13 : Int32) (h12 : Hp) => (if z13 = 0 then (Q (-1 : Int32) h12) else (wp_X12_list_L41 o x1 x2 x3 (fun (h28 : Hp) => ((hpK h28 o).1 = 20 + 10) ∧ (okA h28 (hpR h28 o 52) 1 x2 ∧ (∀ h31 : Hp, h31 = stI h28 (ad (hpR h28 o 52)) (x2).toNatClampNeg (-1 : Int32) → (wp_X12_list_L104 o x3 (fun (y49 : Int32) (h48 : Hp) => Q y49 h48) Q fuel (-1 : Int32) (0 : Int32) h31)))) Q fuel (0 : Int32) h12))))))))))))))
set_option maxHeartbeats 4000000 in
set_option maxRecDepth 100000 in
theorem t_X12_list_L41 {p : Program} {l : Launch} {e : Env} {s : State} {m : MethodId} {args : Array Value} {below : List Frame} {meth : Method} {c : Code} {G : GG} {base : Nat} {A : Nat → Nat} {g0 : Hp} (hM : Mx G base p s m args meth c cX12_list 7 (some .int) RX12 "list") (o : Nat) (x1 : Int32) (x2 : Int32) (x3 : Int32) (K91 : Hp → Prop) (Q : Int32 → Hp → Prop) (hK91 : ∀ (h : Hp) (H : Heap) (locs : List Loc) (ls : Array Slot), Cx2 G base A g0 A h s.heap H locs → lo_has ls 7 [(0, .ref (A o)), (2, .int x2), (3, .int x3)] → K91 h → W p l e rm_X12_list s m args below meth c H locs 0 0 (MQ below (va_Qi Q (PU2 G base A g0 A) (fun q => base ≤ q)) args s 0 0 (fun q => base ≤ q)) (F0 m 91 ls [])) : ∀ (n : Nat) (x4 : Int32) (h : Hp) (H : Heap) (locs : List Loc) (ls : Array Slot), Cx2 G base A g0 A h s.heap H locs → lo_has ls 7 [(0, .ref (A o)), (1, .int x1), (2, .int x2), (3, .int x3), (4, .int x4)] → wp_X12_list_L41 o x1 x2 x3 K91 Q n x4 h → W p l e rm_X12_list s m args below meth c H locs 0 0 (MQ below (va_Qi Q (PU2 G base A g0 A) (fun q => base ≤ q)) args s 0 0 (fun q => base ≤ q)) (F0 m 41 ls []) := by
  intro n
  induction n with
  | zero =>
    intro x4 h H locs ls hC hl hw
    rw [wp_X12_list_L41] at hw
    exact hw.elim
  | succ n ih =>
    intro x4 h H locs ls hC hl hw
    rw [wp_X12_list_L41] at hw
    obtain ⟨hx, hb, hr, hml, hown, hts, hg, hs, hlk, hnm⟩ := id hM
    refine lv_iload hx hb dX12_list_41 (lo_at hl 4 rfl) ?_
    refine lv_aload_n hx hb dX12_list_43 rfl (lo_at hl 0 rfl) ?_
    obtain ⟨k15, hw⟩ := hw
    refine s_getI hx hb hts hown hg hC fb_10_12 k15 mk_f_RX12_141 dX12_list_44 ?_
    refine lv_icmp_ge (tgt := 91) hx hb dX12_list_47 (by decide) (fun c16 => ?_) (fun c16 => ?_)
    ·
      replace hw := (if_pos c16).mp hw
      exact hK91  h H locs ls hC (lo_sub hl [0, 2, 3] rfl) hw
    ·
      replace hw := (if_neg c16).mp hw
      refine lv_aload_n hx hb dX12_list_50 rfl (lo_at hl 0 rfl) ?_
      refine s_getR hx hb hts hown hg hC fb_10_52 k15 mk_f_RX12_110 dX12_list_51 ?_
      refine lv_iload hx hb dX12_list_54 (lo_at hl 4 rfl) ?_
      refine lv_bipush (v := 64) hx hb dX12_list_56 (by decide) ?_
      refine lv_aload_n hx hb dX12_list_58 rfl (lo_at hl 0 rfl) ?_
      refine lv_iload_n hx hb dX12_list_59 rfl (lo_at hl 1 rfl) ?_
      refine lv_iload_n hx hb dX12_list_60 rfl (lo_at hl 2 rfl) ?_
      refine lv_iload hx hb dX12_list_61 (lo_at hl 4 rfl) ?_
      refine lv_aload_n hx hb dX12_list_63 rfl (lo_at hl 0 rfl) ?_
      refine lv_iload_n hx hb dX12_list_64 rfl (lo_at hl 1 rfl) ?_
      refine lv_iload_n hx hb dX12_list_65 rfl (lo_at hl 2 rfl) ?_
      refine lv_iload hx hb dX12_list_66 (lo_at hl 4 rfl) ?_
      refine res2_i hC (run2_V (As := [.int x1, .int x2, .int x4]) (rest := [.int x4, .int x2, .int x1, .ref (A o), .int ((64 : Int32)), .int x4, va_rf (Option.map A (hpR h o 52))]) hM hC hl.1.1 kv_RX12_318 (c_X12_bestSlide l G base A o x1 x2 x4 h _ hw) (hc_10) k15 rfl rfl rfl ⟨Nat.le_of_ble_eq_true rfl, Nat.le_of_ble_eq_true rfl⟩ (rest_le (List.forall_mem_cons.mpr ⟨rfl, (List.forall_mem_cons.mpr ⟨rfl, (List.forall_mem_cons.mpr ⟨rfl, (List.forall_mem_cons.mpr ⟨rfl, (List.forall_mem_cons.mpr ⟨rfl, (List.forall_mem_cons.mpr ⟨rfl, (List.forall_mem_cons.mpr ⟨va_rf_cat _, (fun _ h => absurd h List.not_mem_nil)⟩)⟩)⟩)⟩)⟩)⟩)⟩) (Nat.le_of_ble_eq_true rfl)) ⟨Nat.le_of_ble_eq_true rfl, Nat.le_of_ble_eq_true rfl⟩ dX12_list_68) (fun z18 h17 H locs hw hC => ?_)
      obtain ⟨k19, hw⟩ := hw
      refine res2_i hC (run2_V (As := [.int x1, .int x2, .int x4, .int z18]) (rest := [.int ((64 : Int32)), .int x4, va_rf (Option.map A (hpR h o 52))]) hM hC hl.1.1 kv_RX12_302 (c_X12_manyOf l G base A o x1 x2 x4 z18 h17 _ hw) (hc_10) k19 rfl rfl rfl ⟨Nat.le_of_ble_eq_true rfl, Nat.le_of_ble_eq_true rfl⟩ (rest_le (List.forall_mem_cons.mpr ⟨rfl, (List.forall_mem_cons.mpr ⟨rfl, (List.forall_mem_cons.mpr ⟨va_rf_cat _, (fun _ h => absurd h List.not_mem_nil)⟩)⟩)⟩) (Nat.le_of_ble_eq_true rfl)) ⟨Nat.le_of_ble_eq_true rfl, Nat.le_of_ble_eq_true rfl⟩ dX12_list_71) (fun z21 h20 H locs hw hC => ?_)
      refine lv_imul hx hb dX12_list_74 ?_
      refine lv_aload_n hx hb dX12_list_75 rfl (lo_at hl 0 rfl) ?_
      refine lv_iload_n hx hb dX12_list_76 rfl (lo_at hl 1 rfl) ?_
      refine lv_iload_n hx hb dX12_list_77 rfl (lo_at hl 2 rfl) ?_
      refine lv_iload hx hb dX12_list_78 (lo_at hl 4 rfl) ?_
      obtain ⟨k22, hw⟩ := hw
      refine res2_i hC (run2_V (As := [.int x1, .int x2, .int x4]) (rest := [.int ((64 : Int32) * z21), .int x4, va_rf (Option.map A (hpR h o 52))]) hM hC hl.1.1 kv_RX12_339 (c_X12_longest l G base A o x1 x2 x4 h20 _ hw) (hc_10) k22 rfl rfl rfl ⟨Nat.le_of_ble_eq_true rfl, Nat.le_of_ble_eq_true rfl⟩ (rest_le (List.forall_mem_cons.mpr ⟨rfl, (List.forall_mem_cons.mpr ⟨rfl, (List.forall_mem_cons.mpr ⟨va_rf_cat _, (fun _ h => absurd h List.not_mem_nil)⟩)⟩)⟩) (Nat.le_of_ble_eq_true rfl)) ⟨Nat.le_of_ble_eq_true rfl, Nat.le_of_ble_eq_true rfl⟩ dX12_list_80) (fun z24 h23 H locs hw hC => ?_)
      refine lv_iadd hx hb dX12_list_83 ?_
      obtain ⟨k25, hw⟩ := hw
      refine sf_3 k25.1 ?_
      refine s_iast hx hb hg hC k25.2.1 k25.2.2 dX12_list_84 (fun h26 H locs eh26 hC => ?_)
      replace hw := hw h26 eh26
      obtain ⟨v27, ev27⟩ : ∃ y : Int32, y = x4 + (1 : Int32) := ⟨_, rfl⟩
      replace hw := hw v27 ev27
      refine lo_iinc (v := v27) (lv' := [(4, .int v27), (0, .ref (A o)), (1, .int x1), (2, .int x2), (3, .int x3)]) hx hb dX12_list_85 hl (k := 4) rfl (by rw [ev27]; rfl) (by decide) rfl (fun ls hl => ?_)
      refine lv_goto (tgt := 41) hx hb dX12_list_88 (by decide) ?_
      exact ih v27 h26 H locs ls hC (lo_sub hl [1, 2, 3, 4, 0] rfl) hw
set_option maxHeartbeats 4000000 in
set_option maxRecDepth 100000 in
theorem t_X12_list_L116 {p : Program} {l : Launch} {e : Env} {s : State} {m : MethodId} {args : Array Value} {below : List Frame} {meth : Method} {c : Code} {G : GG} {base : Nat} {A : Nat → Nat} {g0 : Hp} (hM : Mx G base p s m args meth c cX12_list 7 (some .int) RX12 "list") (o : Nat) (x3 : Int32) (x5 : Int32) (K152 : Int32 → Hp → Prop) (Q : Int32 → Hp → Prop) (hK152 : ∀ (y4 : Int32) (h : Hp) (H : Heap) (locs : List Loc) (ls : Array Slot), Cx2 G base A g0 A h s.heap H locs → lo_has ls 7 [(0, .ref (A o)), (3, .int x3), (4, .int y4), (5, .int x5)] → K152 y4 h → W p l e rm_X12_list s m args below meth c H locs 0 0 (MQ below (va_Qi Q (PU2 G base A g0 A) (fun q => base ≤ q)) args s 0 0 (fun q => base ≤ q)) (F0 m 152 ls [])) : ∀ (n : Nat) (x4 : Int32) (x6 : Int32) (h : Hp) (H : Heap) (locs : List Loc) (ls : Array Slot), Cx2 G base A g0 A h s.heap H locs → lo_has ls 7 [(0, .ref (A o)), (3, .int x3), (4, .int x4), (5, .int x5), (6, .int x6)] → wp_X12_list_L116 o x3 x5 K152 Q n x4 x6 h → W p l e rm_X12_list s m args below meth c H locs 0 0 (MQ below (va_Qi Q (PU2 G base A g0 A) (fun q => base ≤ q)) args s 0 0 (fun q => base ≤ q)) (F0 m 116 ls []) := by
  intro n
  induction n with
  | zero =>
    intro x4 x6 h H locs ls hC hl hw
    rw [wp_X12_list_L116] at hw
    exact hw.elim
  | succ n ih =>
    intro x4 x6 h H locs ls hC hl hw
    rw [wp_X12_list_L116] at hw
    obtain ⟨hx, hb, hr, hml, hown, hts, hg, hs, hlk, hnm⟩ := id hM
    refine lv_iload hx hb dX12_list_116 (lo_at hl 4 rfl) ?_
    refine lv_aload_n hx hb dX12_list_118 rfl (lo_at hl 0 rfl) ?_
    obtain ⟨k33, hw⟩ := hw
    refine s_getI hx hb hts hown hg hC fb_10_12 k33 mk_f_RX12_141 dX12_list_119 ?_
    refine lv_icmp_ge (tgt := 152) hx hb dX12_list_122 (by decide) (fun c34 => ?_) (fun c34 => ?_)
    ·
      replace hw := (if_pos c34).mp hw
      exact hK152 x4 h H locs ls hC (lo_sub hl [0, 1, 2, 3] rfl) hw
    ·
      replace hw := (if_neg c34).mp hw
      refine lv_aload_n hx hb dX12_list_125 rfl (lo_at hl 0 rfl) ?_
      refine s_getR hx hb hts hown hg hC fb_10_52 k33 mk_f_RX12_110 dX12_list_126 ?_
      refine lv_iload hx hb dX12_list_129 (lo_at hl 4 rfl) ?_
      obtain ⟨k35, hw⟩ := hw
      refine sf_2 k35.1 ?_
      refine s_iald hx hb hg hC k35.2.1 k35.2.2 dX12_list_131 ?_
      refine lv_topi (fun v36 ev36 => ?_)
      replace hw := hw v36 ev36
      refine lv_aload_n hx hb dX12_list_132 rfl (lo_at hl 0 rfl) ?_
      refine s_getR hx hb hts hown hg hC fb_10_52 k33 mk_f_RX12_110 dX12_list_133 ?_
      refine lv_iload hx hb dX12_list_136 (lo_at hl 2 rfl) ?_
      obtain ⟨k37, hw⟩ := hw
      refine sf_2 k37.1 ?_
      refine s_iald hx hb hg hC k37.2.1 k37.2.2 dX12_list_138 ?_
      refine lv_topi (fun v38 ev38 => ?_)
      replace hw := hw v38 ev38
      refine lv_icmp_le (tgt := 146) hx hb dX12_list_139 (by decide) (fun c39 => ?_) (fun c39 => ?_)
      ·
        replace hw := (if_pos c39).mp hw
        obtain ⟨v40, ev40⟩ : ∃ y : Int32, y = x6 + (1 : Int32) := ⟨_, rfl⟩
        replace hw := hw v40 ev40
        refine lo_iinc (v := v40) (lv' := [(6, .int v40), (0, .ref (A o)), (3, .int x3), (4, .int x4), (5, .int x5)]) hx hb dX12_list_146 hl (k := 4) rfl (by rw [ev40]; rfl) (by decide) rfl (fun ls hl => ?_)
        refine lv_goto (tgt := 116) hx hb dX12_list_149 (by decide) ?_
        exact ih x4 v40 h H locs ls hC (lo_sub hl [1, 2, 3, 4, 0] rfl) hw
      ·
        replace hw := (if_neg c39).mp hw
        refine lv_iload hx hb dX12_list_142 (lo_at hl 4 rfl) ?_
        refine lo_istore (lv' := [(4, .int x6), (0, .ref (A o)), (3, .int x3), (5, .int x5), (6, .int x6)]) hx hb dX12_list_144 hl (by decide) rfl (fun ls hl => ?_)
        obtain ⟨v41, ev41⟩ : ∃ y : Int32, y = x6 + (1 : Int32) := ⟨_, rfl⟩
        replace hw := hw v41 ev41
        refine lo_iinc (v := v41) (lv' := [(6, .int v41), (4, .int x6), (0, .ref (A o)), (3, .int x3), (5, .int x5)]) hx hb dX12_list_146 hl (k := 4) rfl (by rw [ev41]; rfl) (by decide) rfl (fun ls hl => ?_)
        refine lv_goto (tgt := 116) hx hb dX12_list_149 (by decide) ?_
        exact ih x6 v41 h H locs ls hC (lo_sub hl [2, 3, 1, 4, 0] rfl) hw
set_option maxHeartbeats 4000000 in
set_option maxRecDepth 100000 in
theorem t_X12_list_L104 {p : Program} {l : Launch} {e : Env} {s : State} {m : MethodId} {args : Array Value} {below : List Frame} {meth : Method} {c : Code} {G : GG} {base : Nat} {A : Nat → Nat} {g0 : Hp} (hM : Mx G base p s m args meth c cX12_list 7 (some .int) RX12 "list") (o : Nat) (x3 : Int32) (K166 : Int32 → Hp → Prop) (Q : Int32 → Hp → Prop) (hK166 : ∀ (y4 : Int32) (h : Hp) (H : Heap) (locs : List Loc) (ls : Array Slot), Cx2 G base A g0 A h s.heap H locs → lo_has ls 7 [(4, .int y4)] → K166 y4 h → W p l e rm_X12_list s m args below meth c H locs 0 0 (MQ below (va_Qi Q (PU2 G base A g0 A) (fun q => base ≤ q)) args s 0 0 (fun q => base ≤ q)) (F0 m 166 ls [])) : ∀ (n : Nat) (x4 : Int32) (x5 : Int32) (h : Hp) (H : Heap) (locs : List Loc) (ls : Array Slot), Cx2 G base A g0 A h s.heap H locs → lo_has ls 7 [(0, .ref (A o)), (3, .int x3), (4, .int x4), (5, .int x5)] → wp_X12_list_L104 o x3 K166 Q n x4 x5 h → W p l e rm_X12_list s m args below meth c H locs 0 0 (MQ below (va_Qi Q (PU2 G base A g0 A) (fun q => base ≤ q)) args s 0 0 (fun q => base ≤ q)) (F0 m 104 ls []) := by
  intro n
  induction n with
  | zero =>
    intro x4 x5 h H locs ls hC hl hw
    rw [wp_X12_list_L104] at hw
    exact hw.elim
  | succ n ih =>
    intro x4 x5 h H locs ls hC hl hw
    rw [wp_X12_list_L104] at hw
    obtain ⟨hx, hb, hr, hml, hown, hts, hg, hs, hlk, hnm⟩ := id hM
    refine lv_iload hx hb dX12_list_104 (lo_at hl 3 rfl) ?_
    refine lv_iload_n hx hb dX12_list_106 rfl (lo_at hl 1 rfl) ?_
    refine lv_icmp_gt (tgt := 166) hx hb dX12_list_107 (by decide) (fun c32 => ?_) (fun c32 => ?_)
    ·
      replace hw := (if_pos c32).mp hw
      exact hK166 x4 h H locs ls hC (lo_sub hl [2] rfl) hw
    ·
      replace hw := (if_neg c32).mp hw
      refine lv_iconst (v := 0) hx hb dX12_list_110 (by decide) ?_
      refine lo_istore (lv' := [(4, .int ((0 : Int32))), (0, .ref (A o)), (3, .int x3), (5, .int x5)]) hx hb dX12_list_111 hl (by decide) rfl (fun ls hl => ?_)
      refine lv_iconst (v := 1) hx hb dX12_list_113 (by decide) ?_
      refine lo_istore (lv' := [(6, .int ((1 : Int32))), (4, .int ((0 : Int32))), (0, .ref (A o)), (3, .int x3), (5, .int x5)]) hx hb dX12_list_114 hl (by decide) rfl (fun ls hl => ?_)
      refine t_X12_list_L116 hM o x3 x5 _ Q ?_ fuel (0 : Int32) (1 : Int32) h H locs ls hC (lo_sub hl [2, 3, 1, 4, 0] rfl) hw
      intro y43 h42 H locs ls hC hl hw
      refine lv_aload_n hx hb dX12_list_152 rfl (lo_at hl 0 rfl) ?_
      obtain ⟨k44, hw⟩ := hw
      refine s_getR hx hb hts hown hg hC fb_10_52 k44 mk_f_RX12_110 dX12_list_153 ?_
      refine lv_iload hx hb dX12_list_156 (lo_at hl 2 rfl) ?_
      refine lv_iconst (v := -1) hx hb dX12_list_158 (by decide) ?_
      obtain ⟨k45, hw⟩ := hw
      refine sf_3 k45.1 ?_
      refine s_iast hx hb hg hC k45.2.1 k45.2.2 dX12_list_159 (fun h46 H locs eh46 hC => ?_)
      replace hw := hw h46 eh46
      obtain ⟨v47, ev47⟩ : ∃ y : Int32, y = x5 + (1 : Int32) := ⟨_, rfl⟩
      replace hw := hw v47 ev47
      refine lo_iinc (v := v47) (lv' := [(5, .int v47), (0, .ref (A o)), (3, .int x3), (4, .int y43)]) hx hb dX12_list_160 hl (k := 3) rfl (by rw [ev47]; rfl) (by decide) rfl (fun ls hl => ?_)
      refine lv_goto (tgt := 104) hx hb dX12_list_163 (by decide) ?_
      exact ih y43 v47 h46 H locs ls hC (lo_sub hl [1, 2, 3, 0] rfl) hw
set_option maxHeartbeats 4000000 in
set_option maxRecDepth 100000 in
theorem c_X12_list (l : Launch) (G : GG) (base : Nat) (A : Nat → Nat) (o : Nat) (x1 : Int32) (x2 : Int32) (x3 : Int32) (h : Hp) (Q : Int32 → Hp → Prop) (hw : wp_X12_list o x1 x2 x3 h Q) : Met l yX12_list (ww yX12_list cX12_list 7 (some .int)) rm_X12_list (va_Pc [.ref (A o), .int x1, .int x2, .int x3] (PU2 G base A h A h)) (va_Qi Q (PU2 G base A h A) (fun q => base ≤ q)) 0 0 (fun q => base ≤ q) := by
  refine met2_of (own := RX12) (nm := "list") (by decide) rfl rfl (List.forall_mem_cons.mpr ⟨rfl, (List.forall_mem_cons.mpr ⟨rfl, (List.forall_mem_cons.mpr ⟨rfl, (List.forall_mem_cons.mpr ⟨rfl, (fun _ h => absurd h List.not_mem_nil)⟩)⟩)⟩)⟩) (Nat.le_of_ble_eq_true rfl) rfl ?_
  intro p e s m args below meth c H locs ls hM hC hl
  obtain ⟨hx, hb, hr, hml, hown, hts, hg, hs, hlk, hnm⟩ := id hM
  unfold wp_X12_list at hw
  refine lv_aload_n hx hb dX12_list_0 rfl (lo_at hl 0 rfl) ?_
  refine lv_iconst (v := 0) hx hb dX12_list_1 (by decide) ?_
  obtain ⟨k1, hw⟩ := hw
  refine s_putI hx hb hts hown hg hC fb_10_0 k1 rfl rfl mk_f_RX12_132 dX12_list_2 (fun h2 H locs eh2 hC => ?_)
  replace hw := hw h2 eh2
  refine lv_aload_n hx hb dX12_list_5 rfl (lo_at hl 0 rfl) ?_
  refine lv_iload_n hx hb dX12_list_6 rfl (lo_at hl 1 rfl) ?_
  obtain ⟨k3, hw⟩ := hw
  refine res2_i hC (run2_V (As := [.int x1]) (rest := []) hM hC hl.1.1 kv_RX12_309 (c_X12_isLooker l G base A o x1 h2 _ hw) (hc_10) k3 rfl rfl rfl ⟨Nat.le_of_ble_eq_true rfl, Nat.le_of_ble_eq_true rfl⟩ (Nat.le_of_ble_eq_true rfl) ⟨Nat.le_of_ble_eq_true rfl, Nat.le_of_ble_eq_true rfl⟩ dX12_list_7) (fun z5 h4 H locs hw hC => ?_)
  refine lv_if_eq (tgt := 36) hx hb dX12_list_10 (by decide) (fun c6 => ?_) (fun c6 => ?_)
  ·
    replace hw := (if_pos c6).mp hw
    refine lv_iconst (v := -1) hx hb dX12_list_36 (by decide) ?_
    exact ret2_i hM hC hw dX12_list_37
  ·
    replace hw := (if_neg c6).mp hw
    refine lv_aload_n hx hb dX12_list_13 rfl (lo_at hl 0 rfl) ?_
    refine lv_iload_n hx hb dX12_list_14 rfl (lo_at hl 2 rfl) ?_
    obtain ⟨k7, hw⟩ := hw
    refine res2_i hC (run2_V (As := [.int x2]) (rest := []) hM hC hl.1.1 kv_RX12_168 (c_X12_isBall l G base A o x2 h4 _ hw) (hc_10) k7 rfl rfl rfl ⟨Nat.le_of_ble_eq_true rfl, Nat.le_of_ble_eq_true rfl⟩ (Nat.le_of_ble_eq_true rfl) ⟨Nat.le_of_ble_eq_true rfl, Nat.le_of_ble_eq_true rfl⟩ dX12_list_15) (fun z9 h8 H locs hw hC => ?_)
    refine lv_if_eq (tgt := 36) hx hb dX12_list_18 (by decide) (fun c10 => ?_) (fun c10 => ?_)
    ·
      replace hw := (if_pos c10).mp hw
      refine lv_iconst (v := -1) hx hb dX12_list_36 (by decide) ?_
      exact ret2_i hM hC hw dX12_list_37
    ·
      replace hw := (if_neg c10).mp hw
      refine lv_aload_n hx hb dX12_list_21 rfl (lo_at hl 0 rfl) ?_
      refine lv_iload_n hx hb dX12_list_22 rfl (lo_at hl 3 rfl) ?_
      refine lv_iconst (v := 0) hx hb dX12_list_23 (by decide) ?_
      refine lv_aload_n hx hb dX12_list_24 rfl (lo_at hl 0 rfl) ?_
      obtain ⟨k11, hw⟩ := hw
      refine s_getI hx hb hts hown hg hC fb_10_12 k11 mk_f_RX12_141 dX12_list_25 ?_
      refine lv_iconst (v := 2) hx hb dX12_list_28 (by decide) ?_
      refine lv_isub hx hb dX12_list_29 ?_
      refine res2_i hC (run2_V (As := [.int x3, .int ((0 : Int32)), .int ((hpI h8 o 12) - (2 : Int32))]) (rest := []) hM hC hl.1.1 kv_RX12_144 (c_X12_isIn l G base A o x3 (0 : Int32) ((hpI h8 o 12) - (2 : Int32)) h8 _ hw) (hc_10) k11 rfl rfl rfl ⟨Nat.le_of_ble_eq_true rfl, Nat.le_of_ble_eq_true rfl⟩ (Nat.le_of_ble_eq_true rfl) ⟨Nat.le_of_ble_eq_true rfl, Nat.le_of_ble_eq_true rfl⟩ dX12_list_30) (fun z13 h12 H locs hw hC => ?_)
      refine lv_if_ne (tgt := 38) hx hb dX12_list_33 (by decide) (fun c14 => ?_) (fun c14 => ?_)
      ·
        replace hw := (if_neg c14).mp hw
        refine lv_iconst (v := 0) hx hb dX12_list_38 (by decide) ?_
        refine lo_istore (lv' := [(4, .int ((0 : Int32))), (0, .ref (A o)), (1, .int x1), (2, .int x2), (3, .int x3)]) hx hb dX12_list_39 hl (by decide) rfl (fun ls hl => ?_)
        refine t_X12_list_L41 hM o x1 x2 x3 _ Q ?_ fuel (0 : Int32) h12 H locs ls hC (lo_sub hl [1, 2, 3, 4, 0] rfl) hw
        intro  h28 H locs ls hC hl hw
        refine lv_aload_n hx hb dX12_list_91 rfl (lo_at hl 0 rfl) ?_
        obtain ⟨k29, hw⟩ := hw
        refine s_getR hx hb hts hown hg hC fb_10_52 k29 mk_f_RX12_110 dX12_list_92 ?_
        refine lv_iload_n hx hb dX12_list_95 rfl (lo_at hl 1 rfl) ?_
        refine lv_iconst (v := -1) hx hb dX12_list_96 (by decide) ?_
        obtain ⟨k30, hw⟩ := hw
        refine sf_3 k30.1 ?_
        refine s_iast hx hb hg hC k30.2.1 k30.2.2 dX12_list_97 (fun h31 H locs eh31 hC => ?_)
        replace hw := hw h31 eh31
        refine lv_iconst (v := -1) hx hb dX12_list_98 (by decide) ?_
        refine lo_istore (lv' := [(4, .int ((-1 : Int32))), (0, .ref (A o)), (2, .int x2), (3, .int x3)]) hx hb dX12_list_99 hl (by decide) rfl (fun ls hl => ?_)
        refine lv_iconst (v := 0) hx hb dX12_list_101 (by decide) ?_
        refine lo_istore (lv' := [(5, .int ((0 : Int32))), (4, .int ((-1 : Int32))), (0, .ref (A o)), (2, .int x2), (3, .int x3)]) hx hb dX12_list_102 hl (by decide) rfl (fun ls hl => ?_)
        refine t_X12_list_L104 hM o x3 _ Q ?_ fuel (-1 : Int32) (0 : Int32) h31 H locs ls hC (lo_sub hl [2, 4, 1, 0] rfl) hw
        intro y49 h48 H locs ls hC hl hw
        refine lv_iload hx hb dX12_list_166 (lo_at hl 0 rfl) ?_
        exact ret2_i hM hC hw dX12_list_168
      ·
        replace hw := (if_pos c14).mp hw
        refine lv_iconst (v := -1) hx hb dX12_list_36 (by decide) ?_
        exact ret2_i hM hC hw dX12_list_37
abbrev rm_X12_pair : Room := { frames := 1, cells := 0, slots := 0, locals := 23 }
set_option maxRecDepth 100000 in
def wp_X12_pair (o : Nat) (x1 : Int32) (x2 : Int32) (x3 : Int32) (h : Hp) (Q : Int32 → Hp → Prop) : Prop := ((hpK h o).1 = 20 + 10) ∧ (∀ h2 : Hp, h2 = stI h o 0 (0 : Int32) → (((hpK h2 o).1 = 20 + 10) ∧ (wp_X12_isBall o x1 h2 (fun (z5 : Int32) (h4 : Hp) => (if z5 = 0 then (Q (-1 : Int32) h4) else (((hpK h4 o).1 = 20 + 10) ∧ (wp_X12_isBall o x2 h4 (fun (z9 : Int32) (h8 : Hp) => (if z9 = 0 then (Q (-1 : Int32) h8) else ((if x1 = x2 then (Q (-1 : Int32) h8) else (((hpK h8 o).1 = 20 + 10) ∧ (wp_X12_isIn o x3 (1 : Int32) (99 : Int32) h8 (fun (z14 : Int32) (h13 : Hp) => (if z14 = 0 then (Q (-1 : Int32) h13) else (((hpK h13 o).1 = 20 + 10) ∧ ((if (hpI h13 o 53) = (10 : Int32) then (Q (-1 : Int32) h13) else (okA h13 (hpR h13 o 54) 1 (hpI h13 o 53) ∧ (∀ h19 : Hp, h19 = stI h13 (ad (hpR h13 o 54)) (hpI h13 o 53).toNatClampNeg x1 → (((hpK h19 o).1 = 20 + 10) ∧ (okA h19 (hpR h19 o 55) 1 (hpI h19 o 53) ∧ (∀ h22 : Hp, h22 = stI h19 (ad (hpR h19 o 55)) (hpI h19 o 53).toNatClampNeg x2 → (((hpK h22 o).1 = 20 + 10) ∧ (okA h22 (hpR h22 o 56) 1 (hpI h22 o 53) ∧ (∀ h25 : Hp, h25 = stI h22 (ad (hpR h22 o 56)) (hpI h22 o 53).toNatClampNeg x3 → (((hpK h25 o).1 = 20 + 10) ∧ (∀ h27 : Hp, h27 = stI h25 o 53 ((hpI h25 o 53) + (1 : Int32)) → (((hpK h27 o).1 = 20 + 10) ∧ (Q ((hpI h27 o 53) - (1 : Int32)) h27))))))))))))))))))))))))))))))
set_option maxHeartbeats 4000000 in
set_option maxRecDepth 100000 in
theorem c_X12_pair (l : Launch) (G : GG) (base : Nat) (A : Nat → Nat) (o : Nat) (x1 : Int32) (x2 : Int32) (x3 : Int32) (h : Hp) (Q : Int32 → Hp → Prop) (hw : wp_X12_pair o x1 x2 x3 h Q) : Met l yX12_pair (ww yX12_pair cX12_pair 4 (some .int)) rm_X12_pair (va_Pc [.ref (A o), .int x1, .int x2, .int x3] (PU2 G base A h A h)) (va_Qi Q (PU2 G base A h A) (fun q => base ≤ q)) 0 0 (fun q => base ≤ q) := by
  refine met2_of (own := RX12) (nm := "pair") (by decide) rfl rfl (List.forall_mem_cons.mpr ⟨rfl, (List.forall_mem_cons.mpr ⟨rfl, (List.forall_mem_cons.mpr ⟨rfl, (List.forall_mem_cons.mpr ⟨rfl, (fun _ h => absurd h List.not_mem_nil)⟩)⟩)⟩)⟩) (Nat.le_of_ble_eq_true rfl) rfl ?_
  intro p e s m args below meth c H locs ls hM hC hl
  obtain ⟨hx, hb, hr, hml, hown, hts, hg, hs, hlk, hnm⟩ := id hM
  unfold wp_X12_pair at hw
  refine lv_aload_n hx hb dX12_pair_0 rfl (lo_at hl 0 rfl) ?_
  refine lv_iconst (v := 0) hx hb dX12_pair_1 (by decide) ?_
  obtain ⟨k1, hw⟩ := hw
  refine s_putI hx hb hts hown hg hC fb_10_0 k1 rfl rfl mk_f_RX12_132 dX12_pair_2 (fun h2 H locs eh2 hC => ?_)
  replace hw := hw h2 eh2
  refine lv_aload_n hx hb dX12_pair_5 rfl (lo_at hl 0 rfl) ?_
  refine lv_iload_n hx hb dX12_pair_6 rfl (lo_at hl 1 rfl) ?_
  obtain ⟨k3, hw⟩ := hw
  refine res2_i hC (run2_V (As := [.int x1]) (rest := []) hM hC hl.1.1 kv_RX12_168 (c_X12_isBall l G base A o x1 h2 _ hw) (hc_10) k3 rfl rfl rfl ⟨Nat.le_of_ble_eq_true rfl, Nat.le_of_ble_eq_true rfl⟩ (Nat.le_of_ble_eq_true rfl) ⟨Nat.le_of_ble_eq_true rfl, Nat.le_of_ble_eq_true rfl⟩ dX12_pair_7) (fun z5 h4 H locs hw hC => ?_)
  refine lv_if_eq (tgt := 46) hx hb dX12_pair_10 (by decide) (fun c6 => ?_) (fun c6 => ?_)
  ·
    replace hw := (if_pos c6).mp hw
    refine lv_iconst (v := -1) hx hb dX12_pair_46 (by decide) ?_
    exact ret2_i hM hC hw dX12_pair_47
  ·
    replace hw := (if_neg c6).mp hw
    refine lv_aload_n hx hb dX12_pair_13 rfl (lo_at hl 0 rfl) ?_
    refine lv_iload_n hx hb dX12_pair_14 rfl (lo_at hl 2 rfl) ?_
    obtain ⟨k7, hw⟩ := hw
    refine res2_i hC (run2_V (As := [.int x2]) (rest := []) hM hC hl.1.1 kv_RX12_168 (c_X12_isBall l G base A o x2 h4 _ hw) (hc_10) k7 rfl rfl rfl ⟨Nat.le_of_ble_eq_true rfl, Nat.le_of_ble_eq_true rfl⟩ (Nat.le_of_ble_eq_true rfl) ⟨Nat.le_of_ble_eq_true rfl, Nat.le_of_ble_eq_true rfl⟩ dX12_pair_15) (fun z9 h8 H locs hw hC => ?_)
    refine lv_if_eq (tgt := 46) hx hb dX12_pair_18 (by decide) (fun c10 => ?_) (fun c10 => ?_)
    ·
      replace hw := (if_pos c10).mp hw
      refine lv_iconst (v := -1) hx hb dX12_pair_46 (by decide) ?_
      exact ret2_i hM hC hw dX12_pair_47
    ·
      replace hw := (if_neg c10).mp hw
      refine lv_iload_n hx hb dX12_pair_21 rfl (lo_at hl 1 rfl) ?_
      refine lv_iload_n hx hb dX12_pair_22 rfl (lo_at hl 2 rfl) ?_
      refine lv_icmp_eq (tgt := 46) hx hb dX12_pair_23 (by decide) (fun c11 => ?_) (fun c11 => ?_)
      ·
        replace hw := (if_pos c11).mp hw
        refine lv_iconst (v := -1) hx hb dX12_pair_46 (by decide) ?_
        exact ret2_i hM hC hw dX12_pair_47
      ·
        replace hw := (if_neg c11).mp hw
        refine lv_aload_n hx hb dX12_pair_26 rfl (lo_at hl 0 rfl) ?_
        refine lv_iload_n hx hb dX12_pair_27 rfl (lo_at hl 3 rfl) ?_
        refine lv_iconst (v := 1) hx hb dX12_pair_28 (by decide) ?_
        refine lv_bipush (v := 99) hx hb dX12_pair_29 (by decide) ?_
        obtain ⟨k12, hw⟩ := hw
        refine res2_i hC (run2_V (As := [.int x3, .int ((1 : Int32)), .int ((99 : Int32))]) (rest := []) hM hC hl.1.1 kv_RX12_144 (c_X12_isIn l G base A o x3 (1 : Int32) (99 : Int32) h8 _ hw) (hc_10) k12 rfl rfl rfl ⟨Nat.le_of_ble_eq_true rfl, Nat.le_of_ble_eq_true rfl⟩ (Nat.le_of_ble_eq_true rfl) ⟨Nat.le_of_ble_eq_true rfl, Nat.le_of_ble_eq_true rfl⟩ dX12_pair_31) (fun z14 h13 H locs hw hC => ?_)
        refine lv_if_eq (tgt := 46) hx hb dX12_pair_34 (by decide) (fun c15 => ?_) (fun c15 => ?_)
        ·
          replace hw := (if_pos c15).mp hw
          refine lv_iconst (v := -1) hx hb dX12_pair_46 (by decide) ?_
          exact ret2_i hM hC hw dX12_pair_47
        ·
          replace hw := (if_neg c15).mp hw
          refine lv_aload_n hx hb dX12_pair_37 rfl (lo_at hl 0 rfl) ?_
          obtain ⟨k16, hw⟩ := hw
          refine s_getI hx hb hts hown hg hC fb_10_53 k16 mk_f_RX12_342 dX12_pair_38 ?_
          refine lv_bipush (v := 10) hx hb dX12_pair_41 (by decide) ?_
          refine lv_icmp_ne (tgt := 48) hx hb dX12_pair_43 (by decide) (fun c17 => ?_) (fun c17 => ?_)
          ·
            replace hw := (if_neg c17).mp hw
            refine lv_aload_n hx hb dX12_pair_48 rfl (lo_at hl 0 rfl) ?_
            refine s_getR hx hb hts hown hg hC fb_10_54 k16 mk_f_RX12_113 dX12_pair_49 ?_
            refine lv_aload_n hx hb dX12_pair_52 rfl (lo_at hl 0 rfl) ?_
            refine s_getI hx hb hts hown hg hC fb_10_53 k16 mk_f_RX12_342 dX12_pair_53 ?_
            refine lv_iload_n hx hb dX12_pair_56 rfl (lo_at hl 1 rfl) ?_
            obtain ⟨k18, hw⟩ := hw
            refine sf_3 k18.1 ?_
            refine s_iast hx hb hg hC k18.2.1 k18.2.2 dX12_pair_57 (fun h19 H locs eh19 hC => ?_)
            replace hw := hw h19 eh19
            refine lv_aload_n hx hb dX12_pair_58 rfl (lo_at hl 0 rfl) ?_
            obtain ⟨k20, hw⟩ := hw
            refine s_getR hx hb hts hown hg hC fb_10_55 k20 mk_f_RX12_116 dX12_pair_59 ?_
            refine lv_aload_n hx hb dX12_pair_62 rfl (lo_at hl 0 rfl) ?_
            refine s_getI hx hb hts hown hg hC fb_10_53 k20 mk_f_RX12_342 dX12_pair_63 ?_
            refine lv_iload_n hx hb dX12_pair_66 rfl (lo_at hl 2 rfl) ?_
            obtain ⟨k21, hw⟩ := hw
            refine sf_3 k21.1 ?_
            refine s_iast hx hb hg hC k21.2.1 k21.2.2 dX12_pair_67 (fun h22 H locs eh22 hC => ?_)
            replace hw := hw h22 eh22
            refine lv_aload_n hx hb dX12_pair_68 rfl (lo_at hl 0 rfl) ?_
            obtain ⟨k23, hw⟩ := hw
            refine s_getR hx hb hts hown hg hC fb_10_56 k23 mk_f_RX12_119 dX12_pair_69 ?_
            refine lv_aload_n hx hb dX12_pair_72 rfl (lo_at hl 0 rfl) ?_
            refine s_getI hx hb hts hown hg hC fb_10_53 k23 mk_f_RX12_342 dX12_pair_73 ?_
            refine lv_iload_n hx hb dX12_pair_76 rfl (lo_at hl 3 rfl) ?_
            obtain ⟨k24, hw⟩ := hw
            refine sf_3 k24.1 ?_
            refine s_iast hx hb hg hC k24.2.1 k24.2.2 dX12_pair_77 (fun h25 H locs eh25 hC => ?_)
            replace hw := hw h25 eh25
            refine lv_aload_n hx hb dX12_pair_78 rfl (lo_at hl 0 rfl) ?_
            refine lv_aload_n hx hb dX12_pair_79 rfl (lo_at hl 0 rfl) ?_
            obtain ⟨k26, hw⟩ := hw
            refine s_getI hx hb hts hown hg hC fb_10_53 k26 mk_f_RX12_342 dX12_pair_80 ?_
            refine lv_iconst (v := 1) hx hb dX12_pair_83 (by decide) ?_
            refine lv_iadd hx hb dX12_pair_84 ?_
            refine s_putI hx hb hts hown hg hC fb_10_53 k26 rfl rfl mk_f_RX12_342 dX12_pair_85 (fun h27 H locs eh27 hC => ?_)
            replace hw := hw h27 eh27
            refine lv_aload_n hx hb dX12_pair_88 rfl (lo_at hl 0 rfl) ?_
            obtain ⟨k28, hw⟩ := hw
            refine s_getI hx hb hts hown hg hC fb_10_53 k28 mk_f_RX12_342 dX12_pair_89 ?_
            refine lv_iconst (v := 1) hx hb dX12_pair_92 (by decide) ?_
            refine lv_isub hx hb dX12_pair_93 ?_
            exact ret2_i hM hC hw dX12_pair_94
          ·
            replace hw := (if_pos c17).mp hw
            refine lv_iconst (v := -1) hx hb dX12_pair_46 (by decide) ?_
            exact ret2_i hM hC hw dX12_pair_47
abbrev rm_X12_countOf : Room := { frames := 5, cells := 0, slots := 0, locals := 133 }
set_option maxRecDepth 100000 in
def wp_X12_countOf_J91 (s0 : Int32) (s1 : Int32) (Q : Int32 → Hp → Prop) (h : Hp) : Prop := (if s1 = s0 then (Q (0 : Int32) h) else (Q (1 : Int32) h))
set_option maxRecDepth 100000 in
def wp_X12_countOf_J67 (o : Nat) (x2 : Int32) (s0 : Int32) (Q : Int32 → Hp → Prop) (h : Hp) : Prop := ((hpK h o).1 = 20 + 10) ∧ (okA h (hpR h o 54) 1 x2 ∧ (∀ v24 : Int32, v24 = hpI h (ad (hpR h o 54)) (x2).toNatClampNeg → (okA h (hpR h o 55) 1 x2 ∧ (∀ v26 : Int32, v26 = hpI h (ad (hpR h o 55)) (x2).toNatClampNeg → (wp_X12_truthOf o v24 v26 h (fun (z28 : Int32) (h27 : Hp) => (if z28 = 0 then (wp_X12_countOf_J91 (1 : Int32) s0 Q h27) else (wp_X12_countOf_J91 (0 : Int32) s0 Q h27))))))))
set_option maxRecDepth 100000 in
def wp_X12_countOf (o : Nat) (x1 : Int32) (x2 : Int32) (x3 : Int32) (h : Hp) (Q : Int32 → Hp → Prop) : Prop := ((hpK h o).1 = 20 + 10) ∧ (okA h (hpR h o 54) 1 x2 ∧ (∀ v3 : Int32, v3 = hpI h (ad (hpR h o 54)) (x2).toNatClampNeg → (wp_X12_isShot o v3 h (fun (z5 : Int32) (h4 : Hp) => (if z5 = 0 then (Q (-1 : Int32) h4) else (((hpK h4 o).1 = 20 + 10) ∧ (okA h4 (hpR h4 o 55) 1 x2 ∧ (∀ v9 : Int32, v9 = hpI h4 (ad (hpR h4 o 55)) (x2).toNatClampNeg → (wp_X12_isShot o v9 h4 (fun (z11 : Int32) (h10 : Hp) => (if z11 = 0 then (Q (-1 : Int32) h10) else (((hpK h10 o).1 = 20 + 10) ∧ (okA h10 (hpR h10 o 54) 1 x2 ∧ (∀ v15 : Int32, v15 = hpI h10 (ad (hpR h10 o 54)) (x2).toNatClampNeg → (okA h10 (hpR h10 o 55) 1 x2 ∧ (∀ v17 : Int32, v17 = hpI h10 (ad (hpR h10 o 55)) (x2).toNatClampNeg → (wp_X12_saysOf o x1 v15 v17 x3 h10 (fun (z19 : Int32) (h18 : Hp) => (if z19 = (2 : Int32) then (Q (2 : Int32) h18) else ((if z19 = (1 : Int32) then (wp_X12_countOf_J67 o x2 (1 : Int32) Q h18) else (wp_X12_countOf_J67 o x2 (0 : Int32) Q h18))))))))))))))))))))))
set_option maxHeartbeats 4000000 in
set_option maxRecDepth 100000 in
theorem t_X12_countOf_J91 {p : Program} {l : Launch} {e : Env} {s : State} {m : MethodId} {args : Array Value} {below : List Frame} {meth : Method} {c : Code} {G : GG} {base : Nat} {A : Nat → Nat} {g0 : Hp} (hM : Mx G base p s m args meth c cX12_countOf 5 (some .int) RX12 "countOf") (s0 : Int32) (s1 : Int32) (Q : Int32 → Hp → Prop) (h : Hp) (H : Heap) (locs : List Loc) (ls : Array Slot) : Cx2 G base A g0 A h s.heap H locs → lo_has ls 5 [] → wp_X12_countOf_J91 s0 s1 Q h → W p l e rm_X12_countOf s m args below meth c H locs 0 0 (MQ below (va_Qi Q (PU2 G base A g0 A) (fun q => base ≤ q)) args s 0 0 (fun q => base ≤ q)) (F0 m 91 ls [.int s0, .int s1]) := by
  intro hC hl hw
  unfold wp_X12_countOf_J91 at hw
  obtain ⟨hx, hb, hr, hml, hown, hts, hg, hs, hlk, hnm⟩ := id hM
  refine lv_icmp_ne (tgt := 98) hx hb dX12_countOf_91 (by decide) (fun c30 => ?_) (fun c30 => ?_)
  ·
    replace hw := (if_neg c30).mp hw
    refine lv_iconst (v := 1) hx hb dX12_countOf_98 (by decide) ?_
    exact ret2_i hM hC hw dX12_countOf_99
  ·
    replace hw := (if_pos c30).mp hw
    refine lv_iconst (v := 0) hx hb dX12_countOf_94 (by decide) ?_
    refine lv_goto (tgt := 99) hx hb dX12_countOf_95 (by decide) ?_
    exact ret2_i hM hC hw dX12_countOf_99
set_option maxHeartbeats 4000000 in
set_option maxRecDepth 100000 in
theorem t_X12_countOf_J67 {p : Program} {l : Launch} {e : Env} {s : State} {m : MethodId} {args : Array Value} {below : List Frame} {meth : Method} {c : Code} {G : GG} {base : Nat} {A : Nat → Nat} {g0 : Hp} (hM : Mx G base p s m args meth c cX12_countOf 5 (some .int) RX12 "countOf") (o : Nat) (x2 : Int32) (s0 : Int32) (Q : Int32 → Hp → Prop) (h : Hp) (H : Heap) (locs : List Loc) (ls : Array Slot) : Cx2 G base A g0 A h s.heap H locs → lo_has ls 5 [(0, .ref (A o)), (2, .int x2)] → wp_X12_countOf_J67 o x2 s0 Q h → W p l e rm_X12_countOf s m args below meth c H locs 0 0 (MQ below (va_Qi Q (PU2 G base A g0 A) (fun q => base ≤ q)) args s 0 0 (fun q => base ≤ q)) (F0 m 67 ls [.int s0]) := by
  intro hC hl hw
  unfold wp_X12_countOf_J67 at hw
  obtain ⟨hx, hb, hr, hml, hown, hts, hg, hs, hlk, hnm⟩ := id hM
  refine lv_aload_n hx hb dX12_countOf_67 rfl (lo_at hl 0 rfl) ?_
  refine lv_aload_n hx hb dX12_countOf_68 rfl (lo_at hl 0 rfl) ?_
  obtain ⟨k22, hw⟩ := hw
  refine s_getR hx hb hts hown hg hC fb_10_54 k22 mk_f_RX12_113 dX12_countOf_69 ?_
  refine lv_iload_n hx hb dX12_countOf_72 rfl (lo_at hl 1 rfl) ?_
  obtain ⟨k23, hw⟩ := hw
  refine sf_2 k23.1 ?_
  refine s_iald hx hb hg hC k23.2.1 k23.2.2 dX12_countOf_73 ?_
  refine lv_topi (fun v24 ev24 => ?_)
  replace hw := hw v24 ev24
  refine lv_aload_n hx hb dX12_countOf_74 rfl (lo_at hl 0 rfl) ?_
  refine s_getR hx hb hts hown hg hC fb_10_55 k22 mk_f_RX12_116 dX12_countOf_75 ?_
  refine lv_iload_n hx hb dX12_countOf_78 rfl (lo_at hl 1 rfl) ?_
  obtain ⟨k25, hw⟩ := hw
  refine sf_2 k25.1 ?_
  refine s_iald hx hb hg hC k25.2.1 k25.2.2 dX12_countOf_79 ?_
  refine lv_topi (fun v26 ev26 => ?_)
  replace hw := hw v26 ev26
  refine res2_i hC (run2_V (As := [.int v24, .int v26]) (rest := [.int s0]) hM hC hl.1.1 kv_RX12_336 (c_X12_truthOf l G base A o v24 v26 h _ hw) (hc_10) k22 rfl rfl rfl ⟨Nat.le_of_ble_eq_true rfl, Nat.le_of_ble_eq_true rfl⟩ (Nat.le_of_ble_eq_true rfl) ⟨Nat.le_of_ble_eq_true rfl, Nat.le_of_ble_eq_true rfl⟩ dX12_countOf_80) (fun z28 h27 H locs hw hC => ?_)
  refine lv_if_ne (tgt := 90) hx hb dX12_countOf_83 (by decide) (fun c29 => ?_) (fun c29 => ?_)
  ·
    replace hw := (if_neg c29).mp hw
    refine lv_iconst (v := 0) hx hb dX12_countOf_90 (by decide) ?_
    exact t_X12_countOf_J91 hM (0 : Int32) s0 Q  h27 H locs ls hC (lo_sub hl [] rfl) hw
  ·
    replace hw := (if_pos c29).mp hw
    refine lv_iconst (v := 1) hx hb dX12_countOf_86 (by decide) ?_
    refine lv_goto (tgt := 91) hx hb dX12_countOf_87 (by decide) ?_
    exact t_X12_countOf_J91 hM (1 : Int32) s0 Q  h27 H locs ls hC (lo_sub hl [] rfl) hw
set_option maxHeartbeats 4000000 in
set_option maxRecDepth 100000 in
theorem c_X12_countOf (l : Launch) (G : GG) (base : Nat) (A : Nat → Nat) (o : Nat) (x1 : Int32) (x2 : Int32) (x3 : Int32) (h : Hp) (Q : Int32 → Hp → Prop) (hw : wp_X12_countOf o x1 x2 x3 h Q) : Met l yX12_countOf (ww yX12_countOf cX12_countOf 5 (some .int)) rm_X12_countOf (va_Pc [.ref (A o), .int x1, .int x2, .int x3] (PU2 G base A h A h)) (va_Qi Q (PU2 G base A h A) (fun q => base ≤ q)) 0 0 (fun q => base ≤ q) := by
  refine met2_of (own := RX12) (nm := "countOf") (by decide) rfl rfl (List.forall_mem_cons.mpr ⟨rfl, (List.forall_mem_cons.mpr ⟨rfl, (List.forall_mem_cons.mpr ⟨rfl, (List.forall_mem_cons.mpr ⟨rfl, (fun _ h => absurd h List.not_mem_nil)⟩)⟩)⟩)⟩) (Nat.le_of_ble_eq_true rfl) rfl ?_
  intro p e s m args below meth c H locs ls hM hC hl
  obtain ⟨hx, hb, hr, hml, hown, hts, hg, hs, hlk, hnm⟩ := id hM
  unfold wp_X12_countOf at hw
  refine lv_aload_n hx hb dX12_countOf_0 rfl (lo_at hl 0 rfl) ?_
  refine lv_aload_n hx hb dX12_countOf_1 rfl (lo_at hl 0 rfl) ?_
  obtain ⟨k1, hw⟩ := hw
  refine s_getR hx hb hts hown hg hC fb_10_54 k1 mk_f_RX12_113 dX12_countOf_2 ?_
  refine lv_iload_n hx hb dX12_countOf_5 rfl (lo_at hl 2 rfl) ?_
  obtain ⟨k2, hw⟩ := hw
  refine sf_2 k2.1 ?_
  refine s_iald hx hb hg hC k2.2.1 k2.2.2 dX12_countOf_6 ?_
  refine lv_topi (fun v3 ev3 => ?_)
  replace hw := hw v3 ev3
  refine res2_i hC (run2_V (As := [.int v3]) (rest := []) hM hC hl.1.1 kv_RX12_333 (c_X12_isShot l G base A o v3 h _ hw) (hc_10) k1 rfl rfl rfl ⟨Nat.le_of_ble_eq_true rfl, Nat.le_of_ble_eq_true rfl⟩ (Nat.le_of_ble_eq_true rfl) ⟨Nat.le_of_ble_eq_true rfl, Nat.le_of_ble_eq_true rfl⟩ dX12_countOf_7) (fun z5 h4 H locs hw hC => ?_)
  refine lv_if_eq (tgt := 26) hx hb dX12_countOf_10 (by decide) (fun c6 => ?_) (fun c6 => ?_)
  ·
    replace hw := (if_pos c6).mp hw
    refine lv_iconst (v := -1) hx hb dX12_countOf_26 (by decide) ?_
    exact ret2_i hM hC hw dX12_countOf_27
  ·
    replace hw := (if_neg c6).mp hw
    refine lv_aload_n hx hb dX12_countOf_13 rfl (lo_at hl 0 rfl) ?_
    refine lv_aload_n hx hb dX12_countOf_14 rfl (lo_at hl 0 rfl) ?_
    obtain ⟨k7, hw⟩ := hw
    refine s_getR hx hb hts hown hg hC fb_10_55 k7 mk_f_RX12_116 dX12_countOf_15 ?_
    refine lv_iload_n hx hb dX12_countOf_18 rfl (lo_at hl 2 rfl) ?_
    obtain ⟨k8, hw⟩ := hw
    refine sf_2 k8.1 ?_
    refine s_iald hx hb hg hC k8.2.1 k8.2.2 dX12_countOf_19 ?_
    refine lv_topi (fun v9 ev9 => ?_)
    replace hw := hw v9 ev9
    refine res2_i hC (run2_V (As := [.int v9]) (rest := []) hM hC hl.1.1 kv_RX12_333 (c_X12_isShot l G base A o v9 h4 _ hw) (hc_10) k7 rfl rfl rfl ⟨Nat.le_of_ble_eq_true rfl, Nat.le_of_ble_eq_true rfl⟩ (Nat.le_of_ble_eq_true rfl) ⟨Nat.le_of_ble_eq_true rfl, Nat.le_of_ble_eq_true rfl⟩ dX12_countOf_20) (fun z11 h10 H locs hw hC => ?_)
    refine lv_if_ne (tgt := 28) hx hb dX12_countOf_23 (by decide) (fun c12 => ?_) (fun c12 => ?_)
    ·
      replace hw := (if_neg c12).mp hw
      refine lv_aload_n hx hb dX12_countOf_28 rfl (lo_at hl 0 rfl) ?_
      refine lv_iload_n hx hb dX12_countOf_29 rfl (lo_at hl 1 rfl) ?_
      refine lv_aload_n hx hb dX12_countOf_30 rfl (lo_at hl 0 rfl) ?_
      obtain ⟨k13, hw⟩ := hw
      refine s_getR hx hb hts hown hg hC fb_10_54 k13 mk_f_RX12_113 dX12_countOf_31 ?_
      refine lv_iload_n hx hb dX12_countOf_34 rfl (lo_at hl 2 rfl) ?_
      obtain ⟨k14, hw⟩ := hw
      refine sf_2 k14.1 ?_
      refine s_iald hx hb hg hC k14.2.1 k14.2.2 dX12_countOf_35 ?_
      refine lv_topi (fun v15 ev15 => ?_)
      replace hw := hw v15 ev15
      refine lv_aload_n hx hb dX12_countOf_36 rfl (lo_at hl 0 rfl) ?_
      refine s_getR hx hb hts hown hg hC fb_10_55 k13 mk_f_RX12_116 dX12_countOf_37 ?_
      refine lv_iload_n hx hb dX12_countOf_40 rfl (lo_at hl 2 rfl) ?_
      obtain ⟨k16, hw⟩ := hw
      refine sf_2 k16.1 ?_
      refine s_iald hx hb hg hC k16.2.1 k16.2.2 dX12_countOf_41 ?_
      refine lv_topi (fun v17 ev17 => ?_)
      replace hw := hw v17 ev17
      refine lv_iload_n hx hb dX12_countOf_42 rfl (lo_at hl 3 rfl) ?_
      refine res2_i hC (run2_V (As := [.int x1, .int v15, .int v17, .int x3]) (rest := []) hM hC hl.1.1 kv_RX12_330 (c_X12_saysOf l G base A o x1 v15 v17 x3 h10 _ hw) (hc_10) k13 rfl rfl rfl ⟨Nat.le_of_ble_eq_true rfl, Nat.le_of_ble_eq_true rfl⟩ (Nat.le_of_ble_eq_true rfl) ⟨Nat.le_of_ble_eq_true rfl, Nat.le_of_ble_eq_true rfl⟩ dX12_countOf_43) (fun z19 h18 H locs hw hC => ?_)
      refine lo_istore (lv' := [(4, .int z19), (0, .ref (A o)), (1, .int x1), (2, .int x2), (3, .int x3)]) hx hb dX12_countOf_46 hl (by decide) rfl (fun ls hl => ?_)
      refine lv_iload hx hb dX12_countOf_48 (lo_at hl 0 rfl) ?_
      refine lv_iconst (v := 2) hx hb dX12_countOf_50 (by decide) ?_
      refine lv_icmp_ne (tgt := 56) hx hb dX12_countOf_51 (by decide) (fun c20 => ?_) (fun c20 => ?_)
      ·
        replace hw := (if_neg c20).mp hw
        refine lv_iload hx hb dX12_countOf_56 (lo_at hl 0 rfl) ?_
        refine lv_iconst (v := 1) hx hb dX12_countOf_58 (by decide) ?_
        refine lv_icmp_ne (tgt := 66) hx hb dX12_countOf_59 (by decide) (fun c21 => ?_) (fun c21 => ?_)
        ·
          replace hw := (if_neg c21).mp hw
          refine lv_iconst (v := 0) hx hb dX12_countOf_66 (by decide) ?_
          exact t_X12_countOf_J67 hM o x2 (0 : Int32) Q  h18 H locs ls hC (lo_sub hl [1, 3] rfl) hw
        ·
          replace hw := (if_pos c21).mp hw
          refine lv_iconst (v := 1) hx hb dX12_countOf_62 (by decide) ?_
          refine lv_goto (tgt := 67) hx hb dX12_countOf_63 (by decide) ?_
          exact t_X12_countOf_J67 hM o x2 (1 : Int32) Q  h18 H locs ls hC (lo_sub hl [1, 3] rfl) hw
      ·
        replace hw := (if_pos c20).mp hw
        refine lv_iconst (v := 2) hx hb dX12_countOf_54 (by decide) ?_
        exact ret2_i hM hC hw dX12_countOf_55
    ·
      replace hw := (if_pos c12).mp hw
      refine lv_iconst (v := -1) hx hb dX12_countOf_26 (by decide) ?_
      exact ret2_i hM hC hw dX12_countOf_27
abbrev rm_X12_counted : Room := { frames := 6, cells := 0, slots := 0, locals := 157 }
set_option maxRecDepth 100000 in
def wp_X12_counted_J53 (o : Nat) (x1 : Int32) (x2 : Int32) (x3 : Int32) (x4 : Int32) (x5 : Int32) (s0 : Int32) (s1 : Int32) (s2 : Int32) (s3 : Option Nat) (KH : Int32 → Int32 → Hp → Prop) (K72 : Int32 → Hp → Prop) (Q : Int32 → Hp → Prop) (h : Hp) : Prop := okO h s3 10 ∧ (wp_X12_countOf (ad s3) s2 s1 s0 h (fun (z16 : Int32) (h15 : Hp) => (if z16 = x3 then (∀ v19 : Int32, v19 = x4 + (1 : Int32) → (∀ v20 : Int32, v20 = x5 + (1 : Int32) → (KH v19 v20 h15))) else (∀ v18 : Int32, v18 = x5 + (1 : Int32) → (KH x4 v18 h15)))))
set_option maxRecDepth 100000 in
def wp_X12_counted_L31 (o : Nat) (x1 : Int32) (x2 : Int32) (x3 : Int32) (K72 : Int32 → Hp → Prop) (Q : Int32 → Hp → Prop) : Nat → Int32 → Int32 → Hp → Prop
  | 0, _, _, _ => False
  | n + 1, x4, x5, h => ((hpK h o).1 = 20 + 10) ∧ ((if (hpI h o 53) ≤ x5 then (K72 x4 h) else ((if x2 = 0 then (wp_X12_counted_J53 o x1 x2 x3 x4 x5 (0 : Int32) x5 x1 (some o) (wp_X12_counted_L31 o x1 x2 x3 K72 Q n) K72 Q h) else (wp_X12_counted_J53 o x1 x2 x3 x4 x5 (1 : Int32) x5 x1 (some o) (wp_X12_counted_L31 o x1 x2 x3 K72 Q n) K72 Q h)))))
set_option maxRecDepth 100000 in
def wp_X12_counted (o : Nat) (x1 : Int32) (x2 : Int32) (x3 : Int32) (h : Hp) (Q : Int32 → Hp → Prop) : Prop := ((hpK h o).1 = 20 + 10) ∧ (∀ h2 : Hp, h2 = stI h o 0 (0 : Int32) → (((hpK h2 o).1 = 20 + 10) ∧ (wp_X12_isLooker o x1 h2 (fun (z5 : Int32) (h4 : Hp) => (if z5 = 0 then (Q (-1 : Int32) h4) else (((hpK h4 o).1 = 20 + 10) ∧ (wp_X12_isIn o x3 (0 : Int32) (2 : Int32) h4 (fun (z9 : Int32) (h8 : Hp) => (if z9 = 0 then (Q (-1 : Int32) h8) else (wp_X12_counted_L31 o x1 x2 x3 (fun (y22 : Int32) (h21 : Hp) => Q y22 h21) Q fuel (0 : Int32) (0 : Int32) h8))))))))))
set_option maxHeartbeats 4000000 in
set_option maxRecDepth 100000 in
theorem t_X12_counted_J53 {p : Program} {l : Launch} {e : Env} {s : State} {m : MethodId} {args : Array Value} {below : List Frame} {meth : Method} {c : Code} {G : GG} {base : Nat} {A : Nat → Nat} {g0 : Hp} (hM : Mx G base p s m args meth c cX12_counted 6 (some .int) RX12 "counted") (o : Nat) (x1 : Int32) (x2 : Int32) (x3 : Int32) (x4 : Int32) (x5 : Int32) (s0 : Int32) (s1 : Int32) (s2 : Int32) (s3 : Option Nat) (KH : Int32 → Int32 → Hp → Prop) (K72 : Int32 → Hp → Prop) (Q : Int32 → Hp → Prop) (hKH : ∀ (y4 : Int32) (y5 : Int32) (h : Hp) (H : Heap) (locs : List Loc) (ls : Array Slot), Cx2 G base A g0 A h s.heap H locs → lo_has ls 6 [(0, .ref (A o)), (1, .int x1), (2, .int x2), (3, .int x3), (4, .int y4), (5, .int y5)] → KH y4 y5 h → W p l e rm_X12_counted s m args below meth c H locs 0 0 (MQ below (va_Qi Q (PU2 G base A g0 A) (fun q => base ≤ q)) args s 0 0 (fun q => base ≤ q)) (F0 m 31 ls [])) (hK72 : ∀ (y4 : Int32) (h : Hp) (H : Heap) (locs : List Loc) (ls : Array Slot), Cx2 G base A g0 A h s.heap H locs → lo_has ls 6 [(4, .int y4)] → K72 y4 h → W p l e rm_X12_counted s m args below meth c H locs 0 0 (MQ below (va_Qi Q (PU2 G base A g0 A) (fun q => base ≤ q)) args s 0 0 (fun q => base ≤ q)) (F0 m 72 ls [])) (h : Hp) (H : Heap) (locs : List Loc) (ls : Array Slot) : Cx2 G base A g0 A h s.heap H locs → lo_has ls 6 [(0, .ref (A o)), (1, .int x1), (2, .int x2), (3, .int x3), (4, .int x4), (5, .int x5)] → wp_X12_counted_J53 o x1 x2 x3 x4 x5 s0 s1 s2 s3 KH K72 Q h → W p l e rm_X12_counted s m args below meth c H locs 0 0 (MQ below (va_Qi Q (PU2 G base A g0 A) (fun q => base ≤ q)) args s 0 0 (fun q => base ≤ q)) (F0 m 53 ls [.int s0, .int s1, .int s2, va_rf (Option.map A s3)]) := by
  intro hC hl hw
  unfold wp_X12_counted_J53 at hw
  obtain ⟨hx, hb, hr, hml, hown, hts, hg, hs, hlk, hnm⟩ := id hM
  obtain ⟨k14, hw⟩ := hw
  refine sf_4 k14.1 ?_
  refine res2_i hC (run2_V (As := [.int s2, .int s1, .int s0]) (rest := []) hM hC hl.1.1 kv_RX12_345 (c_X12_countOf l G base A (ad s3) s2 s1 s0 h _ hw) (hc_10) k14.2 rfl rfl rfl ⟨Nat.le_of_ble_eq_true rfl, Nat.le_of_ble_eq_true rfl⟩ (Nat.le_of_ble_eq_true rfl) ⟨Nat.le_of_ble_eq_true rfl, Nat.le_of_ble_eq_true rfl⟩ dX12_counted_53) (fun z16 h15 H locs hw hC => ?_)
  refine lv_iload_n hx hb dX12_counted_56 rfl (lo_at hl 3 rfl) ?_
  refine lv_icmp_ne (tgt := 66) hx hb dX12_counted_57 (by decide) (fun c17 => ?_) (fun c17 => ?_)
  ·
    replace hw := (if_neg c17).mp hw
    obtain ⟨v18, ev18⟩ : ∃ y : Int32, y = x5 + (1 : Int32) := ⟨_, rfl⟩
    replace hw := hw v18 ev18
    refine lo_iinc (v := v18) (lv' := [(5, .int v18), (0, .ref (A o)), (1, .int x1), (2, .int x2), (3, .int x3), (4, .int x4)]) hx hb dX12_counted_66 hl (k := 5) rfl (by rw [ev18]; rfl) (by decide) rfl (fun ls hl => ?_)
    refine lv_goto (tgt := 31) hx hb dX12_counted_69 (by decide) ?_
    exact hKH x4 v18 h15 H locs ls hC (lo_sub hl [1, 2, 3, 4, 5, 0] rfl) hw
  ·
    replace hw := (if_pos c17).mp hw
    refine lv_iload hx hb dX12_counted_60 (lo_at hl 4 rfl) ?_
    refine lv_iconst (v := 1) hx hb dX12_counted_62 (by decide) ?_
    refine lv_iadd hx hb dX12_counted_63 ?_
    refine lv_topi (fun v19 ev19 => ?_)
    replace hw := hw v19 ev19
    refine lo_istore (lv' := [(4, .int v19), (0, .ref (A o)), (1, .int x1), (2, .int x2), (3, .int x3), (5, .int x5)]) hx hb dX12_counted_64 hl (by decide) rfl (fun ls hl => ?_)
    obtain ⟨v20, ev20⟩ : ∃ y : Int32, y = x5 + (1 : Int32) := ⟨_, rfl⟩
    replace hw := hw v20 ev20
    refine lo_iinc (v := v20) (lv' := [(5, .int v20), (4, .int v19), (0, .ref (A o)), (1, .int x1), (2, .int x2), (3, .int x3)]) hx hb dX12_counted_66 hl (k := 5) rfl (by rw [ev20]; rfl) (by decide) rfl (fun ls hl => ?_)
    refine lv_goto (tgt := 31) hx hb dX12_counted_69 (by decide) ?_
    exact hKH v19 v20 h15 H locs ls hC (lo_sub hl [2, 3, 4, 5, 1, 0] rfl) hw
set_option maxHeartbeats 4000000 in
set_option maxRecDepth 100000 in
theorem t_X12_counted_L31 {p : Program} {l : Launch} {e : Env} {s : State} {m : MethodId} {args : Array Value} {below : List Frame} {meth : Method} {c : Code} {G : GG} {base : Nat} {A : Nat → Nat} {g0 : Hp} (hM : Mx G base p s m args meth c cX12_counted 6 (some .int) RX12 "counted") (o : Nat) (x1 : Int32) (x2 : Int32) (x3 : Int32) (K72 : Int32 → Hp → Prop) (Q : Int32 → Hp → Prop) (hK72 : ∀ (y4 : Int32) (h : Hp) (H : Heap) (locs : List Loc) (ls : Array Slot), Cx2 G base A g0 A h s.heap H locs → lo_has ls 6 [(4, .int y4)] → K72 y4 h → W p l e rm_X12_counted s m args below meth c H locs 0 0 (MQ below (va_Qi Q (PU2 G base A g0 A) (fun q => base ≤ q)) args s 0 0 (fun q => base ≤ q)) (F0 m 72 ls [])) : ∀ (n : Nat) (x4 : Int32) (x5 : Int32) (h : Hp) (H : Heap) (locs : List Loc) (ls : Array Slot), Cx2 G base A g0 A h s.heap H locs → lo_has ls 6 [(0, .ref (A o)), (1, .int x1), (2, .int x2), (3, .int x3), (4, .int x4), (5, .int x5)] → wp_X12_counted_L31 o x1 x2 x3 K72 Q n x4 x5 h → W p l e rm_X12_counted s m args below meth c H locs 0 0 (MQ below (va_Qi Q (PU2 G base A g0 A) (fun q => base ≤ q)) args s 0 0 (fun q => base ≤ q)) (F0 m 31 ls []) := by
  intro n
  induction n with
  | zero =>
    intro x4 x5 h H locs ls hC hl hw
    rw [wp_X12_counted_L31] at hw
    exact hw.elim
  | succ n ih =>
    intro x4 x5 h H locs ls hC hl hw
    rw [wp_X12_counted_L31] at hw
    obtain ⟨hx, hb, hr, hml, hown, hts, hg, hs, hlk, hnm⟩ := id hM
    refine lv_iload hx hb dX12_counted_31 (lo_at hl 5 rfl) ?_
    refine lv_aload_n hx hb dX12_counted_33 rfl (lo_at hl 0 rfl) ?_
    obtain ⟨k11, hw⟩ := hw
    refine s_getI hx hb hts hown hg hC fb_10_53 k11 mk_f_RX12_342 dX12_counted_34 ?_
    refine lv_icmp_ge (tgt := 72) hx hb dX12_counted_37 (by decide) (fun c12 => ?_) (fun c12 => ?_)
    ·
      replace hw := (if_pos c12).mp hw
      exact hK72 x4 h H locs ls hC (lo_sub hl [4] rfl) hw
    ·
      replace hw := (if_neg c12).mp hw
      refine lv_aload_n hx hb dX12_counted_40 rfl (lo_at hl 0 rfl) ?_
      refine lv_iload_n hx hb dX12_counted_41 rfl (lo_at hl 1 rfl) ?_
      refine lv_iload hx hb dX12_counted_42 (lo_at hl 5 rfl) ?_
      refine lv_iload_n hx hb dX12_counted_44 rfl (lo_at hl 2 rfl) ?_
      refine lv_if_eq (tgt := 52) hx hb dX12_counted_45 (by decide) (fun c13 => ?_) (fun c13 => ?_)
      ·
        replace hw := (if_pos c13).mp hw
        refine lv_iconst (v := 0) hx hb dX12_counted_52 (by decide) ?_
        exact t_X12_counted_J53 hM o x1 x2 x3 x4 x5 (0 : Int32) x5 x1 (some o) (wp_X12_counted_L31 o x1 x2 x3 K72 Q n) K72 Q ih hK72 h H locs ls hC (lo_sub hl [0, 1, 2, 3, 4, 5] rfl) hw
      ·
        replace hw := (if_neg c13).mp hw
        refine lv_iconst (v := 1) hx hb dX12_counted_48 (by decide) ?_
        refine lv_goto (tgt := 53) hx hb dX12_counted_49 (by decide) ?_
        exact t_X12_counted_J53 hM o x1 x2 x3 x4 x5 (1 : Int32) x5 x1 (some o) (wp_X12_counted_L31 o x1 x2 x3 K72 Q n) K72 Q ih hK72 h H locs ls hC (lo_sub hl [0, 1, 2, 3, 4, 5] rfl) hw
set_option maxHeartbeats 4000000 in
set_option maxRecDepth 100000 in
theorem c_X12_counted (l : Launch) (G : GG) (base : Nat) (A : Nat → Nat) (o : Nat) (x1 : Int32) (x2 : Int32) (x3 : Int32) (h : Hp) (Q : Int32 → Hp → Prop) (hw : wp_X12_counted o x1 x2 x3 h Q) : Met l yX12_counted (ww yX12_counted cX12_counted 6 (some .int)) rm_X12_counted (va_Pc [.ref (A o), .int x1, .int x2, .int x3] (PU2 G base A h A h)) (va_Qi Q (PU2 G base A h A) (fun q => base ≤ q)) 0 0 (fun q => base ≤ q) := by
  refine met2_of (own := RX12) (nm := "counted") (by decide) rfl rfl (List.forall_mem_cons.mpr ⟨rfl, (List.forall_mem_cons.mpr ⟨rfl, (List.forall_mem_cons.mpr ⟨rfl, (List.forall_mem_cons.mpr ⟨rfl, (fun _ h => absurd h List.not_mem_nil)⟩)⟩)⟩)⟩) (Nat.le_of_ble_eq_true rfl) rfl ?_
  intro p e s m args below meth c H locs ls hM hC hl
  obtain ⟨hx, hb, hr, hml, hown, hts, hg, hs, hlk, hnm⟩ := id hM
  unfold wp_X12_counted at hw
  refine lv_aload_n hx hb dX12_counted_0 rfl (lo_at hl 0 rfl) ?_
  refine lv_iconst (v := 0) hx hb dX12_counted_1 (by decide) ?_
  obtain ⟨k1, hw⟩ := hw
  refine s_putI hx hb hts hown hg hC fb_10_0 k1 rfl rfl mk_f_RX12_132 dX12_counted_2 (fun h2 H locs eh2 hC => ?_)
  replace hw := hw h2 eh2
  refine lv_aload_n hx hb dX12_counted_5 rfl (lo_at hl 0 rfl) ?_
  refine lv_iload_n hx hb dX12_counted_6 rfl (lo_at hl 1 rfl) ?_
  obtain ⟨k3, hw⟩ := hw
  refine res2_i hC (run2_V (As := [.int x1]) (rest := []) hM hC hl.1.1 kv_RX12_309 (c_X12_isLooker l G base A o x1 h2 _ hw) (hc_10) k3 rfl rfl rfl ⟨Nat.le_of_ble_eq_true rfl, Nat.le_of_ble_eq_true rfl⟩ (Nat.le_of_ble_eq_true rfl) ⟨Nat.le_of_ble_eq_true rfl, Nat.le_of_ble_eq_true rfl⟩ dX12_counted_7) (fun z5 h4 H locs hw hC => ?_)
  refine lv_if_eq (tgt := 23) hx hb dX12_counted_10 (by decide) (fun c6 => ?_) (fun c6 => ?_)
  ·
    replace hw := (if_pos c6).mp hw
    refine lv_iconst (v := -1) hx hb dX12_counted_23 (by decide) ?_
    exact ret2_i hM hC hw dX12_counted_24
  ·
    replace hw := (if_neg c6).mp hw
    refine lv_aload_n hx hb dX12_counted_13 rfl (lo_at hl 0 rfl) ?_
    refine lv_iload_n hx hb dX12_counted_14 rfl (lo_at hl 3 rfl) ?_
    refine lv_iconst (v := 0) hx hb dX12_counted_15 (by decide) ?_
    refine lv_iconst (v := 2) hx hb dX12_counted_16 (by decide) ?_
    obtain ⟨k7, hw⟩ := hw
    refine res2_i hC (run2_V (As := [.int x3, .int ((0 : Int32)), .int ((2 : Int32))]) (rest := []) hM hC hl.1.1 kv_RX12_144 (c_X12_isIn l G base A o x3 (0 : Int32) (2 : Int32) h4 _ hw) (hc_10) k7 rfl rfl rfl ⟨Nat.le_of_ble_eq_true rfl, Nat.le_of_ble_eq_true rfl⟩ (Nat.le_of_ble_eq_true rfl) ⟨Nat.le_of_ble_eq_true rfl, Nat.le_of_ble_eq_true rfl⟩ dX12_counted_17) (fun z9 h8 H locs hw hC => ?_)
    refine lv_if_ne (tgt := 25) hx hb dX12_counted_20 (by decide) (fun c10 => ?_) (fun c10 => ?_)
    ·
      replace hw := (if_neg c10).mp hw
      refine lv_iconst (v := 0) hx hb dX12_counted_25 (by decide) ?_
      refine lo_istore (lv' := [(4, .int ((0 : Int32))), (0, .ref (A o)), (1, .int x1), (2, .int x2), (3, .int x3)]) hx hb dX12_counted_26 hl (by decide) rfl (fun ls hl => ?_)
      refine lv_iconst (v := 0) hx hb dX12_counted_28 (by decide) ?_
      refine lo_istore (lv' := [(5, .int ((0 : Int32))), (4, .int ((0 : Int32))), (0, .ref (A o)), (1, .int x1), (2, .int x2), (3, .int x3)]) hx hb dX12_counted_29 hl (by decide) rfl (fun ls hl => ?_)
      refine t_X12_counted_L31 hM o x1 x2 x3 _ Q ?_ fuel (0 : Int32) (0 : Int32) h8 H locs ls hC (lo_sub hl [2, 3, 4, 5, 1, 0] rfl) hw
      intro y22 h21 H locs ls hC hl hw
      refine lv_iload hx hb dX12_counted_72 (lo_at hl 0 rfl) ?_
      exact ret2_i hM hC hw dX12_counted_74
    ·
      replace hw := (if_pos c10).mp hw
      refine lv_iconst (v := -1) hx hb dX12_counted_23 (by decide) ?_
      exact ret2_i hM hC hw dX12_counted_24
abbrev rm_X12_ones : Room := { frames := 0, cells := 0, slots := 0, locals := 0 }
set_option maxRecDepth 100000 in
def wp_X12_ones_L4 (K21 : Int32 → Hp → Prop) (Q : Int32 → Hp → Prop) : Nat → Int32 → Int32 → Hp → Prop
  | 0, _, _, _ => False
  | n + 1, x2, x3, h => (if x3 = 0 then (K21 x2 h) else (∀ v2 : Int32, v2 = x2 + (1 : Int32) → (∀ v3 : Int32, v3 = x3 &&& (x3 - (1 : Int32)) → (wp_X12_ones_L4 K21 Q n v2 v3 h))))
set_option maxRecDepth 100000 in
def wp_X12_ones (o : Nat) (x1 : Int32) (h : Hp) (Q : Int32 → Hp → Prop) : Prop := wp_X12_ones_L4 (fun (y5 : Int32) (h4 : Hp) => Q y5 h4) Q fuel (0 : Int32) x1 h
set_option maxHeartbeats 4000000 in
set_option maxRecDepth 100000 in
theorem t_X12_ones_L4 {p : Program} {l : Launch} {e : Env} {s : State} {m : MethodId} {args : Array Value} {below : List Frame} {meth : Method} {c : Code} {G : GG} {base : Nat} {A : Nat → Nat} {g0 : Hp} (hM : Mx G base p s m args meth c cX12_ones 4 (some .int) RX12 "ones") (K21 : Int32 → Hp → Prop) (Q : Int32 → Hp → Prop) (hK21 : ∀ (y2 : Int32) (h : Hp) (H : Heap) (locs : List Loc) (ls : Array Slot), Cx2 G base A g0 A h s.heap H locs → lo_has ls 4 [(2, .int y2)] → K21 y2 h → W p l e rm_X12_ones s m args below meth c H locs 0 0 (MQ below (va_Qi Q (PU2 G base A g0 A) (fun q => base ≤ q)) args s 0 0 (fun q => base ≤ q)) (F0 m 21 ls [])) : ∀ (n : Nat) (x2 : Int32) (x3 : Int32) (h : Hp) (H : Heap) (locs : List Loc) (ls : Array Slot), Cx2 G base A g0 A h s.heap H locs → lo_has ls 4 [(2, .int x2), (3, .int x3)] → wp_X12_ones_L4 K21 Q n x2 x3 h → W p l e rm_X12_ones s m args below meth c H locs 0 0 (MQ below (va_Qi Q (PU2 G base A g0 A) (fun q => base ≤ q)) args s 0 0 (fun q => base ≤ q)) (F0 m 4 ls []) := by
  intro n
  induction n with
  | zero =>
    intro x2 x3 h H locs ls hC hl hw
    rw [wp_X12_ones_L4] at hw
    exact hw.elim
  | succ n ih =>
    intro x2 x3 h H locs ls hC hl hw
    rw [wp_X12_ones_L4] at hw
    obtain ⟨hx, hb, hr, hml, hown, hts, hg, hs, hlk, hnm⟩ := id hM
    refine lv_iload_n hx hb dX12_ones_4 rfl (lo_at hl 1 rfl) ?_
    refine lv_if_eq (tgt := 21) hx hb dX12_ones_5 (by decide) (fun c1 => ?_) (fun c1 => ?_)
    ·
      replace hw := (if_pos c1).mp hw
      exact hK21 x2 h H locs ls hC (lo_sub hl [0] rfl) hw
    ·
      replace hw := (if_neg c1).mp hw
      refine lv_iload_n hx hb dX12_ones_8 rfl (lo_at hl 0 rfl) ?_
      refine lv_iconst (v := 1) hx hb dX12_ones_9 (by decide) ?_
      refine lv_iadd hx hb dX12_ones_10 ?_
      refine lv_topi (fun v2 ev2 => ?_)
      replace hw := hw v2 ev2
      refine lo_istore_n (lv' := [(2, .int v2), (3, .int x3)]) hx hb dX12_ones_11 rfl hl (by decide) rfl (fun ls hl => ?_)
      refine lv_iload_n hx hb dX12_ones_12 rfl (lo_at hl 1 rfl) ?_
      refine lv_iload_n hx hb dX12_ones_13 rfl (lo_at hl 1 rfl) ?_
      refine lv_iconst (v := 1) hx hb dX12_ones_14 (by decide) ?_
      refine lv_isub hx hb dX12_ones_15 ?_
      refine lv_iand hx hb dX12_ones_16 ?_
      refine lv_topi (fun v3 ev3 => ?_)
      replace hw := hw v3 ev3
      refine lo_istore_n (lv' := [(3, .int v3), (2, .int v2)]) hx hb dX12_ones_17 rfl hl (by decide) rfl (fun ls hl => ?_)
      refine lv_goto (tgt := 4) hx hb dX12_ones_18 (by decide) ?_
      exact ih v2 v3 h H locs ls hC (lo_sub hl [1, 0] rfl) hw
set_option maxHeartbeats 4000000 in
set_option maxRecDepth 100000 in
theorem c_X12_ones (l : Launch) (G : GG) (base : Nat) (A : Nat → Nat) (o : Nat) (x1 : Int32) (h : Hp) (Q : Int32 → Hp → Prop) (hw : wp_X12_ones o x1 h Q) : Met l yX12_ones (ww yX12_ones cX12_ones 4 (some .int)) rm_X12_ones (va_Pc [.ref (A o), .int x1] (PU2 G base A h A h)) (va_Qi Q (PU2 G base A h A) (fun q => base ≤ q)) 0 0 (fun q => base ≤ q) := by
  refine met2_of (own := RX12) (nm := "ones") (by decide) rfl rfl (List.forall_mem_cons.mpr ⟨rfl, (List.forall_mem_cons.mpr ⟨rfl, (fun _ h => absurd h List.not_mem_nil)⟩)⟩) (Nat.le_of_ble_eq_true rfl) rfl ?_
  intro p e s m args below meth c H locs ls hM hC hl
  obtain ⟨hx, hb, hr, hml, hown, hts, hg, hs, hlk, hnm⟩ := id hM
  unfold wp_X12_ones at hw
  refine lv_iconst (v := 0) hx hb dX12_ones_0 (by decide) ?_
  refine lo_istore_n (lv' := [(2, .int ((0 : Int32))), (0, .ref (A o)), (1, .int x1)]) hx hb dX12_ones_1 rfl hl (by decide) rfl (fun ls hl => ?_)
  refine lv_iload_n hx hb dX12_ones_2 rfl (lo_at hl 2 rfl) ?_
  refine lo_istore_n (lv' := [(3, .int x1), (2, .int ((0 : Int32))), (0, .ref (A o)), (1, .int x1)]) hx hb dX12_ones_3 rfl hl (by decide) rfl (fun ls hl => ?_)
  refine t_X12_ones_L4 hM _ Q ?_ fuel (0 : Int32) x1 h H locs ls hC (lo_sub hl [1, 0] rfl) hw
  intro y5 h4 H locs ls hC hl hw
  refine lv_iload_n hx hb dX12_ones_21 rfl (lo_at hl 0 rfl) ?_
  exact ret2_i hM hC hw dX12_ones_22
abbrev rm_X12_hoursOfSet : Room := { frames := 0, cells := 0, slots := 0, locals := 0 }
set_option maxRecDepth 100000 in
def wp_X12_hoursOfSet_L4 (o : Nat) (x1 : Int32) (K36 : Int32 → Hp → Prop) (Q : Int32 → Hp → Prop) : Nat → Int32 → Int32 → Hp → Prop
  | 0, _, _, _ => False
  | n + 1, x2, x3, h => ((hpK h o).1 = 20 + 10) ∧ ((if (hpI h o 53) ≤ x3 then (K36 x2 h) else ((if ((x1 >>> (x3 &&& 31)) &&& (1 : Int32)) = (1 : Int32) then (okA h (hpR h o 56) 1 x3 ∧ (∀ v6 : Int32, v6 = hpI h (ad (hpR h o 56)) (x3).toNatClampNeg → (∀ v7 : Int32, v7 = x2 + v6 → (∀ v8 : Int32, v8 = x3 + (1 : Int32) → (wp_X12_hoursOfSet_L4 o x1 K36 Q n v7 v8 h))))) else (∀ v4 : Int32, v4 = x3 + (1 : Int32) → (wp_X12_hoursOfSet_L4 o x1 K36 Q n x2 v4 h))))))
set_option maxRecDepth 100000 in
def wp_X12_hoursOfSet (o : Nat) (x1 : Int32) (h : Hp) (Q : Int32 → Hp → Prop) : Prop := wp_X12_hoursOfSet_L4 o x1 (fun (y10 : Int32) (h9 : Hp) => Q y10 h9) Q fuel (0 : Int32) (0 : Int32) h
set_option maxHeartbeats 4000000 in
set_option maxRecDepth 100000 in
theorem t_X12_hoursOfSet_L4 {p : Program} {l : Launch} {e : Env} {s : State} {m : MethodId} {args : Array Value} {below : List Frame} {meth : Method} {c : Code} {G : GG} {base : Nat} {A : Nat → Nat} {g0 : Hp} (hM : Mx G base p s m args meth c cX12_hoursOfSet 4 (some .int) RX12 "hoursOfSet") (o : Nat) (x1 : Int32) (K36 : Int32 → Hp → Prop) (Q : Int32 → Hp → Prop) (hK36 : ∀ (y2 : Int32) (h : Hp) (H : Heap) (locs : List Loc) (ls : Array Slot), Cx2 G base A g0 A h s.heap H locs → lo_has ls 4 [(2, .int y2)] → K36 y2 h → W p l e rm_X12_hoursOfSet s m args below meth c H locs 0 0 (MQ below (va_Qi Q (PU2 G base A g0 A) (fun q => base ≤ q)) args s 0 0 (fun q => base ≤ q)) (F0 m 36 ls [])) : ∀ (n : Nat) (x2 : Int32) (x3 : Int32) (h : Hp) (H : Heap) (locs : List Loc) (ls : Array Slot), Cx2 G base A g0 A h s.heap H locs → lo_has ls 4 [(0, .ref (A o)), (1, .int x1), (2, .int x2), (3, .int x3)] → wp_X12_hoursOfSet_L4 o x1 K36 Q n x2 x3 h → W p l e rm_X12_hoursOfSet s m args below meth c H locs 0 0 (MQ below (va_Qi Q (PU2 G base A g0 A) (fun q => base ≤ q)) args s 0 0 (fun q => base ≤ q)) (F0 m 4 ls []) := by
  intro n
  induction n with
  | zero =>
    intro x2 x3 h H locs ls hC hl hw
    rw [wp_X12_hoursOfSet_L4] at hw
    exact hw.elim
  | succ n ih =>
    intro x2 x3 h H locs ls hC hl hw
    rw [wp_X12_hoursOfSet_L4] at hw
    obtain ⟨hx, hb, hr, hml, hown, hts, hg, hs, hlk, hnm⟩ := id hM
    refine lv_iload_n hx hb dX12_hoursOfSet_4 rfl (lo_at hl 3 rfl) ?_
    refine lv_aload_n hx hb dX12_hoursOfSet_5 rfl (lo_at hl 0 rfl) ?_
    obtain ⟨k1, hw⟩ := hw
    refine s_getI hx hb hts hown hg hC fb_10_53 k1 mk_f_RX12_342 dX12_hoursOfSet_6 ?_
    refine lv_icmp_ge (tgt := 36) hx hb dX12_hoursOfSet_9 (by decide) (fun c2 => ?_) (fun c2 => ?_)
    ·
      replace hw := (if_pos c2).mp hw
      exact hK36 x2 h H locs ls hC (lo_sub hl [2] rfl) hw
    ·
      replace hw := (if_neg c2).mp hw
      refine lv_iload_n hx hb dX12_hoursOfSet_12 rfl (lo_at hl 1 rfl) ?_
      refine lv_iload_n hx hb dX12_hoursOfSet_13 rfl (lo_at hl 3 rfl) ?_
      refine lv_ishr hx hb dX12_hoursOfSet_14 ?_
      refine lv_iconst (v := 1) hx hb dX12_hoursOfSet_15 (by decide) ?_
      refine lv_iand hx hb dX12_hoursOfSet_16 ?_
      refine lv_iconst (v := 1) hx hb dX12_hoursOfSet_17 (by decide) ?_
      refine lv_icmp_ne (tgt := 30) hx hb dX12_hoursOfSet_18 (by decide) (fun c3 => ?_) (fun c3 => ?_)
      ·
        replace hw := (if_neg c3).mp hw
        obtain ⟨v4, ev4⟩ : ∃ y : Int32, y = x3 + (1 : Int32) := ⟨_, rfl⟩
        replace hw := hw v4 ev4
        refine lo_iinc (v := v4) (lv' := [(3, .int v4), (0, .ref (A o)), (1, .int x1), (2, .int x2)]) hx hb dX12_hoursOfSet_30 hl (k := 3) rfl (by rw [ev4]; rfl) (by decide) rfl (fun ls hl => ?_)
        refine lv_goto (tgt := 4) hx hb dX12_hoursOfSet_33 (by decide) ?_
        exact ih x2 v4 h H locs ls hC (lo_sub hl [1, 2, 3, 0] rfl) hw
      ·
        replace hw := (if_pos c3).mp hw
        refine lv_iload_n hx hb dX12_hoursOfSet_21 rfl (lo_at hl 2 rfl) ?_
        refine lv_aload_n hx hb dX12_hoursOfSet_22 rfl (lo_at hl 0 rfl) ?_
        refine s_getR hx hb hts hown hg hC fb_10_56 k1 mk_f_RX12_119 dX12_hoursOfSet_23 ?_
        refine lv_iload_n hx hb dX12_hoursOfSet_26 rfl (lo_at hl 3 rfl) ?_
        obtain ⟨k5, hw⟩ := hw
        refine sf_2 k5.1 ?_
        refine s_iald hx hb hg hC k5.2.1 k5.2.2 dX12_hoursOfSet_27 ?_
        refine lv_topi (fun v6 ev6 => ?_)
        replace hw := hw v6 ev6
        refine lv_iadd hx hb dX12_hoursOfSet_28 ?_
        refine lv_topi (fun v7 ev7 => ?_)
        replace hw := hw v7 ev7
        refine lo_istore_n (lv' := [(2, .int v7), (0, .ref (A o)), (1, .int x1), (3, .int x3)]) hx hb dX12_hoursOfSet_29 rfl hl (by decide) rfl (fun ls hl => ?_)
        obtain ⟨v8, ev8⟩ : ∃ y : Int32, y = x3 + (1 : Int32) := ⟨_, rfl⟩
        replace hw := hw v8 ev8
        refine lo_iinc (v := v8) (lv' := [(3, .int v8), (2, .int v7), (0, .ref (A o)), (1, .int x1)]) hx hb dX12_hoursOfSet_30 hl (k := 3) rfl (by rw [ev8]; rfl) (by decide) rfl (fun ls hl => ?_)
        refine lv_goto (tgt := 4) hx hb dX12_hoursOfSet_33 (by decide) ?_
        exact ih v7 v8 h H locs ls hC (lo_sub hl [2, 3, 1, 0] rfl) hw
set_option maxHeartbeats 4000000 in
set_option maxRecDepth 100000 in
theorem c_X12_hoursOfSet (l : Launch) (G : GG) (base : Nat) (A : Nat → Nat) (o : Nat) (x1 : Int32) (h : Hp) (Q : Int32 → Hp → Prop) (hw : wp_X12_hoursOfSet o x1 h Q) : Met l yX12_hoursOfSet (ww yX12_hoursOfSet cX12_hoursOfSet 4 (some .int)) rm_X12_hoursOfSet (va_Pc [.ref (A o), .int x1] (PU2 G base A h A h)) (va_Qi Q (PU2 G base A h A) (fun q => base ≤ q)) 0 0 (fun q => base ≤ q) := by
  refine met2_of (own := RX12) (nm := "hoursOfSet") (by decide) rfl rfl (List.forall_mem_cons.mpr ⟨rfl, (List.forall_mem_cons.mpr ⟨rfl, (fun _ h => absurd h List.not_mem_nil)⟩)⟩) (Nat.le_of_ble_eq_true rfl) rfl ?_
  intro p e s m args below meth c H locs ls hM hC hl
  obtain ⟨hx, hb, hr, hml, hown, hts, hg, hs, hlk, hnm⟩ := id hM
  unfold wp_X12_hoursOfSet at hw
  refine lv_iconst (v := 0) hx hb dX12_hoursOfSet_0 (by decide) ?_
  refine lo_istore_n (lv' := [(2, .int ((0 : Int32))), (0, .ref (A o)), (1, .int x1)]) hx hb dX12_hoursOfSet_1 rfl hl (by decide) rfl (fun ls hl => ?_)
  refine lv_iconst (v := 0) hx hb dX12_hoursOfSet_2 (by decide) ?_
  refine lo_istore_n (lv' := [(3, .int ((0 : Int32))), (2, .int ((0 : Int32))), (0, .ref (A o)), (1, .int x1)]) hx hb dX12_hoursOfSet_3 rfl hl (by decide) rfl (fun ls hl => ?_)
  refine t_X12_hoursOfSet_L4 hM o x1 _ Q ?_ fuel (0 : Int32) (0 : Int32) h H locs ls hC (lo_sub hl [2, 3, 1, 0] rfl) hw
  intro y10 h9 H locs ls hC hl hw
  refine lv_iload_n hx hb dX12_hoursOfSet_36 rfl (lo_at hl 0 rfl) ?_
  exact ret2_i hM hC hw dX12_hoursOfSet_37
abbrev rm_X12_findsAll : Room := { frames := 0, cells := 0, slots := 0, locals := 0 }
set_option maxRecDepth 100000 in
def wp_X12_findsAll_L2 (o : Nat) (x1 : Int32) (x2 : Int32) (K30 : Hp → Prop) (K38 : Hp → Prop) (Q : Int32 → Hp → Prop) : Nat → Int32 → Hp → Prop
  | 0, _, _ => False
  | n + 1, x3, h => ((hpK h o).1 = 20 + 10) ∧ ((if (hpI h o 45) ≤ x3 then (K38 h) else ((if ((x1 >>> (x3 &&& 31)) &&& (1 : Int32)) = (1 : Int32) then (okA h (hpR h o 57) 1 x3 ∧ (∀ v6 : Int32, v6 = hpI h (ad (hpR h o 57)) (x3).toNatClampNeg → ((if (v6 &&& x2) = 0 then (K30 h) else (∀ v8 : Int32, v8 = x3 + (1 : Int32) → (wp_X12_findsAll_L2 o x1 x2 K30 K38 Q n v8 h)))))) else (∀ v4 : Int32, v4 = x3 + (1 : Int32) → (wp_X12_findsAll_L2 o x1 x2 K30 K38 Q n v4 h))))))
set_option maxRecDepth 100000 in
def wp_X12_findsAll (o : Nat) (x1 : Int32) (x2 : Int32) (h : Hp) (Q : Int32 → Hp → Prop) : Prop := wp_X12_findsAll_L2 o x1 x2 (fun (h9 : Hp) => Q (0 : Int32) h9) (fun (h10 : Hp) => Q (1 : Int32) h10) Q fuel (0 : Int32) h
set_option maxHeartbeats 4000000 in
set_option maxRecDepth 100000 in
theorem t_X12_findsAll_L2 {p : Program} {l : Launch} {e : Env} {s : State} {m : MethodId} {args : Array Value} {below : List Frame} {meth : Method} {c : Code} {G : GG} {base : Nat} {A : Nat → Nat} {g0 : Hp} (hM : Mx G base p s m args meth c cX12_findsAll 4 (some .boolean) RX12 "findsAll") (o : Nat) (x1 : Int32) (x2 : Int32) (K30 : Hp → Prop) (K38 : Hp → Prop) (Q : Int32 → Hp → Prop) (hK30 : ∀ (h : Hp) (H : Heap) (locs : List Loc) (ls : Array Slot), Cx2 G base A g0 A h s.heap H locs → lo_has ls 4 [] → K30 h → W p l e rm_X12_findsAll s m args below meth c H locs 0 0 (MQ below (va_Qi Q (PU2 G base A g0 A) (fun q => base ≤ q)) args s 0 0 (fun q => base ≤ q)) (F0 m 30 ls [])) (hK38 : ∀ (h : Hp) (H : Heap) (locs : List Loc) (ls : Array Slot), Cx2 G base A g0 A h s.heap H locs → lo_has ls 4 [] → K38 h → W p l e rm_X12_findsAll s m args below meth c H locs 0 0 (MQ below (va_Qi Q (PU2 G base A g0 A) (fun q => base ≤ q)) args s 0 0 (fun q => base ≤ q)) (F0 m 38 ls [])) : ∀ (n : Nat) (x3 : Int32) (h : Hp) (H : Heap) (locs : List Loc) (ls : Array Slot), Cx2 G base A g0 A h s.heap H locs → lo_has ls 4 [(0, .ref (A o)), (1, .int x1), (2, .int x2), (3, .int x3)] → wp_X12_findsAll_L2 o x1 x2 K30 K38 Q n x3 h → W p l e rm_X12_findsAll s m args below meth c H locs 0 0 (MQ below (va_Qi Q (PU2 G base A g0 A) (fun q => base ≤ q)) args s 0 0 (fun q => base ≤ q)) (F0 m 2 ls []) := by
  intro n
  induction n with
  | zero =>
    intro x3 h H locs ls hC hl hw
    rw [wp_X12_findsAll_L2] at hw
    exact hw.elim
  | succ n ih =>
    intro x3 h H locs ls hC hl hw
    rw [wp_X12_findsAll_L2] at hw
    obtain ⟨hx, hb, hr, hml, hown, hts, hg, hs, hlk, hnm⟩ := id hM
    refine lv_iload_n hx hb dX12_findsAll_2 rfl (lo_at hl 3 rfl) ?_
    refine lv_aload_n hx hb dX12_findsAll_3 rfl (lo_at hl 0 rfl) ?_
    obtain ⟨k1, hw⟩ := hw
    refine s_getI hx hb hts hown hg hC fb_10_45 k1 mk_f_RX12_283 dX12_findsAll_4 ?_
    refine lv_icmp_ge (tgt := 38) hx hb dX12_findsAll_7 (by decide) (fun c2 => ?_) (fun c2 => ?_)
    ·
      replace hw := (if_pos c2).mp hw
      exact hK38  h H locs ls hC (lo_sub hl [] rfl) hw
    ·
      replace hw := (if_neg c2).mp hw
      refine lv_iload_n hx hb dX12_findsAll_10 rfl (lo_at hl 1 rfl) ?_
      refine lv_iload_n hx hb dX12_findsAll_11 rfl (lo_at hl 3 rfl) ?_
      refine lv_ishr hx hb dX12_findsAll_12 ?_
      refine lv_iconst (v := 1) hx hb dX12_findsAll_13 (by decide) ?_
      refine lv_iand hx hb dX12_findsAll_14 ?_
      refine lv_iconst (v := 1) hx hb dX12_findsAll_15 (by decide) ?_
      refine lv_icmp_ne (tgt := 32) hx hb dX12_findsAll_16 (by decide) (fun c3 => ?_) (fun c3 => ?_)
      ·
        replace hw := (if_neg c3).mp hw
        obtain ⟨v4, ev4⟩ : ∃ y : Int32, y = x3 + (1 : Int32) := ⟨_, rfl⟩
        replace hw := hw v4 ev4
        refine lo_iinc (v := v4) (lv' := [(3, .int v4), (0, .ref (A o)), (1, .int x1), (2, .int x2)]) hx hb dX12_findsAll_32 hl (k := 3) rfl (by rw [ev4]; rfl) (by decide) rfl (fun ls hl => ?_)
        refine lv_goto (tgt := 2) hx hb dX12_findsAll_35 (by decide) ?_
        exact ih v4 h H locs ls hC (lo_sub hl [1, 2, 3, 0] rfl) hw
      ·
        replace hw := (if_pos c3).mp hw
        refine lv_aload_n hx hb dX12_findsAll_19 rfl (lo_at hl 0 rfl) ?_
        refine s_getR hx hb hts hown hg hC fb_10_57 k1 mk_f_RX12_122 dX12_findsAll_20 ?_
        refine lv_iload_n hx hb dX12_findsAll_23 rfl (lo_at hl 3 rfl) ?_
        obtain ⟨k5, hw⟩ := hw
        refine sf_2 k5.1 ?_
        refine s_iald hx hb hg hC k5.2.1 k5.2.2 dX12_findsAll_24 ?_
        refine lv_topi (fun v6 ev6 => ?_)
        replace hw := hw v6 ev6
        refine lv_iload_n hx hb dX12_findsAll_25 rfl (lo_at hl 2 rfl) ?_
        refine lv_iand hx hb dX12_findsAll_26 ?_
        refine lv_if_ne (tgt := 32) hx hb dX12_findsAll_27 (by decide) (fun c7 => ?_) (fun c7 => ?_)
        ·
          replace hw := (if_neg c7).mp hw
          obtain ⟨v8, ev8⟩ : ∃ y : Int32, y = x3 + (1 : Int32) := ⟨_, rfl⟩
          replace hw := hw v8 ev8
          refine lo_iinc (v := v8) (lv' := [(3, .int v8), (0, .ref (A o)), (1, .int x1), (2, .int x2)]) hx hb dX12_findsAll_32 hl (k := 3) rfl (by rw [ev8]; rfl) (by decide) rfl (fun ls hl => ?_)
          refine lv_goto (tgt := 2) hx hb dX12_findsAll_35 (by decide) ?_
          exact ih v8 h H locs ls hC (lo_sub hl [1, 2, 3, 0] rfl) hw
        ·
          replace hw := (if_pos c7).mp hw
          exact hK30  h H locs ls hC (lo_sub hl [] rfl) hw
set_option maxHeartbeats 4000000 in
set_option maxRecDepth 100000 in
theorem c_X12_findsAll (l : Launch) (G : GG) (base : Nat) (A : Nat → Nat) (o : Nat) (x1 : Int32) (x2 : Int32) (h : Hp) (Q : Int32 → Hp → Prop) (hw : wp_X12_findsAll o x1 x2 h Q) : Met l yX12_findsAll (ww yX12_findsAll cX12_findsAll 4 (some .boolean)) rm_X12_findsAll (va_Pc [.ref (A o), .int x1, .int x2] (PU2 G base A h A h)) (va_Qi Q (PU2 G base A h A) (fun q => base ≤ q)) 0 0 (fun q => base ≤ q) := by
  refine met2_of (own := RX12) (nm := "findsAll") (by decide) rfl rfl (List.forall_mem_cons.mpr ⟨rfl, (List.forall_mem_cons.mpr ⟨rfl, (List.forall_mem_cons.mpr ⟨rfl, (fun _ h => absurd h List.not_mem_nil)⟩)⟩)⟩) (Nat.le_of_ble_eq_true rfl) rfl ?_
  intro p e s m args below meth c H locs ls hM hC hl
  obtain ⟨hx, hb, hr, hml, hown, hts, hg, hs, hlk, hnm⟩ := id hM
  unfold wp_X12_findsAll at hw
  refine lv_iconst (v := 0) hx hb dX12_findsAll_0 (by decide) ?_
  refine lo_istore_n (lv' := [(3, .int ((0 : Int32))), (0, .ref (A o)), (1, .int x1), (2, .int x2)]) hx hb dX12_findsAll_1 rfl hl (by decide) rfl (fun ls hl => ?_)
  refine t_X12_findsAll_L2 hM o x1 x2 _ _ Q ?_ ?_ fuel (0 : Int32) h H locs ls hC (lo_sub hl [1, 2, 3, 0] rfl) hw
  ·
    intro  h9 H locs ls hC hl hw
    refine lv_iconst (v := 0) hx hb dX12_findsAll_30 (by decide) ?_
    exact ret2_t hM hC rfl hw dX12_findsAll_31
  ·
    intro  h10 H locs ls hC hl hw
    refine lv_iconst (v := 1) hx hb dX12_findsAll_38 (by decide) ?_
    exact ret2_t hM hC rfl hw dX12_findsAll_39
