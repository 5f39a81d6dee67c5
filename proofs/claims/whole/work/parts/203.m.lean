abbrev rm_X12_isIn : Room := { frames := 0, cells := 0, slots := 0, locals := 0 }
set_option maxRecDepth 100000 in
def wp_X12_isIn (o : Nat) (x1 : Int32) (x2 : Int32) (x3 : Int32) (h : Hp) (Q : Int32 → Hp → Prop) : Prop := (if x1 < x2 then (Q (0 : Int32) h) else ((if x3 < x1 then (Q (0 : Int32) h) else (Q (1 : Int32) h))))
set_option maxHeartbeats 4000000 in
set_option maxRecDepth 100000 in
theorem c_X12_isIn (l : Launch) (G : GG) (base : Nat) (A : Nat → Nat) (o : Nat) (x1 : Int32) (x2 : Int32) (x3 : Int32) (h : Hp) (Q : Int32 → Hp → Prop) (hw : wp_X12_isIn o x1 x2 x3 h Q) : Met l yX12_isIn (ww yX12_isIn cX12_isIn 4 (some .boolean)) rm_X12_isIn (va_Pc [.ref (A o), .int x1, .int x2, .int x3] (PU2 G base A h A h)) (va_Qi Q (PU2 G base A h A) (fun q => base ≤ q)) 0 0 (fun q => base ≤ q) := by
  refine met2_of (own := RX12) (nm := "isIn") (by decide) rfl rfl (List.forall_mem_cons.mpr ⟨rfl, (List.forall_mem_cons.mpr ⟨rfl, (List.forall_mem_cons.mpr ⟨rfl, (List.forall_mem_cons.mpr ⟨rfl, (fun _ h => absurd h List.not_mem_nil)⟩)⟩)⟩)⟩) (Nat.le_of_ble_eq_true rfl) rfl ?_
  intro p e s m args below meth c H locs ls hM hC hl
  obtain ⟨hx, hb, hr, hml, hown, hts, hg, hs, hlk, hnm⟩ := id hM
  unfold wp_X12_isIn at hw
  refine lv_iload_n hx hb dX12_isIn_0 rfl (lo_at hl 1 rfl) ?_
  refine lv_iload_n hx hb dX12_isIn_1 rfl (lo_at hl 2 rfl) ?_
  refine lv_icmp_lt (tgt := 14) hx hb dX12_isIn_2 (by decide) (fun c1 => ?_) (fun c1 => ?_)
  ·
    replace hw := (if_pos c1).mp hw
    refine lv_iconst (v := 0) hx hb dX12_isIn_14 (by decide) ?_
    exact ret2_t hM hC rfl hw dX12_isIn_15
  ·
    replace hw := (if_neg c1).mp hw
    refine lv_iload_n hx hb dX12_isIn_5 rfl (lo_at hl 1 rfl) ?_
    refine lv_iload_n hx hb dX12_isIn_6 rfl (lo_at hl 3 rfl) ?_
    refine lv_icmp_gt (tgt := 14) hx hb dX12_isIn_7 (by decide) (fun c2 => ?_) (fun c2 => ?_)
    ·
      replace hw := (if_pos c2).mp hw
      refine lv_iconst (v := 0) hx hb dX12_isIn_14 (by decide) ?_
      exact ret2_t hM hC rfl hw dX12_isIn_15
    ·
      replace hw := (if_neg c2).mp hw
      refine lv_iconst (v := 1) hx hb dX12_isIn_10 (by decide) ?_
      refine lv_goto (tgt := 15) hx hb dX12_isIn_11 (by decide) ?_
      exact ret2_t hM hC rfl hw dX12_isIn_15
abbrev rm_X12_isTool : Room := { frames := 0, cells := 0, slots := 0, locals := 0 }
set_option maxRecDepth 100000 in
def wp_X12_isTool (o : Nat) (x1 : Int32) (h : Hp) (Q : Int32 → Hp → Prop) : Prop := (if x1 < 0 then (Q (0 : Int32) h) else (((hpK h o).1 = 20 + 10) ∧ ((if (hpI h o 1) ≤ x1 then (Q (0 : Int32) h) else (Q (1 : Int32) h)))))
set_option maxHeartbeats 4000000 in
set_option maxRecDepth 100000 in
theorem c_X12_isTool (l : Launch) (G : GG) (base : Nat) (A : Nat → Nat) (o : Nat) (x1 : Int32) (h : Hp) (Q : Int32 → Hp → Prop) (hw : wp_X12_isTool o x1 h Q) : Met l yX12_isTool (ww yX12_isTool cX12_isTool 2 (some .boolean)) rm_X12_isTool (va_Pc [.ref (A o), .int x1] (PU2 G base A h A h)) (va_Qi Q (PU2 G base A h A) (fun q => base ≤ q)) 0 0 (fun q => base ≤ q) := by
  refine met2_of (own := RX12) (nm := "isTool") (by decide) rfl rfl (List.forall_mem_cons.mpr ⟨rfl, (List.forall_mem_cons.mpr ⟨rfl, (fun _ h => absurd h List.not_mem_nil)⟩)⟩) (Nat.le_of_ble_eq_true rfl) rfl ?_
  intro p e s m args below meth c H locs ls hM hC hl
  obtain ⟨hx, hb, hr, hml, hown, hts, hg, hs, hlk, hnm⟩ := id hM
  unfold wp_X12_isTool at hw
  refine lv_iload_n hx hb dX12_isTool_0 rfl (lo_at hl 1 rfl) ?_
  refine lv_if_lt (tgt := 16) hx hb dX12_isTool_1 (by decide) (fun c1 => ?_) (fun c1 => ?_)
  ·
    replace hw := (if_pos c1).mp hw
    refine lv_iconst (v := 0) hx hb dX12_isTool_16 (by decide) ?_
    exact ret2_t hM hC rfl hw dX12_isTool_17
  ·
    replace hw := (if_neg c1).mp hw
    refine lv_iload_n hx hb dX12_isTool_4 rfl (lo_at hl 1 rfl) ?_
    refine lv_aload_n hx hb dX12_isTool_5 rfl (lo_at hl 0 rfl) ?_
    obtain ⟨k2, hw⟩ := hw
    refine s_getI hx hb hts hown hg hC fb_10_1 k2 mk_f_RX12_135 dX12_isTool_6 ?_
    refine lv_icmp_ge (tgt := 16) hx hb dX12_isTool_9 (by decide) (fun c3 => ?_) (fun c3 => ?_)
    ·
      replace hw := (if_pos c3).mp hw
      refine lv_iconst (v := 0) hx hb dX12_isTool_16 (by decide) ?_
      exact ret2_t hM hC rfl hw dX12_isTool_17
    ·
      replace hw := (if_neg c3).mp hw
      refine lv_iconst (v := 1) hx hb dX12_isTool_12 (by decide) ?_
      refine lv_goto (tgt := 17) hx hb dX12_isTool_13 (by decide) ?_
      exact ret2_t hM hC rfl hw dX12_isTool_17
abbrev rm_X12_isBarrel : Room := { frames := 0, cells := 0, slots := 0, locals := 0 }
set_option maxRecDepth 100000 in
def wp_X12_isBarrel (o : Nat) (x1 : Int32) (h : Hp) (Q : Int32 → Hp → Prop) : Prop := (if x1 < 0 then (Q (0 : Int32) h) else (((hpK h o).1 = 20 + 10) ∧ ((if (hpI h o 5) ≤ x1 then (Q (0 : Int32) h) else (Q (1 : Int32) h)))))
set_option maxHeartbeats 4000000 in
set_option maxRecDepth 100000 in
theorem c_X12_isBarrel (l : Launch) (G : GG) (base : Nat) (A : Nat → Nat) (o : Nat) (x1 : Int32) (h : Hp) (Q : Int32 → Hp → Prop) (hw : wp_X12_isBarrel o x1 h Q) : Met l yX12_isBarrel (ww yX12_isBarrel cX12_isBarrel 2 (some .boolean)) rm_X12_isBarrel (va_Pc [.ref (A o), .int x1] (PU2 G base A h A h)) (va_Qi Q (PU2 G base A h A) (fun q => base ≤ q)) 0 0 (fun q => base ≤ q) := by
  refine met2_of (own := RX12) (nm := "isBarrel") (by decide) rfl rfl (List.forall_mem_cons.mpr ⟨rfl, (List.forall_mem_cons.mpr ⟨rfl, (fun _ h => absurd h List.not_mem_nil)⟩)⟩) (Nat.le_of_ble_eq_true rfl) rfl ?_
  intro p e s m args below meth c H locs ls hM hC hl
  obtain ⟨hx, hb, hr, hml, hown, hts, hg, hs, hlk, hnm⟩ := id hM
  unfold wp_X12_isBarrel at hw
  refine lv_iload_n hx hb dX12_isBarrel_0 rfl (lo_at hl 1 rfl) ?_
  refine lv_if_lt (tgt := 16) hx hb dX12_isBarrel_1 (by decide) (fun c1 => ?_) (fun c1 => ?_)
  ·
    replace hw := (if_pos c1).mp hw
    refine lv_iconst (v := 0) hx hb dX12_isBarrel_16 (by decide) ?_
    exact ret2_t hM hC rfl hw dX12_isBarrel_17
  ·
    replace hw := (if_neg c1).mp hw
    refine lv_iload_n hx hb dX12_isBarrel_4 rfl (lo_at hl 1 rfl) ?_
    refine lv_aload_n hx hb dX12_isBarrel_5 rfl (lo_at hl 0 rfl) ?_
    obtain ⟨k2, hw⟩ := hw
    refine s_getI hx hb hts hown hg hC fb_10_5 k2 mk_f_RX12_138 dX12_isBarrel_6 ?_
    refine lv_icmp_ge (tgt := 16) hx hb dX12_isBarrel_9 (by decide) (fun c3 => ?_) (fun c3 => ?_)
    ·
      replace hw := (if_pos c3).mp hw
      refine lv_iconst (v := 0) hx hb dX12_isBarrel_16 (by decide) ?_
      exact ret2_t hM hC rfl hw dX12_isBarrel_17
    ·
      replace hw := (if_neg c3).mp hw
      refine lv_iconst (v := 1) hx hb dX12_isBarrel_12 (by decide) ?_
      refine lv_goto (tgt := 17) hx hb dX12_isBarrel_13 (by decide) ?_
      exact ret2_t hM hC rfl hw dX12_isBarrel_17
abbrev rm_X12_isBall : Room := { frames := 0, cells := 0, slots := 0, locals := 0 }
set_option maxRecDepth 100000 in
def wp_X12_isBall (o : Nat) (x1 : Int32) (h : Hp) (Q : Int32 → Hp → Prop) : Prop := (if x1 < 0 then (Q (0 : Int32) h) else (((hpK h o).1 = 20 + 10) ∧ ((if (hpI h o 12) ≤ x1 then (Q (0 : Int32) h) else (Q (1 : Int32) h)))))
set_option maxHeartbeats 4000000 in
set_option maxRecDepth 100000 in
theorem c_X12_isBall (l : Launch) (G : GG) (base : Nat) (A : Nat → Nat) (o : Nat) (x1 : Int32) (h : Hp) (Q : Int32 → Hp → Prop) (hw : wp_X12_isBall o x1 h Q) : Met l yX12_isBall (ww yX12_isBall cX12_isBall 2 (some .boolean)) rm_X12_isBall (va_Pc [.ref (A o), .int x1] (PU2 G base A h A h)) (va_Qi Q (PU2 G base A h A) (fun q => base ≤ q)) 0 0 (fun q => base ≤ q) := by
  refine met2_of (own := RX12) (nm := "isBall") (by decide) rfl rfl (List.forall_mem_cons.mpr ⟨rfl, (List.forall_mem_cons.mpr ⟨rfl, (fun _ h => absurd h List.not_mem_nil)⟩)⟩) (Nat.le_of_ble_eq_true rfl) rfl ?_
  intro p e s m args below meth c H locs ls hM hC hl
  obtain ⟨hx, hb, hr, hml, hown, hts, hg, hs, hlk, hnm⟩ := id hM
  unfold wp_X12_isBall at hw
  refine lv_iload_n hx hb dX12_isBall_0 rfl (lo_at hl 1 rfl) ?_
  refine lv_if_lt (tgt := 16) hx hb dX12_isBall_1 (by decide) (fun c1 => ?_) (fun c1 => ?_)
  ·
    replace hw := (if_pos c1).mp hw
    refine lv_iconst (v := 0) hx hb dX12_isBall_16 (by decide) ?_
    exact ret2_t hM hC rfl hw dX12_isBall_17
  ·
    replace hw := (if_neg c1).mp hw
    refine lv_iload_n hx hb dX12_isBall_4 rfl (lo_at hl 1 rfl) ?_
    refine lv_aload_n hx hb dX12_isBall_5 rfl (lo_at hl 0 rfl) ?_
    obtain ⟨k2, hw⟩ := hw
    refine s_getI hx hb hts hown hg hC fb_10_12 k2 mk_f_RX12_141 dX12_isBall_6 ?_
    refine lv_icmp_ge (tgt := 16) hx hb dX12_isBall_9 (by decide) (fun c3 => ?_) (fun c3 => ?_)
    ·
      replace hw := (if_pos c3).mp hw
      refine lv_iconst (v := 0) hx hb dX12_isBall_16 (by decide) ?_
      exact ret2_t hM hC rfl hw dX12_isBall_17
    ·
      replace hw := (if_neg c3).mp hw
      refine lv_iconst (v := 1) hx hb dX12_isBall_12 (by decide) ?_
      refine lv_goto (tgt := 17) hx hb dX12_isBall_13 (by decide) ?_
      exact ret2_t hM hC rfl hw dX12_isBall_17
abbrev rm_X12_isHair : Room := { frames := 1, cells := 0, slots := 0, locals := 23 }
set_option maxRecDepth 100000 in
def wp_X12_isHair (o : Nat) (x1 : Int32) (h : Hp) (Q : Int32 → Hp → Prop) : Prop := ((hpK h o).1 = 20 + 10) ∧ (wp_X12_isIn o x1 (0 : Int32) (31 : Int32) h (fun (z3 : Int32) (h2 : Hp) => okZ z3 ∧ Q z3 h2))
set_option maxHeartbeats 4000000 in
set_option maxRecDepth 100000 in
theorem c_X12_isHair (l : Launch) (G : GG) (base : Nat) (A : Nat → Nat) (o : Nat) (x1 : Int32) (h : Hp) (Q : Int32 → Hp → Prop) (hw : wp_X12_isHair o x1 h Q) : Met l yX12_isHair (ww yX12_isHair cX12_isHair 2 (some .boolean)) rm_X12_isHair (va_Pc [.ref (A o), .int x1] (PU2 G base A h A h)) (va_Qi Q (PU2 G base A h A) (fun q => base ≤ q)) 0 0 (fun q => base ≤ q) := by
  refine met2_of (own := RX12) (nm := "isHair") (by decide) rfl rfl (List.forall_mem_cons.mpr ⟨rfl, (List.forall_mem_cons.mpr ⟨rfl, (fun _ h => absurd h List.not_mem_nil)⟩)⟩) (Nat.le_of_ble_eq_true rfl) rfl ?_
  intro p e s m args below meth c H locs ls hM hC hl
  obtain ⟨hx, hb, hr, hml, hown, hts, hg, hs, hlk, hnm⟩ := id hM
  unfold wp_X12_isHair at hw
  refine lv_aload_n hx hb dX12_isHair_0 rfl (lo_at hl 0 rfl) ?_
  refine lv_iload_n hx hb dX12_isHair_1 rfl (lo_at hl 1 rfl) ?_
  refine lv_iconst (v := 0) hx hb dX12_isHair_2 (by decide) ?_
  refine lv_bipush (v := 31) hx hb dX12_isHair_3 (by decide) ?_
  obtain ⟨k1, hw⟩ := hw
  refine res2_i hC (run2_V (As := [.int x1, .int ((0 : Int32)), .int ((31 : Int32))]) (rest := []) hM hC hl.1.1 kv_RX12_144 (c_X12_isIn l G base A o x1 (0 : Int32) (31 : Int32) h _ hw) (hc_10) k1 rfl rfl rfl ⟨Nat.le_of_ble_eq_true rfl, Nat.le_of_ble_eq_true rfl⟩ (Nat.le_of_ble_eq_true rfl) ⟨Nat.le_of_ble_eq_true rfl, Nat.le_of_ble_eq_true rfl⟩ dX12_isHair_5) (fun z3 h2 H locs hw hC => ?_)
  exact ret2_t hM hC hw.1.1 hw.2 dX12_isHair_8
abbrev rm_X12_tool : Room := { frames := 0, cells := 0, slots := 0, locals := 0 }
set_option maxRecDepth 100000 in
def wp_X12_tool_L18 (o : Nat) (x1 : Int32) (K46 : Hp → Prop) (Q : Int32 → Hp → Prop) : Nat → Int32 → Hp → Prop
  | 0, _, _ => False
  | n + 1, x2, h => (if (32 : Int32) ≤ x2 then (K46 h) else (((hpK h o).1 = 20 + 10) ∧ (okA h (hpR h o 2) 1 (((32 : Int32) * (hpI h o 1)) + x2) ∧ (∀ h8 : Hp, h8 = stI h (ad (hpR h o 2)) (((32 : Int32) * (hpI h o 1)) + x2).toNatClampNeg (32 : Int32) → (∀ v9 : Int32, v9 = x2 + (1 : Int32) → (wp_X12_tool_L18 o x1 K46 Q n v9 h8))))))
set_option maxRecDepth 100000 in
def wp_X12_tool (o : Nat) (x1 : Int32) (h : Hp) (Q : Int32 → Hp → Prop) : Prop := ((hpK h o).1 = 20 + 10) ∧ (∀ h2 : Hp, h2 = stI h o 0 (0 : Int32) → (((hpK h2 o).1 = 20 + 10) ∧ ((if (hpI h2 o 1) = (6 : Int32) then (Q (-1 : Int32) h2) else (wp_X12_tool_L18 o x1 (fun (h10 : Hp) => ((hpK h10 o).1 = 20 + 10) ∧ (okA h10 (hpR h10 o 3) 1 (hpI h10 o 1) ∧ (∀ h13 : Hp, h13 = stI h10 (ad (hpR h10 o 3)) (hpI h10 o 1).toNatClampNeg x1 → (((hpK h13 o).1 = 20 + 10) ∧ (∀ h15 : Hp, h15 = stI h13 o 1 ((hpI h13 o 1) + (1 : Int32)) → (((hpK h15 o).1 = 20 + 10) ∧ (Q ((hpI h15 o 1) - (1 : Int32)) h15))))))) Q fuel (0 : Int32) h2)))))
set_option maxHeartbeats 4000000 in
set_option maxRecDepth 100000 in
theorem t_X12_tool_L18 {p : Program} {l : Launch} {e : Env} {s : State} {m : MethodId} {args : Array Value} {below : List Frame} {meth : Method} {c : Code} {G : GG} {base : Nat} {A : Nat → Nat} {g0 : Hp} (hM : Mx G base p s m args meth c cX12_tool 3 (some .int) RX12 "tool") (o : Nat) (x1 : Int32) (K46 : Hp → Prop) (Q : Int32 → Hp → Prop) (hK46 : ∀ (h : Hp) (H : Heap) (locs : List Loc) (ls : Array Slot), Cx2 G base A g0 A h s.heap H locs → lo_has ls 3 [(0, .ref (A o)), (1, .int x1)] → K46 h → W p l e rm_X12_tool s m args below meth c H locs 0 0 (MQ below (va_Qi Q (PU2 G base A g0 A) (fun q => base ≤ q)) args s 0 0 (fun q => base ≤ q)) (F0 m 46 ls [])) : ∀ (n : Nat) (x2 : Int32) (h : Hp) (H : Heap) (locs : List Loc) (ls : Array Slot), Cx2 G base A g0 A h s.heap H locs → lo_has ls 3 [(0, .ref (A o)), (1, .int x1), (2, .int x2)] → wp_X12_tool_L18 o x1 K46 Q n x2 h → W p l e rm_X12_tool s m args below meth c H locs 0 0 (MQ below (va_Qi Q (PU2 G base A g0 A) (fun q => base ≤ q)) args s 0 0 (fun q => base ≤ q)) (F0 m 18 ls []) := by
  intro n
  induction n with
  | zero =>
    intro x2 h H locs ls hC hl hw
    rw [wp_X12_tool_L18] at hw
    exact hw.elim
  | succ n ih =>
    intro x2 h H locs ls hC hl hw
    rw [wp_X12_tool_L18] at hw
    obtain ⟨hx, hb, hr, hml, hown, hts, hg, hs, hlk, hnm⟩ := id hM
    refine lv_iload_n hx hb dX12_tool_18 rfl (lo_at hl 2 rfl) ?_
    refine lv_bipush (v := 32) hx hb dX12_tool_19 (by decide) ?_
    refine lv_icmp_ge (tgt := 46) hx hb dX12_tool_21 (by decide) (fun c5 => ?_) (fun c5 => ?_)
    ·
      replace hw := (if_pos c5).mp hw
      exact hK46  h H locs ls hC (lo_sub hl [0, 1] rfl) hw
    ·
      replace hw := (if_neg c5).mp hw
      refine lv_aload_n hx hb dX12_tool_24 rfl (lo_at hl 0 rfl) ?_
      obtain ⟨k6, hw⟩ := hw
      refine s_getR hx hb hts hown hg hC fb_10_2 k6 mk_f_RX12_7 dX12_tool_25 ?_
      refine lv_bipush (v := 32) hx hb dX12_tool_28 (by decide) ?_
      refine lv_aload_n hx hb dX12_tool_30 rfl (lo_at hl 0 rfl) ?_
      refine s_getI hx hb hts hown hg hC fb_10_1 k6 mk_f_RX12_135 dX12_tool_31 ?_
      refine lv_imul hx hb dX12_tool_34 ?_
      refine lv_iload_n hx hb dX12_tool_35 rfl (lo_at hl 2 rfl) ?_
      refine lv_iadd hx hb dX12_tool_36 ?_
      refine lv_bipush (v := 32) hx hb dX12_tool_37 (by decide) ?_
      obtain ⟨k7, hw⟩ := hw
      refine sf_3 k7.1 ?_
      refine s_iast hx hb hg hC k7.2.1 k7.2.2 dX12_tool_39 (fun h8 H locs eh8 hC => ?_)
      replace hw := hw h8 eh8
      obtain ⟨v9, ev9⟩ : ∃ y : Int32, y = x2 + (1 : Int32) := ⟨_, rfl⟩
      replace hw := hw v9 ev9
      refine lo_iinc (v := v9) (lv' := [(2, .int v9), (0, .ref (A o)), (1, .int x1)]) hx hb dX12_tool_40 hl (k := 2) rfl (by rw [ev9]; rfl) (by decide) rfl (fun ls hl => ?_)
      refine lv_goto (tgt := 18) hx hb dX12_tool_43 (by decide) ?_
      exact ih v9 h8 H locs ls hC (lo_sub hl [1, 2, 0] rfl) hw
set_option maxHeartbeats 4000000 in
set_option maxRecDepth 100000 in
theorem c_X12_tool (l : Launch) (G : GG) (base : Nat) (A : Nat → Nat) (o : Nat) (x1 : Int32) (h : Hp) (Q : Int32 → Hp → Prop) (hw : wp_X12_tool o x1 h Q) : Met l yX12_tool (ww yX12_tool cX12_tool 3 (some .int)) rm_X12_tool (va_Pc [.ref (A o), .int x1] (PU2 G base A h A h)) (va_Qi Q (PU2 G base A h A) (fun q => base ≤ q)) 0 0 (fun q => base ≤ q) := by
  refine met2_of (own := RX12) (nm := "tool") (by decide) rfl rfl (List.forall_mem_cons.mpr ⟨rfl, (List.forall_mem_cons.mpr ⟨rfl, (fun _ h => absurd h List.not_mem_nil)⟩)⟩) (Nat.le_of_ble_eq_true rfl) rfl ?_
  intro p e s m args below meth c H locs ls hM hC hl
  obtain ⟨hx, hb, hr, hml, hown, hts, hg, hs, hlk, hnm⟩ := id hM
  unfold wp_X12_tool at hw
  refine lv_aload_n hx hb dX12_tool_0 rfl (lo_at hl 0 rfl) ?_
  refine lv_iconst (v := 0) hx hb dX12_tool_1 (by decide) ?_
  obtain ⟨k1, hw⟩ := hw
  refine s_putI hx hb hts hown hg hC fb_10_0 k1 rfl rfl mk_f_RX12_132 dX12_tool_2 (fun h2 H locs eh2 hC => ?_)
  replace hw := hw h2 eh2
  refine lv_aload_n hx hb dX12_tool_5 rfl (lo_at hl 0 rfl) ?_
  obtain ⟨k3, hw⟩ := hw
  refine s_getI hx hb hts hown hg hC fb_10_1 k3 mk_f_RX12_135 dX12_tool_6 ?_
  refine lv_bipush (v := 6) hx hb dX12_tool_9 (by decide) ?_
  refine lv_icmp_ne (tgt := 16) hx hb dX12_tool_11 (by decide) (fun c4 => ?_) (fun c4 => ?_)
  ·
    replace hw := (if_neg c4).mp hw
    refine lv_iconst (v := 0) hx hb dX12_tool_16 (by decide) ?_
    refine lo_istore_n (lv' := [(2, .int ((0 : Int32))), (0, .ref (A o)), (1, .int x1)]) hx hb dX12_tool_17 rfl hl (by decide) rfl (fun ls hl => ?_)
    refine t_X12_tool_L18 hM o x1 _ Q ?_ fuel (0 : Int32) h2 H locs ls hC (lo_sub hl [1, 2, 0] rfl) hw
    intro  h10 H locs ls hC hl hw
    refine lv_aload_n hx hb dX12_tool_46 rfl (lo_at hl 0 rfl) ?_
    obtain ⟨k11, hw⟩ := hw
    refine s_getR hx hb hts hown hg hC fb_10_3 k11 mk_f_RX12_13 dX12_tool_47 ?_
    refine lv_aload_n hx hb dX12_tool_50 rfl (lo_at hl 0 rfl) ?_
    refine s_getI hx hb hts hown hg hC fb_10_1 k11 mk_f_RX12_135 dX12_tool_51 ?_
    refine lv_iload_n hx hb dX12_tool_54 rfl (lo_at hl 1 rfl) ?_
    obtain ⟨k12, hw⟩ := hw
    refine sf_3 k12.1 ?_
    refine s_iast hx hb hg hC k12.2.1 k12.2.2 dX12_tool_55 (fun h13 H locs eh13 hC => ?_)
    replace hw := hw h13 eh13
    refine lv_aload_n hx hb dX12_tool_56 rfl (lo_at hl 0 rfl) ?_
    refine lv_aload_n hx hb dX12_tool_57 rfl (lo_at hl 0 rfl) ?_
    obtain ⟨k14, hw⟩ := hw
    refine s_getI hx hb hts hown hg hC fb_10_1 k14 mk_f_RX12_135 dX12_tool_58 ?_
    refine lv_iconst (v := 1) hx hb dX12_tool_61 (by decide) ?_
    refine lv_iadd hx hb dX12_tool_62 ?_
    refine s_putI hx hb hts hown hg hC fb_10_1 k14 rfl rfl mk_f_RX12_135 dX12_tool_63 (fun h15 H locs eh15 hC => ?_)
    replace hw := hw h15 eh15
    refine lv_aload_n hx hb dX12_tool_66 rfl (lo_at hl 0 rfl) ?_
    obtain ⟨k16, hw⟩ := hw
    refine s_getI hx hb hts hown hg hC fb_10_1 k16 mk_f_RX12_135 dX12_tool_67 ?_
    refine lv_iconst (v := 1) hx hb dX12_tool_70 (by decide) ?_
    refine lv_isub hx hb dX12_tool_71 ?_
    exact ret2_i hM hC hw dX12_tool_72
  ·
    replace hw := (if_pos c4).mp hw
    refine lv_iconst (v := -1) hx hb dX12_tool_14 (by decide) ?_
    exact ret2_i hM hC hw dX12_tool_15
abbrev rm_X12_edge : Room := { frames := 2, cells := 0, slots := 0, locals := 44 }
set_option maxRecDepth 100000 in
def wp_X12_edge (o : Nat) (x1 : Int32) (x2 : Int32) (x3 : Int32) (h : Hp) (Q : Int32 → Hp → Prop) : Prop := ((hpK h o).1 = 20 + 10) ∧ (∀ h2 : Hp, h2 = stI h o 0 (0 : Int32) → (((hpK h2 o).1 = 20 + 10) ∧ (wp_X12_isTool o x1 h2 (fun (z5 : Int32) (h4 : Hp) => (if z5 = 0 then (Q (0 : Int32) h4) else (((hpK h4 o).1 = 20 + 10) ∧ (wp_X12_isHair o x2 h4 (fun (z9 : Int32) (h8 : Hp) => (if z9 = 0 then (Q (0 : Int32) h8) else (((hpK h8 o).1 = 20 + 10) ∧ (wp_X12_isIn o x3 (0 : Int32) (63 : Int32) h8 (fun (z13 : Int32) (h12 : Hp) => (if z13 = 0 then (Q (0 : Int32) h12) else (((hpK h12 o).1 = 20 + 10) ∧ (okA h12 (hpR h12 o 2) 1 (((32 : Int32) * x1) + x2) ∧ (∀ h17 : Hp, h17 = stI h12 (ad (hpR h12 o 2)) (((32 : Int32) * x1) + x2).toNatClampNeg x3 → (Q (1 : Int32) h17)))))))))))))))))
set_option maxHeartbeats 4000000 in
set_option maxRecDepth 100000 in
theorem c_X12_edge (l : Launch) (G : GG) (base : Nat) (A : Nat → Nat) (o : Nat) (x1 : Int32) (x2 : Int32) (x3 : Int32) (h : Hp) (Q : Int32 → Hp → Prop) (hw : wp_X12_edge o x1 x2 x3 h Q) : Met l yX12_edge (ww yX12_edge cX12_edge 4 (some .boolean)) rm_X12_edge (va_Pc [.ref (A o), .int x1, .int x2, .int x3] (PU2 G base A h A h)) (va_Qi Q (PU2 G base A h A) (fun q => base ≤ q)) 0 0 (fun q => base ≤ q) := by
  refine met2_of (own := RX12) (nm := "edge") (by decide) rfl rfl (List.forall_mem_cons.mpr ⟨rfl, (List.forall_mem_cons.mpr ⟨rfl, (List.forall_mem_cons.mpr ⟨rfl, (List.forall_mem_cons.mpr ⟨rfl, (fun _ h => absurd h List.not_mem_nil)⟩)⟩)⟩)⟩) (Nat.le_of_ble_eq_true rfl) rfl ?_
  intro p e s m args below meth c H locs ls hM hC hl
  obtain ⟨hx, hb, hr, hml, hown, hts, hg, hs, hlk, hnm⟩ := id hM
  unfold wp_X12_edge at hw
  refine lv_aload_n hx hb dX12_edge_0 rfl (lo_at hl 0 rfl) ?_
  refine lv_iconst (v := 0) hx hb dX12_edge_1 (by decide) ?_
  obtain ⟨k1, hw⟩ := hw
  refine s_putI hx hb hts hown hg hC fb_10_0 k1 rfl rfl mk_f_RX12_132 dX12_edge_2 (fun h2 H locs eh2 hC => ?_)
  replace hw := hw h2 eh2
  refine lv_aload_n hx hb dX12_edge_5 rfl (lo_at hl 0 rfl) ?_
  refine lv_iload_n hx hb dX12_edge_6 rfl (lo_at hl 1 rfl) ?_
  obtain ⟨k3, hw⟩ := hw
  refine res2_i hC (run2_V (As := [.int x1]) (rest := []) hM hC hl.1.1 kv_RX12_148 (c_X12_isTool l G base A o x1 h2 _ hw) (hc_10) k3 rfl rfl rfl ⟨Nat.le_of_ble_eq_true rfl, Nat.le_of_ble_eq_true rfl⟩ (Nat.le_of_ble_eq_true rfl) ⟨Nat.le_of_ble_eq_true rfl, Nat.le_of_ble_eq_true rfl⟩ dX12_edge_7) (fun z5 h4 H locs hw hC => ?_)
  refine lv_if_eq (tgt := 32) hx hb dX12_edge_10 (by decide) (fun c6 => ?_) (fun c6 => ?_)
  ·
    replace hw := (if_pos c6).mp hw
    refine lv_iconst (v := 0) hx hb dX12_edge_32 (by decide) ?_
    exact ret2_t hM hC rfl hw dX12_edge_33
  ·
    replace hw := (if_neg c6).mp hw
    refine lv_aload_n hx hb dX12_edge_13 rfl (lo_at hl 0 rfl) ?_
    refine lv_iload_n hx hb dX12_edge_14 rfl (lo_at hl 2 rfl) ?_
    obtain ⟨k7, hw⟩ := hw
    refine res2_i hC (run2_V (As := [.int x2]) (rest := []) hM hC hl.1.1 kv_RX12_152 (c_X12_isHair l G base A o x2 h4 _ hw) (hc_10) k7 rfl rfl rfl ⟨Nat.le_of_ble_eq_true rfl, Nat.le_of_ble_eq_true rfl⟩ (Nat.le_of_ble_eq_true rfl) ⟨Nat.le_of_ble_eq_true rfl, Nat.le_of_ble_eq_true rfl⟩ dX12_edge_15) (fun z9 h8 H locs hw hC => ?_)
    refine lv_if_eq (tgt := 32) hx hb dX12_edge_18 (by decide) (fun c10 => ?_) (fun c10 => ?_)
    ·
      replace hw := (if_pos c10).mp hw
      refine lv_iconst (v := 0) hx hb dX12_edge_32 (by decide) ?_
      exact ret2_t hM hC rfl hw dX12_edge_33
    ·
      replace hw := (if_neg c10).mp hw
      refine lv_aload_n hx hb dX12_edge_21 rfl (lo_at hl 0 rfl) ?_
      refine lv_iload_n hx hb dX12_edge_22 rfl (lo_at hl 3 rfl) ?_
      refine lv_iconst (v := 0) hx hb dX12_edge_23 (by decide) ?_
      refine lv_bipush (v := 63) hx hb dX12_edge_24 (by decide) ?_
      obtain ⟨k11, hw⟩ := hw
      refine res2_i hC (run2_V (As := [.int x3, .int ((0 : Int32)), .int ((63 : Int32))]) (rest := []) hM hC hl.1.1 kv_RX12_144 (c_X12_isIn l G base A o x3 (0 : Int32) (63 : Int32) h8 _ hw) (hc_10) k11 rfl rfl rfl ⟨Nat.le_of_ble_eq_true rfl, Nat.le_of_ble_eq_true rfl⟩ (Nat.le_of_ble_eq_true rfl) ⟨Nat.le_of_ble_eq_true rfl, Nat.le_of_ble_eq_true rfl⟩ dX12_edge_26) (fun z13 h12 H locs hw hC => ?_)
      refine lv_if_ne (tgt := 34) hx hb dX12_edge_29 (by decide) (fun c14 => ?_) (fun c14 => ?_)
      ·
        replace hw := (if_neg c14).mp hw
        refine lv_aload_n hx hb dX12_edge_34 rfl (lo_at hl 0 rfl) ?_
        obtain ⟨k15, hw⟩ := hw
        refine s_getR hx hb hts hown hg hC fb_10_2 k15 mk_f_RX12_7 dX12_edge_35 ?_
        refine lv_bipush (v := 32) hx hb dX12_edge_38 (by decide) ?_
        refine lv_iload_n hx hb dX12_edge_40 rfl (lo_at hl 1 rfl) ?_
        refine lv_imul hx hb dX12_edge_41 ?_
        refine lv_iload_n hx hb dX12_edge_42 rfl (lo_at hl 2 rfl) ?_
        refine lv_iadd hx hb dX12_edge_43 ?_
        refine lv_iload_n hx hb dX12_edge_44 rfl (lo_at hl 3 rfl) ?_
        obtain ⟨k16, hw⟩ := hw
        refine sf_3 k16.1 ?_
        refine s_iast hx hb hg hC k16.2.1 k16.2.2 dX12_edge_45 (fun h17 H locs eh17 hC => ?_)
        replace hw := hw h17 eh17
        refine lv_iconst (v := 1) hx hb dX12_edge_46 (by decide) ?_
        exact ret2_t hM hC rfl hw dX12_edge_47
      ·
        replace hw := (if_pos c14).mp hw
        refine lv_iconst (v := 0) hx hb dX12_edge_32 (by decide) ?_
        exact ret2_t hM hC rfl hw dX12_edge_33
abbrev rm_X12_rust : Room := { frames := 1, cells := 0, slots := 0, locals := 23 }
set_option maxRecDepth 100000 in
def wp_X12_rust (o : Nat) (x1 : Int32) (x2 : Int32) (h : Hp) (Q : Int32 → Hp → Prop) : Prop := ((hpK h o).1 = 20 + 10) ∧ (∀ h2 : Hp, h2 = stI h o 0 (0 : Int32) → (((hpK h2 o).1 = 20 + 10) ∧ (wp_X12_isBarrel o x1 h2 (fun (z5 : Int32) (h4 : Hp) => (if z5 = 0 then (Q (0 : Int32) h4) else (((hpK h4 o).1 = 20 + 10) ∧ (wp_X12_isIn o x2 (0 : Int32) (99 : Int32) h4 (fun (z9 : Int32) (h8 : Hp) => (if z9 = 0 then (Q (0 : Int32) h8) else (((hpK h8 o).1 = 20 + 10) ∧ (okA h8 (hpR h8 o 11) 1 x1 ∧ (∀ h13 : Hp, h13 = stI h8 (ad (hpR h8 o 11)) (x1).toNatClampNeg x2 → (Q (1 : Int32) h13)))))))))))))
set_option maxHeartbeats 4000000 in
set_option maxRecDepth 100000 in
theorem c_X12_rust (l : Launch) (G : GG) (base : Nat) (A : Nat → Nat) (o : Nat) (x1 : Int32) (x2 : Int32) (h : Hp) (Q : Int32 → Hp → Prop) (hw : wp_X12_rust o x1 x2 h Q) : Met l yX12_rust (ww yX12_rust cX12_rust 3 (some .boolean)) rm_X12_rust (va_Pc [.ref (A o), .int x1, .int x2] (PU2 G base A h A h)) (va_Qi Q (PU2 G base A h A) (fun q => base ≤ q)) 0 0 (fun q => base ≤ q) := by
  refine met2_of (own := RX12) (nm := "rust") (by decide) rfl rfl (List.forall_mem_cons.mpr ⟨rfl, (List.forall_mem_cons.mpr ⟨rfl, (List.forall_mem_cons.mpr ⟨rfl, (fun _ h => absurd h List.not_mem_nil)⟩)⟩)⟩) (Nat.le_of_ble_eq_true rfl) rfl ?_
  intro p e s m args below meth c H locs ls hM hC hl
  obtain ⟨hx, hb, hr, hml, hown, hts, hg, hs, hlk, hnm⟩ := id hM
  unfold wp_X12_rust at hw
  refine lv_aload_n hx hb dX12_rust_0 rfl (lo_at hl 0 rfl) ?_
  refine lv_iconst (v := 0) hx hb dX12_rust_1 (by decide) ?_
  obtain ⟨k1, hw⟩ := hw
  refine s_putI hx hb hts hown hg hC fb_10_0 k1 rfl rfl mk_f_RX12_132 dX12_rust_2 (fun h2 H locs eh2 hC => ?_)
  replace hw := hw h2 eh2
  refine lv_aload_n hx hb dX12_rust_5 rfl (lo_at hl 0 rfl) ?_
  refine lv_iload_n hx hb dX12_rust_6 rfl (lo_at hl 1 rfl) ?_
  obtain ⟨k3, hw⟩ := hw
  refine res2_i hC (run2_V (As := [.int x1]) (rest := []) hM hC hl.1.1 kv_RX12_162 (c_X12_isBarrel l G base A o x1 h2 _ hw) (hc_10) k3 rfl rfl rfl ⟨Nat.le_of_ble_eq_true rfl, Nat.le_of_ble_eq_true rfl⟩ (Nat.le_of_ble_eq_true rfl) ⟨Nat.le_of_ble_eq_true rfl, Nat.le_of_ble_eq_true rfl⟩ dX12_rust_7) (fun z5 h4 H locs hw hC => ?_)
  refine lv_if_eq (tgt := 24) hx hb dX12_rust_10 (by decide) (fun c6 => ?_) (fun c6 => ?_)
  ·
    replace hw := (if_pos c6).mp hw
    refine lv_iconst (v := 0) hx hb dX12_rust_24 (by decide) ?_
    exact ret2_t hM hC rfl hw dX12_rust_25
  ·
    replace hw := (if_neg c6).mp hw
    refine lv_aload_n hx hb dX12_rust_13 rfl (lo_at hl 0 rfl) ?_
    refine lv_iload_n hx hb dX12_rust_14 rfl (lo_at hl 2 rfl) ?_
    refine lv_iconst (v := 0) hx hb dX12_rust_15 (by decide) ?_
    refine lv_bipush (v := 99) hx hb dX12_rust_16 (by decide) ?_
    obtain ⟨k7, hw⟩ := hw
    refine res2_i hC (run2_V (As := [.int x2, .int ((0 : Int32)), .int ((99 : Int32))]) (rest := []) hM hC hl.1.1 kv_RX12_144 (c_X12_isIn l G base A o x2 (0 : Int32) (99 : Int32) h4 _ hw) (hc_10) k7 rfl rfl rfl ⟨Nat.le_of_ble_eq_true rfl, Nat.le_of_ble_eq_true rfl⟩ (Nat.le_of_ble_eq_true rfl) ⟨Nat.le_of_ble_eq_true rfl, Nat.le_of_ble_eq_true rfl⟩ dX12_rust_18) (fun z9 h8 H locs hw hC => ?_)
    refine lv_if_ne (tgt := 26) hx hb dX12_rust_21 (by decide) (fun c10 => ?_) (fun c10 => ?_)
    ·
      replace hw := (if_neg c10).mp hw
      refine lv_aload_n hx hb dX12_rust_26 rfl (lo_at hl 0 rfl) ?_
      obtain ⟨k11, hw⟩ := hw
      refine s_getR hx hb hts hown hg hC fb_10_11 k11 mk_f_RX12_34 dX12_rust_27 ?_
      refine lv_iload_n hx hb dX12_rust_30 rfl (lo_at hl 1 rfl) ?_
      refine lv_iload_n hx hb dX12_rust_31 rfl (lo_at hl 2 rfl) ?_
      obtain ⟨k12, hw⟩ := hw
      refine sf_3 k12.1 ?_
      refine s_iast hx hb hg hC k12.2.1 k12.2.2 dX12_rust_32 (fun h13 H locs eh13 hC => ?_)
      replace hw := hw h13 eh13
      refine lv_iconst (v := 1) hx hb dX12_rust_33 (by decide) ?_
      exact ret2_t hM hC rfl hw dX12_rust_34
    ·
      replace hw := (if_pos c10).mp hw
      refine lv_iconst (v := 0) hx hb dX12_rust_24 (by decide) ?_
      exact ret2_t hM hC rfl hw dX12_rust_25
abbrev rm_X12_found : Room := { frames := 0, cells := 0, slots := 0, locals := 0 }
set_option maxRecDepth 100000 in
def wp_X12_found_L18 (o : Nat) (K45 : Hp → Prop) (Q : Int32 → Hp → Prop) : Nat → Int32 → Hp → Prop
  | 0, _, _ => False
  | n + 1, x1, h => (if (32 : Int32) ≤ x1 then (K45 h) else (((hpK h o).1 = 20 + 10) ∧ (okA h (hpR h o 13) 1 (((32 : Int32) * (hpI h o 12)) + x1) ∧ (∀ h8 : Hp, h8 = stI h (ad (hpR h o 13)) (((32 : Int32) * (hpI h o 12)) + x1).toNatClampNeg (0 : Int32) → (∀ v9 : Int32, v9 = x1 + (1 : Int32) → (wp_X12_found_L18 o K45 Q n v9 h8))))))
set_option maxRecDepth 100000 in
def wp_X12_found (o : Nat) (h : Hp) (Q : Int32 → Hp → Prop) : Prop := ((hpK h o).1 = 20 + 10) ∧ (∀ h2 : Hp, h2 = stI h o 0 (0 : Int32) → (((hpK h2 o).1 = 20 + 10) ∧ ((if (hpI h2 o 12) = (40 : Int32) then (Q (-1 : Int32) h2) else (wp_X12_found_L18 o (fun (h10 : Hp) => ((hpK h10 o).1 = 20 + 10) ∧ (okA h10 (hpR h10 o 14) 1 (hpI h10 o 12) ∧ (∀ h13 : Hp, h13 = stI h10 (ad (hpR h10 o 14)) (hpI h10 o 12).toNatClampNeg (-1 : Int32) → (((hpK h13 o).1 = 20 + 10) ∧ (okA h13 (hpR h13 o 15) 1 (hpI h13 o 12) ∧ (∀ h16 : Hp, h16 = stI h13 (ad (hpR h13 o 15)) (hpI h13 o 12).toNatClampNeg (-1 : Int32) → (((hpK h16 o).1 = 20 + 10) ∧ (okA h16 (hpR h16 o 16) 1 (hpI h16 o 12) ∧ (∀ h19 : Hp, h19 = stI h16 (ad (hpR h16 o 16)) (hpI h16 o 12).toNatClampNeg (-1 : Int32) → (((hpK h19 o).1 = 20 + 10) ∧ (∀ h21 : Hp, h21 = stI h19 o 12 ((hpI h19 o 12) + (1 : Int32)) → (((hpK h21 o).1 = 20 + 10) ∧ (∀ h23 : Hp, h23 = stI h21 o 17 ((hpI h21 o 17) + (1 : Int32)) → (((hpK h23 o).1 = 20 + 10) ∧ (Q ((hpI h23 o 12) - (1 : Int32)) h23))))))))))))))) Q fuel (0 : Int32) h2)))))
set_option maxHeartbeats 4000000 in
set_option maxRecDepth 100000 in
theorem t_X12_found_L18 {p : Program} {l : Launch} {e : Env} {s : State} {m : MethodId} {args : Array Value} {below : List Frame} {meth : Method} {c : Code} {G : GG} {base : Nat} {A : Nat → Nat} {g0 : Hp} (hM : Mx G base p s m args meth c cX12_found 2 (some .int) RX12 "found") (o : Nat) (K45 : Hp → Prop) (Q : Int32 → Hp → Prop) (hK45 : ∀ (h : Hp) (H : Heap) (locs : List Loc) (ls : Array Slot), Cx2 G base A g0 A h s.heap H locs → lo_has ls 2 [(0, .ref (A o))] → K45 h → W p l e rm_X12_found s m args below meth c H locs 0 0 (MQ below (va_Qi Q (PU2 G base A g0 A) (fun q => base ≤ q)) args s 0 0 (fun q => base ≤ q)) (F0 m 45 ls [])) : ∀ (n : Nat) (x1 : Int32) (h : Hp) (H : Heap) (locs : List Loc) (ls : Array Slot), Cx2 G base A g0 A h s.heap H locs → lo_has ls 2 [(0, .ref (A o)), (1, .int x1)] → wp_X12_found_L18 o K45 Q n x1 h → W p l e rm_X12_found s m args below meth c H locs 0 0 (MQ below (va_Qi Q (PU2 G base A g0 A) (fun q => base ≤ q)) args s 0 0 (fun q => base ≤ q)) (F0 m 18 ls []) := by
  intro n
  induction n with
  | zero =>
    intro x1 h H locs ls hC hl hw
    rw [wp_X12_found_L18] at hw
    exact hw.elim
  | succ n ih =>
    intro x1 h H locs ls hC hl hw
    rw [wp_X12_found_L18] at hw
    obtain ⟨hx, hb, hr, hml, hown, hts, hg, hs, hlk, hnm⟩ := id hM
    refine lv_iload_n hx hb dX12_found_18 rfl (lo_at hl 1 rfl) ?_
    refine lv_bipush (v := 32) hx hb dX12_found_19 (by decide) ?_
    refine lv_icmp_ge (tgt := 45) hx hb dX12_found_21 (by decide) (fun c5 => ?_) (fun c5 => ?_)
    ·
      replace hw := (if_pos c5).mp hw
      exact hK45  h H locs ls hC (lo_sub hl [0] rfl) hw
    ·
      replace hw := (if_neg c5).mp hw
      refine lv_aload_n hx hb dX12_found_24 rfl (lo_at hl 0 rfl) ?_
      obtain ⟨k6, hw⟩ := hw
      refine s_getR hx hb hts hown hg hC fb_10_13 k6 mk_f_RX12_37 dX12_found_25 ?_
      refine lv_bipush (v := 32) hx hb dX12_found_28 (by decide) ?_
      refine lv_aload_n hx hb dX12_found_30 rfl (lo_at hl 0 rfl) ?_
      refine s_getI hx hb hts hown hg hC fb_10_12 k6 mk_f_RX12_141 dX12_found_31 ?_
      refine lv_imul hx hb dX12_found_34 ?_
      refine lv_iload_n hx hb dX12_found_35 rfl (lo_at hl 1 rfl) ?_
      refine lv_iadd hx hb dX12_found_36 ?_
      refine lv_iconst (v := 0) hx hb dX12_found_37 (by decide) ?_
      obtain ⟨k7, hw⟩ := hw
      refine sf_3 k7.1 ?_
      refine s_iast hx hb hg hC k7.2.1 k7.2.2 dX12_found_38 (fun h8 H locs eh8 hC => ?_)
      replace hw := hw h8 eh8
      obtain ⟨v9, ev9⟩ : ∃ y : Int32, y = x1 + (1 : Int32) := ⟨_, rfl⟩
      replace hw := hw v9 ev9
      refine lo_iinc (v := v9) (lv' := [(1, .int v9), (0, .ref (A o))]) hx hb dX12_found_39 hl (k := 1) rfl (by rw [ev9]; rfl) (by decide) rfl (fun ls hl => ?_)
      refine lv_goto (tgt := 18) hx hb dX12_found_42 (by decide) ?_
      exact ih v9 h8 H locs ls hC (lo_sub hl [1, 0] rfl) hw
set_option maxHeartbeats 4000000 in
set_option maxRecDepth 100000 in
theorem c_X12_found (l : Launch) (G : GG) (base : Nat) (A : Nat → Nat) (o : Nat) (h : Hp) (Q : Int32 → Hp → Prop) (hw : wp_X12_found o h Q) : Met l yX12_found (ww yX12_found cX12_found 2 (some .int)) rm_X12_found (va_Pc [.ref (A o)] (PU2 G base A h A h)) (va_Qi Q (PU2 G base A h A) (fun q => base ≤ q)) 0 0 (fun q => base ≤ q) := by
  refine met2_of (own := RX12) (nm := "found") (by decide) rfl rfl (List.forall_mem_cons.mpr ⟨rfl, (fun _ h => absurd h List.not_mem_nil)⟩) (Nat.le_of_ble_eq_true rfl) rfl ?_
  intro p e s m args below meth c H locs ls hM hC hl
  obtain ⟨hx, hb, hr, hml, hown, hts, hg, hs, hlk, hnm⟩ := id hM
  unfold wp_X12_found at hw
  refine lv_aload_n hx hb dX12_found_0 rfl (lo_at hl 0 rfl) ?_
  refine lv_iconst (v := 0) hx hb dX12_found_1 (by decide) ?_
  obtain ⟨k1, hw⟩ := hw
  refine s_putI hx hb hts hown hg hC fb_10_0 k1 rfl rfl mk_f_RX12_132 dX12_found_2 (fun h2 H locs eh2 hC => ?_)
  replace hw := hw h2 eh2
  refine lv_aload_n hx hb dX12_found_5 rfl (lo_at hl 0 rfl) ?_
  obtain ⟨k3, hw⟩ := hw
  refine s_getI hx hb hts hown hg hC fb_10_12 k3 mk_f_RX12_141 dX12_found_6 ?_
  refine lv_bipush (v := 40) hx hb dX12_found_9 (by decide) ?_
  refine lv_icmp_ne (tgt := 16) hx hb dX12_found_11 (by decide) (fun c4 => ?_) (fun c4 => ?_)
  ·
    replace hw := (if_neg c4).mp hw
    refine lv_iconst (v := 0) hx hb dX12_found_16 (by decide) ?_
    refine lo_istore_n (lv' := [(1, .int ((0 : Int32))), (0, .ref (A o))]) hx hb dX12_found_17 rfl hl (by decide) rfl (fun ls hl => ?_)
    refine t_X12_found_L18 hM o _ Q ?_ fuel (0 : Int32) h2 H locs ls hC (lo_sub hl [1, 0] rfl) hw
    intro  h10 H locs ls hC hl hw
    refine lv_aload_n hx hb dX12_found_45 rfl (lo_at hl 0 rfl) ?_
    obtain ⟨k11, hw⟩ := hw
    refine s_getR hx hb hts hown hg hC fb_10_14 k11 mk_f_RX12_40 dX12_found_46 ?_
    refine lv_aload_n hx hb dX12_found_49 rfl (lo_at hl 0 rfl) ?_
    refine s_getI hx hb hts hown hg hC fb_10_12 k11 mk_f_RX12_141 dX12_found_50 ?_
    refine lv_iconst (v := -1) hx hb dX12_found_53 (by decide) ?_
    obtain ⟨k12, hw⟩ := hw
    refine sf_3 k12.1 ?_
    refine s_iast hx hb hg hC k12.2.1 k12.2.2 dX12_found_54 (fun h13 H locs eh13 hC => ?_)
    replace hw := hw h13 eh13
    refine lv_aload_n hx hb dX12_found_55 rfl (lo_at hl 0 rfl) ?_
    obtain ⟨k14, hw⟩ := hw
    refine s_getR hx hb hts hown hg hC fb_10_15 k14 mk_f_RX12_43 dX12_found_56 ?_
    refine lv_aload_n hx hb dX12_found_59 rfl (lo_at hl 0 rfl) ?_
    refine s_getI hx hb hts hown hg hC fb_10_12 k14 mk_f_RX12_141 dX12_found_60 ?_
    refine lv_iconst (v := -1) hx hb dX12_found_63 (by decide) ?_
    obtain ⟨k15, hw⟩ := hw
    refine sf_3 k15.1 ?_
    refine s_iast hx hb hg hC k15.2.1 k15.2.2 dX12_found_64 (fun h16 H locs eh16 hC => ?_)
    replace hw := hw h16 eh16
    refine lv_aload_n hx hb dX12_found_65 rfl (lo_at hl 0 rfl) ?_
    obtain ⟨k17, hw⟩ := hw
    refine s_getR hx hb hts hown hg hC fb_10_16 k17 mk_f_RX12_46 dX12_found_66 ?_
    refine lv_aload_n hx hb dX12_found_69 rfl (lo_at hl 0 rfl) ?_
    refine s_getI hx hb hts hown hg hC fb_10_12 k17 mk_f_RX12_141 dX12_found_70 ?_
    refine lv_iconst (v := -1) hx hb dX12_found_73 (by decide) ?_
    obtain ⟨k18, hw⟩ := hw
    refine sf_3 k18.1 ?_
    refine s_iast hx hb hg hC k18.2.1 k18.2.2 dX12_found_74 (fun h19 H locs eh19 hC => ?_)
    replace hw := hw h19 eh19
    refine lv_aload_n hx hb dX12_found_75 rfl (lo_at hl 0 rfl) ?_
    refine lv_aload_n hx hb dX12_found_76 rfl (lo_at hl 0 rfl) ?_
    obtain ⟨k20, hw⟩ := hw
    refine s_getI hx hb hts hown hg hC fb_10_12 k20 mk_f_RX12_141 dX12_found_77 ?_
    refine lv_iconst (v := 1) hx hb dX12_found_80 (by decide) ?_
    refine lv_iadd hx hb dX12_found_81 ?_
    refine s_putI hx hb hts hown hg hC fb_10_12 k20 rfl rfl mk_f_RX12_141 dX12_found_82 (fun h21 H locs eh21 hC => ?_)
    replace hw := hw h21 eh21
    refine lv_aload_n hx hb dX12_found_85 rfl (lo_at hl 0 rfl) ?_
    refine lv_aload_n hx hb dX12_found_86 rfl (lo_at hl 0 rfl) ?_
    obtain ⟨k22, hw⟩ := hw
    refine s_getI hx hb hts hown hg hC fb_10_17 k22 mk_f_RX12_165 dX12_found_87 ?_
    refine lv_iconst (v := 1) hx hb dX12_found_90 (by decide) ?_
    refine lv_iadd hx hb dX12_found_91 ?_
    refine s_putI hx hb hts hown hg hC fb_10_17 k22 rfl rfl mk_f_RX12_165 dX12_found_92 (fun h23 H locs eh23 hC => ?_)
    replace hw := hw h23 eh23
    refine lv_aload_n hx hb dX12_found_95 rfl (lo_at hl 0 rfl) ?_
    obtain ⟨k24, hw⟩ := hw
    refine s_getI hx hb hts hown hg hC fb_10_12 k24 mk_f_RX12_141 dX12_found_96 ?_
    refine lv_iconst (v := 1) hx hb dX12_found_99 (by decide) ?_
    refine lv_isub hx hb dX12_found_100 ?_
    exact ret2_i hM hC hw dX12_found_101
  ·
    replace hw := (if_pos c4).mp hw
    refine lv_iconst (v := -1) hx hb dX12_found_14 (by decide) ?_
    exact ret2_i hM hC hw dX12_found_15
abbrev rm_X12_hair : Room := { frames := 2, cells := 0, slots := 0, locals := 44 }
set_option maxRecDepth 100000 in
def wp_X12_hair (o : Nat) (x1 : Int32) (x2 : Int32) (x3 : Int32) (h : Hp) (Q : Int32 → Hp → Prop) : Prop := ((hpK h o).1 = 20 + 10) ∧ (∀ h2 : Hp, h2 = stI h o 0 (0 : Int32) → (((hpK h2 o).1 = 20 + 10) ∧ (wp_X12_isBall o x1 h2 (fun (z5 : Int32) (h4 : Hp) => (if z5 = 0 then (Q (0 : Int32) h4) else (((hpK h4 o).1 = 20 + 10) ∧ (wp_X12_isHair o x2 h4 (fun (z9 : Int32) (h8 : Hp) => (if z9 = 0 then (Q (0 : Int32) h8) else (((hpK h8 o).1 = 20 + 10) ∧ (wp_X12_isIn o x3 (-1 : Int32) (63 : Int32) h8 (fun (z13 : Int32) (h12 : Hp) => (if z13 = 0 then (Q (0 : Int32) h12) else (((hpK h12 o).1 = 20 + 10) ∧ (okA h12 (hpR h12 o 13) 1 (((32 : Int32) * x1) + x2) ∧ (∀ h17 : Hp, h17 = stI h12 (ad (hpR h12 o 13)) (((32 : Int32) * x1) + x2).toNatClampNeg x3 → (((hpK h17 o).1 = 20 + 10) ∧ (∀ h19 : Hp, h19 = stI h17 o 17 ((hpI h17 o 17) + (1 : Int32)) → (Q (1 : Int32) h19)))))))))))))))))))
set_option maxHeartbeats 4000000 in
set_option maxRecDepth 100000 in
theorem c_X12_hair (l : Launch) (G : GG) (base : Nat) (A : Nat → Nat) (o : Nat) (x1 : Int32) (x2 : Int32) (x3 : Int32) (h : Hp) (Q : Int32 → Hp → Prop) (hw : wp_X12_hair o x1 x2 x3 h Q) : Met l yX12_hair (ww yX12_hair cX12_hair 4 (some .boolean)) rm_X12_hair (va_Pc [.ref (A o), .int x1, .int x2, .int x3] (PU2 G base A h A h)) (va_Qi Q (PU2 G base A h A) (fun q => base ≤ q)) 0 0 (fun q => base ≤ q) := by
  refine met2_of (own := RX12) (nm := "hair") (by decide) rfl rfl (List.forall_mem_cons.mpr ⟨rfl, (List.forall_mem_cons.mpr ⟨rfl, (List.forall_mem_cons.mpr ⟨rfl, (List.forall_mem_cons.mpr ⟨rfl, (fun _ h => absurd h List.not_mem_nil)⟩)⟩)⟩)⟩) (Nat.le_of_ble_eq_true rfl) rfl ?_
  intro p e s m args below meth c H locs ls hM hC hl
  obtain ⟨hx, hb, hr, hml, hown, hts, hg, hs, hlk, hnm⟩ := id hM
  unfold wp_X12_hair at hw
  refine lv_aload_n hx hb dX12_hair_0 rfl (lo_at hl 0 rfl) ?_
  refine lv_iconst (v := 0) hx hb dX12_hair_1 (by decide) ?_
  obtain ⟨k1, hw⟩ := hw
  refine s_putI hx hb hts hown hg hC fb_10_0 k1 rfl rfl mk_f_RX12_132 dX12_hair_2 (fun h2 H locs eh2 hC => ?_)
  replace hw := hw h2 eh2
  refine lv_aload_n hx hb dX12_hair_5 rfl (lo_at hl 0 rfl) ?_
  refine lv_iload_n hx hb dX12_hair_6 rfl (lo_at hl 1 rfl) ?_
  obtain ⟨k3, hw⟩ := hw
  refine res2_i hC (run2_V (As := [.int x1]) (rest := []) hM hC hl.1.1 kv_RX12_168 (c_X12_isBall l G base A o x1 h2 _ hw) (hc_10) k3 rfl rfl rfl ⟨Nat.le_of_ble_eq_true rfl, Nat.le_of_ble_eq_true rfl⟩ (Nat.le_of_ble_eq_true rfl) ⟨Nat.le_of_ble_eq_true rfl, Nat.le_of_ble_eq_true rfl⟩ dX12_hair_7) (fun z5 h4 H locs hw hC => ?_)
  refine lv_if_eq (tgt := 32) hx hb dX12_hair_10 (by decide) (fun c6 => ?_) (fun c6 => ?_)
  ·
    replace hw := (if_pos c6).mp hw
    refine lv_iconst (v := 0) hx hb dX12_hair_32 (by decide) ?_
    exact ret2_t hM hC rfl hw dX12_hair_33
  ·
    replace hw := (if_neg c6).mp hw
    refine lv_aload_n hx hb dX12_hair_13 rfl (lo_at hl 0 rfl) ?_
    refine lv_iload_n hx hb dX12_hair_14 rfl (lo_at hl 2 rfl) ?_
    obtain ⟨k7, hw⟩ := hw
    refine res2_i hC (run2_V (As := [.int x2]) (rest := []) hM hC hl.1.1 kv_RX12_152 (c_X12_isHair l G base A o x2 h4 _ hw) (hc_10) k7 rfl rfl rfl ⟨Nat.le_of_ble_eq_true rfl, Nat.le_of_ble_eq_true rfl⟩ (Nat.le_of_ble_eq_true rfl) ⟨Nat.le_of_ble_eq_true rfl, Nat.le_of_ble_eq_true rfl⟩ dX12_hair_15) (fun z9 h8 H locs hw hC => ?_)
    refine lv_if_eq (tgt := 32) hx hb dX12_hair_18 (by decide) (fun c10 => ?_) (fun c10 => ?_)
    ·
      replace hw := (if_pos c10).mp hw
      refine lv_iconst (v := 0) hx hb dX12_hair_32 (by decide) ?_
      exact ret2_t hM hC rfl hw dX12_hair_33
    ·
      replace hw := (if_neg c10).mp hw
      refine lv_aload_n hx hb dX12_hair_21 rfl (lo_at hl 0 rfl) ?_
      refine lv_iload_n hx hb dX12_hair_22 rfl (lo_at hl 3 rfl) ?_
      refine lv_iconst (v := -1) hx hb dX12_hair_23 (by decide) ?_
      refine lv_bipush (v := 63) hx hb dX12_hair_24 (by decide) ?_
      obtain ⟨k11, hw⟩ := hw
      refine res2_i hC (run2_V (As := [.int x3, .int ((-1 : Int32)), .int ((63 : Int32))]) (rest := []) hM hC hl.1.1 kv_RX12_144 (c_X12_isIn l G base A o x3 (-1 : Int32) (63 : Int32) h8 _ hw) (hc_10) k11 rfl rfl rfl ⟨Nat.le_of_ble_eq_true rfl, Nat.le_of_ble_eq_true rfl⟩ (Nat.le_of_ble_eq_true rfl) ⟨Nat.le_of_ble_eq_true rfl, Nat.le_of_ble_eq_true rfl⟩ dX12_hair_26) (fun z13 h12 H locs hw hC => ?_)
      refine lv_if_ne (tgt := 34) hx hb dX12_hair_29 (by decide) (fun c14 => ?_) (fun c14 => ?_)
      ·
        replace hw := (if_neg c14).mp hw
        refine lv_aload_n hx hb dX12_hair_34 rfl (lo_at hl 0 rfl) ?_
        obtain ⟨k15, hw⟩ := hw
        refine s_getR hx hb hts hown hg hC fb_10_13 k15 mk_f_RX12_37 dX12_hair_35 ?_
        refine lv_bipush (v := 32) hx hb dX12_hair_38 (by decide) ?_
        refine lv_iload_n hx hb dX12_hair_40 rfl (lo_at hl 1 rfl) ?_
        refine lv_imul hx hb dX12_hair_41 ?_
        refine lv_iload_n hx hb dX12_hair_42 rfl (lo_at hl 2 rfl) ?_
        refine lv_iadd hx hb dX12_hair_43 ?_
        refine lv_iload_n hx hb dX12_hair_44 rfl (lo_at hl 3 rfl) ?_
        obtain ⟨k16, hw⟩ := hw
        refine sf_3 k16.1 ?_
        refine s_iast hx hb hg hC k16.2.1 k16.2.2 dX12_hair_45 (fun h17 H locs eh17 hC => ?_)
        replace hw := hw h17 eh17
        refine lv_aload_n hx hb dX12_hair_46 rfl (lo_at hl 0 rfl) ?_
        refine lv_aload_n hx hb dX12_hair_47 rfl (lo_at hl 0 rfl) ?_
        obtain ⟨k18, hw⟩ := hw
        refine s_getI hx hb hts hown hg hC fb_10_17 k18 mk_f_RX12_165 dX12_hair_48 ?_
        refine lv_iconst (v := 1) hx hb dX12_hair_51 (by decide) ?_
        refine lv_iadd hx hb dX12_hair_52 ?_
        refine s_putI hx hb hts hown hg hC fb_10_17 k18 rfl rfl mk_f_RX12_165 dX12_hair_53 (fun h19 H locs eh19 hC => ?_)
        replace hw := hw h19 eh19
        refine lv_iconst (v := 1) hx hb dX12_hair_56 (by decide) ?_
        exact ret2_t hM hC rfl hw dX12_hair_57
      ·
        replace hw := (if_pos c14).mp hw
        refine lv_iconst (v := 0) hx hb dX12_hair_32 (by decide) ?_
        exact ret2_t hM hC rfl hw dX12_hair_33
abbrev rm_X12_at : Room := { frames := 2, cells := 0, slots := 0, locals := 44 }
set_option maxRecDepth 100000 in
def wp_X12_at (o : Nat) (x1 : Int32) (x2 : Int32) (x3 : Int32) (h : Hp) (Q : Int32 → Hp → Prop) : Prop := ((hpK h o).1 = 20 + 10) ∧ (∀ h2 : Hp, h2 = stI h o 0 (0 : Int32) → (((hpK h2 o).1 = 20 + 10) ∧ (wp_X12_isHair o x3 h2 (fun (z5 : Int32) (h4 : Hp) => (if z5 = 0 then (Q (-2 : Int32) h4) else ((if x1 = 0 then (((hpK h4 o).1 = 20 + 10) ∧ (wp_X12_isTool o x2 h4 (fun (z26 : Int32) (h25 : Hp) => (if z26 = 0 then (Q (-2 : Int32) h25) else (((hpK h25 o).1 = 20 + 10) ∧ (okA h25 (hpR h25 o 2) 1 (((32 : Int32) * x2) + x3) ∧ (∀ v30 : Int32, v30 = hpI h25 (ad (hpR h25 o 2)) (((32 : Int32) * x2) + x3).toNatClampNeg → (Q v30 h25)))))))) else ((if x1 = (1 : Int32) then (((hpK h4 o).1 = 20 + 10) ∧ (wp_X12_isBarrel o x2 h4 (fun (z19 : Int32) (h18 : Hp) => (if z19 = 0 then (Q (-2 : Int32) h18) else (((hpK h18 o).1 = 20 + 10) ∧ (okA h18 (hpR h18 o 6) 1 (((32 : Int32) * x2) + x3) ∧ (∀ v23 : Int32, v23 = hpI h18 (ad (hpR h18 o 6)) (((32 : Int32) * x2) + x3).toNatClampNeg → (Q v23 h18)))))))) else ((if x1 = (2 : Int32) then (((hpK h4 o).1 = 20 + 10) ∧ (wp_X12_isBall o x2 h4 (fun (z12 : Int32) (h11 : Hp) => (if z12 = 0 then (Q (-2 : Int32) h11) else (((hpK h11 o).1 = 20 + 10) ∧ (okA h11 (hpR h11 o 13) 1 (((32 : Int32) * x2) + x3) ∧ (∀ v16 : Int32, v16 = hpI h11 (ad (hpR h11 o 13)) (((32 : Int32) * x2) + x3).toNatClampNeg → (Q v16 h11)))))))) else (Q (-2 : Int32) h4))))))))))))
set_option maxHeartbeats 4000000 in
set_option maxRecDepth 100000 in
theorem c_X12_at (l : Launch) (G : GG) (base : Nat) (A : Nat → Nat) (o : Nat) (x1 : Int32) (x2 : Int32) (x3 : Int32) (h : Hp) (Q : Int32 → Hp → Prop) (hw : wp_X12_at o x1 x2 x3 h Q) : Met l yX12_at (ww yX12_at cX12_at 4 (some .int)) rm_X12_at (va_Pc [.ref (A o), .int x1, .int x2, .int x3] (PU2 G base A h A h)) (va_Qi Q (PU2 G base A h A) (fun q => base ≤ q)) 0 0 (fun q => base ≤ q) := by
  refine met2_of (own := RX12) (nm := "at") (by decide) rfl rfl (List.forall_mem_cons.mpr ⟨rfl, (List.forall_mem_cons.mpr ⟨rfl, (List.forall_mem_cons.mpr ⟨rfl, (List.forall_mem_cons.mpr ⟨rfl, (fun _ h => absurd h List.not_mem_nil)⟩)⟩)⟩)⟩) (Nat.le_of_ble_eq_true rfl) rfl ?_
  intro p e s m args below meth c H locs ls hM hC hl
  obtain ⟨hx, hb, hr, hml, hown, hts, hg, hs, hlk, hnm⟩ := id hM
  unfold wp_X12_at at hw
  refine lv_aload_n hx hb dX12_at_0 rfl (lo_at hl 0 rfl) ?_
  refine lv_iconst (v := 0) hx hb dX12_at_1 (by decide) ?_
  obtain ⟨k1, hw⟩ := hw
  refine s_putI hx hb hts hown hg hC fb_10_0 k1 rfl rfl mk_f_RX12_132 dX12_at_2 (fun h2 H locs eh2 hC => ?_)
  replace hw := hw h2 eh2
  refine lv_aload_n hx hb dX12_at_5 rfl (lo_at hl 0 rfl) ?_
  refine lv_iload_n hx hb dX12_at_6 rfl (lo_at hl 3 rfl) ?_
  obtain ⟨k3, hw⟩ := hw
  refine res2_i hC (run2_V (As := [.int x3]) (rest := []) hM hC hl.1.1 kv_RX12_152 (c_X12_isHair l G base A o x3 h2 _ hw) (hc_10) k3 rfl rfl rfl ⟨Nat.le_of_ble_eq_true rfl, Nat.le_of_ble_eq_true rfl⟩ (Nat.le_of_ble_eq_true rfl) ⟨Nat.le_of_ble_eq_true rfl, Nat.le_of_ble_eq_true rfl⟩ dX12_at_7) (fun z5 h4 H locs hw hC => ?_)
  refine lv_if_ne (tgt := 16) hx hb dX12_at_10 (by decide) (fun c6 => ?_) (fun c6 => ?_)
  ·
    replace hw := (if_neg c6).mp hw
    refine lv_iload_n hx hb dX12_at_16 rfl (lo_at hl 1 rfl) ?_
    refine lv_if_ne (tgt := 45) hx hb dX12_at_17 (by decide) (fun c7 => ?_) (fun c7 => ?_)
    ·
      replace hw := (if_neg c7).mp hw
      refine lv_iload_n hx hb dX12_at_45 rfl (lo_at hl 1 rfl) ?_
      refine lv_iconst (v := 1) hx hb dX12_at_46 (by decide) ?_
      refine lv_icmp_ne (tgt := 75) hx hb dX12_at_47 (by decide) (fun c8 => ?_) (fun c8 => ?_)
      ·
        replace hw := (if_neg c8).mp hw
        refine lv_iload_n hx hb dX12_at_75 rfl (lo_at hl 1 rfl) ?_
        refine lv_iconst (v := 2) hx hb dX12_at_76 (by decide) ?_
        refine lv_icmp_ne (tgt := 102) hx hb dX12_at_77 (by decide) (fun c9 => ?_) (fun c9 => ?_)
        ·
          replace hw := (if_neg c9).mp hw
          refine lv_bipush (v := -2) hx hb dX12_at_102 (by decide) ?_
          exact ret2_i hM hC hw dX12_at_104
        ·
          replace hw := (if_pos c9).mp hw
          refine lv_aload_n hx hb dX12_at_80 rfl (lo_at hl 0 rfl) ?_
          refine lv_iload_n hx hb dX12_at_81 rfl (lo_at hl 2 rfl) ?_
          obtain ⟨k10, hw⟩ := hw
          refine res2_i hC (run2_V (As := [.int x2]) (rest := []) hM hC hl.1.1 kv_RX12_168 (c_X12_isBall l G base A o x2 h4 _ hw) (hc_10) k10 rfl rfl rfl ⟨Nat.le_of_ble_eq_true rfl, Nat.le_of_ble_eq_true rfl⟩ (Nat.le_of_ble_eq_true rfl) ⟨Nat.le_of_ble_eq_true rfl, Nat.le_of_ble_eq_true rfl⟩ dX12_at_82) (fun z12 h11 H locs hw hC => ?_)
          refine lv_if_eq (tgt := 102) hx hb dX12_at_85 (by decide) (fun c13 => ?_) (fun c13 => ?_)
          ·
            replace hw := (if_pos c13).mp hw
            refine lv_bipush (v := -2) hx hb dX12_at_102 (by decide) ?_
            exact ret2_i hM hC hw dX12_at_104
          ·
            replace hw := (if_neg c13).mp hw
            refine lv_aload_n hx hb dX12_at_88 rfl (lo_at hl 0 rfl) ?_
            obtain ⟨k14, hw⟩ := hw
            refine s_getR hx hb hts hown hg hC fb_10_13 k14 mk_f_RX12_37 dX12_at_89 ?_
            refine lv_bipush (v := 32) hx hb dX12_at_92 (by decide) ?_
            refine lv_iload_n hx hb dX12_at_94 rfl (lo_at hl 2 rfl) ?_
            refine lv_imul hx hb dX12_at_95 ?_
            refine lv_iload_n hx hb dX12_at_96 rfl (lo_at hl 3 rfl) ?_
            refine lv_iadd hx hb dX12_at_97 ?_
            obtain ⟨k15, hw⟩ := hw
            refine sf_2 k15.1 ?_
            refine s_iald hx hb hg hC k15.2.1 k15.2.2 dX12_at_98 ?_
            refine lv_topi (fun v16 ev16 => ?_)
            replace hw := hw v16 ev16
            refine lv_goto (tgt := 104) hx hb dX12_at_99 (by decide) ?_
            exact ret2_i hM hC hw dX12_at_104
      ·
        replace hw := (if_pos c8).mp hw
        refine lv_aload_n hx hb dX12_at_50 rfl (lo_at hl 0 rfl) ?_
        refine lv_iload_n hx hb dX12_at_51 rfl (lo_at hl 2 rfl) ?_
        obtain ⟨k17, hw⟩ := hw
        refine res2_i hC (run2_V (As := [.int x2]) (rest := []) hM hC hl.1.1 kv_RX12_162 (c_X12_isBarrel l G base A o x2 h4 _ hw) (hc_10) k17 rfl rfl rfl ⟨Nat.le_of_ble_eq_true rfl, Nat.le_of_ble_eq_true rfl⟩ (Nat.le_of_ble_eq_true rfl) ⟨Nat.le_of_ble_eq_true rfl, Nat.le_of_ble_eq_true rfl⟩ dX12_at_52) (fun z19 h18 H locs hw hC => ?_)
        refine lv_if_eq (tgt := 72) hx hb dX12_at_55 (by decide) (fun c20 => ?_) (fun c20 => ?_)
        ·
          replace hw := (if_pos c20).mp hw
          refine lv_bipush (v := -2) hx hb dX12_at_72 (by decide) ?_
          exact ret2_i hM hC hw dX12_at_74
        ·
          replace hw := (if_neg c20).mp hw
          refine lv_aload_n hx hb dX12_at_58 rfl (lo_at hl 0 rfl) ?_
          obtain ⟨k21, hw⟩ := hw
          refine s_getR hx hb hts hown hg hC fb_10_6 k21 mk_f_RX12_19 dX12_at_59 ?_
          refine lv_bipush (v := 32) hx hb dX12_at_62 (by decide) ?_
          refine lv_iload_n hx hb dX12_at_64 rfl (lo_at hl 2 rfl) ?_
          refine lv_imul hx hb dX12_at_65 ?_
          refine lv_iload_n hx hb dX12_at_66 rfl (lo_at hl 3 rfl) ?_
          refine lv_iadd hx hb dX12_at_67 ?_
          obtain ⟨k22, hw⟩ := hw
          refine sf_2 k22.1 ?_
          refine s_iald hx hb hg hC k22.2.1 k22.2.2 dX12_at_68 ?_
          refine lv_topi (fun v23 ev23 => ?_)
          replace hw := hw v23 ev23
          refine lv_goto (tgt := 74) hx hb dX12_at_69 (by decide) ?_
          exact ret2_i hM hC hw dX12_at_74
    ·
      replace hw := (if_pos c7).mp hw
      refine lv_aload_n hx hb dX12_at_20 rfl (lo_at hl 0 rfl) ?_
      refine lv_iload_n hx hb dX12_at_21 rfl (lo_at hl 2 rfl) ?_
      obtain ⟨k24, hw⟩ := hw
      refine res2_i hC (run2_V (As := [.int x2]) (rest := []) hM hC hl.1.1 kv_RX12_148 (c_X12_isTool l G base A o x2 h4 _ hw) (hc_10) k24 rfl rfl rfl ⟨Nat.le_of_ble_eq_true rfl, Nat.le_of_ble_eq_true rfl⟩ (Nat.le_of_ble_eq_true rfl) ⟨Nat.le_of_ble_eq_true rfl, Nat.le_of_ble_eq_true rfl⟩ dX12_at_22) (fun z26 h25 H locs hw hC => ?_)
      refine lv_if_eq (tgt := 42) hx hb dX12_at_25 (by decide) (fun c27 => ?_) (fun c27 => ?_)
      ·
        replace hw := (if_pos c27).mp hw
        refine lv_bipush (v := -2) hx hb dX12_at_42 (by decide) ?_
        exact ret2_i hM hC hw dX12_at_44
      ·
        replace hw := (if_neg c27).mp hw
        refine lv_aload_n hx hb dX12_at_28 rfl (lo_at hl 0 rfl) ?_
        obtain ⟨k28, hw⟩ := hw
        refine s_getR hx hb hts hown hg hC fb_10_2 k28 mk_f_RX12_7 dX12_at_29 ?_
        refine lv_bipush (v := 32) hx hb dX12_at_32 (by decide) ?_
        refine lv_iload_n hx hb dX12_at_34 rfl (lo_at hl 2 rfl) ?_
        refine lv_imul hx hb dX12_at_35 ?_
        refine lv_iload_n hx hb dX12_at_36 rfl (lo_at hl 3 rfl) ?_
        refine lv_iadd hx hb dX12_at_37 ?_
        obtain ⟨k29, hw⟩ := hw
        refine sf_2 k29.1 ?_
        refine s_iald hx hb hg hC k29.2.1 k29.2.2 dX12_at_38 ?_
        refine lv_topi (fun v30 ev30 => ?_)
        replace hw := hw v30 ev30
        refine lv_goto (tgt := 44) hx hb dX12_at_39 (by decide) ?_
        exact ret2_i hM hC hw dX12_at_44
  ·
    replace hw := (if_pos c6).mp hw
    refine lv_bipush (v := -2) hx hb dX12_at_13 (by decide) ?_
    exact ret2_i hM hC hw dX12_at_15
abbrev rm_X12_missingOf : Room := { frames := 0, cells := 0, slots := 0, locals := 0 }
set_option maxRecDepth 100000 in
def wp_X12_missingOf_L4 (o : Nat) (x1 : Int32) (K35 : Int32 → Hp → Prop) (Q : Int32 → Hp → Prop) : Nat → Int32 → Int32 → Hp → Prop
  | 0, _, _, _ => False
  | n + 1, x2, x3, h => (if (32 : Int32) ≤ x3 then (K35 x2 h) else (((hpK h o).1 = 20 + 10) ∧ (okA h (hpR h o 13) 1 (((32 : Int32) * x1) + x3) ∧ (∀ v4 : Int32, v4 = hpI h (ad (hpR h o 13)) (((32 : Int32) * x1) + x3).toNatClampNeg → ((if v4 = (-1 : Int32) then (∀ v7 : Int32, v7 = x2 + (1 : Int32) → (∀ v8 : Int32, v8 = x3 + (1 : Int32) → (wp_X12_missingOf_L4 o x1 K35 Q n v7 v8 h))) else (∀ v6 : Int32, v6 = x3 + (1 : Int32) → (wp_X12_missingOf_L4 o x1 K35 Q n x2 v6 h))))))))
set_option maxRecDepth 100000 in
def wp_X12_missingOf (o : Nat) (x1 : Int32) (h : Hp) (Q : Int32 → Hp → Prop) : Prop := wp_X12_missingOf_L4 o x1 (fun (y10 : Int32) (h9 : Hp) => Q y10 h9) Q fuel (0 : Int32) (0 : Int32) h
set_option maxHeartbeats 4000000 in
set_option maxRecDepth 100000 in
theorem t_X12_missingOf_L4 {p : Program} {l : Launch} {e : Env} {s : State} {m : MethodId} {args : Array Value} {below : List Frame} {meth : Method} {c : Code} {G : GG} {base : Nat} {A : Nat → Nat} {g0 : Hp} (hM : Mx G base p s m args meth c cX12_missingOf 4 (some .int) RX12 "missingOf") (o : Nat) (x1 : Int32) (K35 : Int32 → Hp → Prop) (Q : Int32 → Hp → Prop) (hK35 : ∀ (y2 : Int32) (h : Hp) (H : Heap) (locs : List Loc) (ls : Array Slot), Cx2 G base A g0 A h s.heap H locs → lo_has ls 4 [(2, .int y2)] → K35 y2 h → W p l e rm_X12_missingOf s m args below meth c H locs 0 0 (MQ below (va_Qi Q (PU2 G base A g0 A) (fun q => base ≤ q)) args s 0 0 (fun q => base ≤ q)) (F0 m 35 ls [])) : ∀ (n : Nat) (x2 : Int32) (x3 : Int32) (h : Hp) (H : Heap) (locs : List Loc) (ls : Array Slot), Cx2 G base A g0 A h s.heap H locs → lo_has ls 4 [(0, .ref (A o)), (1, .int x1), (2, .int x2), (3, .int x3)] → wp_X12_missingOf_L4 o x1 K35 Q n x2 x3 h → W p l e rm_X12_missingOf s m args below meth c H locs 0 0 (MQ below (va_Qi Q (PU2 G base A g0 A) (fun q => base ≤ q)) args s 0 0 (fun q => base ≤ q)) (F0 m 4 ls []) := by
  intro n
  induction n with
  | zero =>
    intro x2 x3 h H locs ls hC hl hw
    rw [wp_X12_missingOf_L4] at hw
    exact hw.elim
  | succ n ih =>
    intro x2 x3 h H locs ls hC hl hw
    rw [wp_X12_missingOf_L4] at hw
    obtain ⟨hx, hb, hr, hml, hown, hts, hg, hs, hlk, hnm⟩ := id hM
    refine lv_iload_n hx hb dX12_missingOf_4 rfl (lo_at hl 3 rfl) ?_
    refine lv_bipush (v := 32) hx hb dX12_missingOf_5 (by decide) ?_
    refine lv_icmp_ge (tgt := 35) hx hb dX12_missingOf_7 (by decide) (fun c1 => ?_) (fun c1 => ?_)
    ·
      replace hw := (if_pos c1).mp hw
      exact hK35 x2 h H locs ls hC (lo_sub hl [2] rfl) hw
    ·
      replace hw := (if_neg c1).mp hw
      refine lv_aload_n hx hb dX12_missingOf_10 rfl (lo_at hl 0 rfl) ?_
      obtain ⟨k2, hw⟩ := hw
      refine s_getR hx hb hts hown hg hC fb_10_13 k2 mk_f_RX12_37 dX12_missingOf_11 ?_
      refine lv_bipush (v := 32) hx hb dX12_missingOf_14 (by decide) ?_
      refine lv_iload_n hx hb dX12_missingOf_16 rfl (lo_at hl 1 rfl) ?_
      refine lv_imul hx hb dX12_missingOf_17 ?_
      refine lv_iload_n hx hb dX12_missingOf_18 rfl (lo_at hl 3 rfl) ?_
      refine lv_iadd hx hb dX12_missingOf_19 ?_
      obtain ⟨k3, hw⟩ := hw
      refine sf_2 k3.1 ?_
      refine s_iald hx hb hg hC k3.2.1 k3.2.2 dX12_missingOf_20 ?_
      refine lv_topi (fun v4 ev4 => ?_)
      replace hw := hw v4 ev4
      refine lv_iconst (v := -1) hx hb dX12_missingOf_21 (by decide) ?_
      refine lv_icmp_ne (tgt := 29) hx hb dX12_missingOf_22 (by decide) (fun c5 => ?_) (fun c5 => ?_)
      ·
        replace hw := (if_neg c5).mp hw
        obtain ⟨v6, ev6⟩ : ∃ y : Int32, y = x3 + (1 : Int32) := ⟨_, rfl⟩
        replace hw := hw v6 ev6
        refine lo_iinc (v := v6) (lv' := [(3, .int v6), (0, .ref (A o)), (1, .int x1), (2, .int x2)]) hx hb dX12_missingOf_29 hl (k := 3) rfl (by rw [ev6]; rfl) (by decide) rfl (fun ls hl => ?_)
        refine lv_goto (tgt := 4) hx hb dX12_missingOf_32 (by decide) ?_
        exact ih x2 v6 h H locs ls hC (lo_sub hl [1, 2, 3, 0] rfl) hw
      ·
        replace hw := (if_pos c5).mp hw
        refine lv_iload_n hx hb dX12_missingOf_25 rfl (lo_at hl 2 rfl) ?_
        refine lv_iconst (v := 1) hx hb dX12_missingOf_26 (by decide) ?_
        refine lv_iadd hx hb dX12_missingOf_27 ?_
        refine lv_topi (fun v7 ev7 => ?_)
        replace hw := hw v7 ev7
        refine lo_istore_n (lv' := [(2, .int v7), (0, .ref (A o)), (1, .int x1), (3, .int x3)]) hx hb dX12_missingOf_28 rfl hl (by decide) rfl (fun ls hl => ?_)
        obtain ⟨v8, ev8⟩ : ∃ y : Int32, y = x3 + (1 : Int32) := ⟨_, rfl⟩
        replace hw := hw v8 ev8
        refine lo_iinc (v := v8) (lv' := [(3, .int v8), (2, .int v7), (0, .ref (A o)), (1, .int x1)]) hx hb dX12_missingOf_29 hl (k := 3) rfl (by rw [ev8]; rfl) (by decide) rfl (fun ls hl => ?_)
        refine lv_goto (tgt := 4) hx hb dX12_missingOf_32 (by decide) ?_
        exact ih v7 v8 h H locs ls hC (lo_sub hl [2, 3, 1, 0] rfl) hw
set_option maxHeartbeats 4000000 in
set_option maxRecDepth 100000 in
theorem c_X12_missingOf (l : Launch) (G : GG) (base : Nat) (A : Nat → Nat) (o : Nat) (x1 : Int32) (h : Hp) (Q : Int32 → Hp → Prop) (hw : wp_X12_missingOf o x1 h Q) : Met l yX12_missingOf (ww yX12_missingOf cX12_missingOf 4 (some .int)) rm_X12_missingOf (va_Pc [.ref (A o), .int x1] (PU2 G base A h A h)) (va_Qi Q (PU2 G base A h A) (fun q => base ≤ q)) 0 0 (fun q => base ≤ q) := by
  refine met2_of (own := RX12) (nm := "missingOf") (by decide) rfl rfl (List.forall_mem_cons.mpr ⟨rfl, (List.forall_mem_cons.mpr ⟨rfl, (fun _ h => absurd h List.not_mem_nil)⟩)⟩) (Nat.le_of_ble_eq_true rfl) rfl ?_
  intro p e s m args below meth c H locs ls hM hC hl
  obtain ⟨hx, hb, hr, hml, hown, hts, hg, hs, hlk, hnm⟩ := id hM
  unfold wp_X12_missingOf at hw
  refine lv_iconst (v := 0) hx hb dX12_missingOf_0 (by decide) ?_
  refine lo_istore_n (lv' := [(2, .int ((0 : Int32))), (0, .ref (A o)), (1, .int x1)]) hx hb dX12_missingOf_1 rfl hl (by decide) rfl (fun ls hl => ?_)
  refine lv_iconst (v := 0) hx hb dX12_missingOf_2 (by decide) ?_
  refine lo_istore_n (lv' := [(3, .int ((0 : Int32))), (2, .int ((0 : Int32))), (0, .ref (A o)), (1, .int x1)]) hx hb dX12_missingOf_3 rfl hl (by decide) rfl (fun ls hl => ?_)
  refine t_X12_missingOf_L4 hM o x1 _ Q ?_ fuel (0 : Int32) (0 : Int32) h H locs ls hC (lo_sub hl [2, 3, 1, 0] rfl) hw
  intro y10 h9 H locs ls hC hl hw
  refine lv_iload_n hx hb dX12_missingOf_35 rfl (lo_at hl 0 rfl) ?_
  exact ret2_i hM hC hw dX12_missingOf_36
abbrev rm_X12_of : Room := { frames := 1, cells := 0, slots := 0, locals := 23 }
set_option maxRecDepth 100000 in
def wp_X12_of (o : Nat) (x1 : Int32) (x2 : Int32) (h : Hp) (Q : Int32 → Hp → Prop) : Prop := ((hpK h o).1 = 20 + 10) ∧ (∀ h2 : Hp, h2 = stI h o 0 (0 : Int32) → ((if (10 : Int32) ≤ x2 then (((hpK h2 o).1 = 20 + 10) ∧ (wp_X12_isBarrel o x1 h2 (fun (z6 : Int32) (h5 : Hp) => (if z6 = 0 then (Q (-2 : Int32) h5) else ((if x2 = (10 : Int32) then (((hpK h5 o).1 = 20 + 10) ∧ (okA h5 (hpR h5 o 8) 1 x1 ∧ (∀ v23 : Int32, v23 = hpI h5 (ad (hpR h5 o 8)) (x1).toNatClampNeg → (Q v23 h5)))) else ((if x2 = (11 : Int32) then (((hpK h5 o).1 = 20 + 10) ∧ (okA h5 (hpR h5 o 9) 1 x1 ∧ (∀ v20 : Int32, v20 = hpI h5 (ad (hpR h5 o 9)) (x1).toNatClampNeg → (Q v20 h5)))) else ((if x2 = (12 : Int32) then (((hpK h5 o).1 = 20 + 10) ∧ (okA h5 (hpR h5 o 10) 1 x1 ∧ (∀ v17 : Int32, v17 = hpI h5 (ad (hpR h5 o 10)) (x1).toNatClampNeg → (Q v17 h5)))) else ((if x2 = (13 : Int32) then (((hpK h5 o).1 = 20 + 10) ∧ (okA h5 (hpR h5 o 11) 1 x1 ∧ (∀ v14 : Int32, v14 = hpI h5 (ad (hpR h5 o 11)) (x1).toNatClampNeg → (Q v14 h5)))) else (Q (-2 : Int32) h5))))))))))))) else (((hpK h2 o).1 = 20 + 10) ∧ (wp_X12_isBall o x1 h2 (fun (z26 : Int32) (h25 : Hp) => (if z26 = 0 then (Q (-2 : Int32) h25) else ((if x2 = 0 then (((hpK h25 o).1 = 20 + 10) ∧ (okA h25 (hpR h25 o 14) 1 x1 ∧ (∀ v43 : Int32, v43 = hpI h25 (ad (hpR h25 o 14)) (x1).toNatClampNeg → (Q v43 h25)))) else ((if x2 = (1 : Int32) then (((hpK h25 o).1 = 20 + 10) ∧ (okA h25 (hpR h25 o 15) 1 x1 ∧ (∀ v40 : Int32, v40 = hpI h25 (ad (hpR h25 o 15)) (x1).toNatClampNeg → (Q v40 h25)))) else ((if x2 = (2 : Int32) then (((hpK h25 o).1 = 20 + 10) ∧ (okA h25 (hpR h25 o 16) 1 x1 ∧ (∀ v37 : Int32, v37 = hpI h25 (ad (hpR h25 o 16)) (x1).toNatClampNeg → (Q v37 h25)))) else ((if x2 = (3 : Int32) then (((hpK h25 o).1 = 20 + 10) ∧ (wp_X12_missingOf o x1 h25 (fun (z34 : Int32) (h33 : Hp) => Q z34 h33))) else (Q (-2 : Int32) h25))))))))))))))))
set_option maxHeartbeats 4000000 in
set_option maxRecDepth 100000 in
theorem c_X12_of (l : Launch) (G : GG) (base : Nat) (A : Nat → Nat) (o : Nat) (x1 : Int32) (x2 : Int32) (h : Hp) (Q : Int32 → Hp → Prop) (hw : wp_X12_of o x1 x2 h Q) : Met l yX12_of (ww yX12_of cX12_of 3 (some .int)) rm_X12_of (va_Pc [.ref (A o), .int x1, .int x2] (PU2 G base A h A h)) (va_Qi Q (PU2 G base A h A) (fun q => base ≤ q)) 0 0 (fun q => base ≤ q) := by
  refine met2_of (own := RX12) (nm := "of") (by decide) rfl rfl (List.forall_mem_cons.mpr ⟨rfl, (List.forall_mem_cons.mpr ⟨rfl, (List.forall_mem_cons.mpr ⟨rfl, (fun _ h => absurd h List.not_mem_nil)⟩)⟩)⟩) (Nat.le_of_ble_eq_true rfl) rfl ?_
  intro p e s m args below meth c H locs ls hM hC hl
  obtain ⟨hx, hb, hr, hml, hown, hts, hg, hs, hlk, hnm⟩ := id hM
  unfold wp_X12_of at hw
  refine lv_aload_n hx hb dX12_of_0 rfl (lo_at hl 0 rfl) ?_
  refine lv_iconst (v := 0) hx hb dX12_of_1 (by decide) ?_
  obtain ⟨k1, hw⟩ := hw
  refine s_putI hx hb hts hown hg hC fb_10_0 k1 rfl rfl mk_f_RX12_132 dX12_of_2 (fun h2 H locs eh2 hC => ?_)
  replace hw := hw h2 eh2
  refine lv_iload_n hx hb dX12_of_5 rfl (lo_at hl 2 rfl) ?_
  refine lv_bipush (v := 10) hx hb dX12_of_6 (by decide) ?_
  refine lv_icmp_ge (tgt := 73) hx hb dX12_of_8 (by decide) (fun c3 => ?_) (fun c3 => ?_)
  ·
    replace hw := (if_pos c3).mp hw
    refine lv_aload_n hx hb dX12_of_73 rfl (lo_at hl 0 rfl) ?_
    refine lv_iload_n hx hb dX12_of_74 rfl (lo_at hl 1 rfl) ?_
    obtain ⟨k4, hw⟩ := hw
    refine res2_i hC (run2_V (As := [.int x1]) (rest := []) hM hC hl.1.1 kv_RX12_162 (c_X12_isBarrel l G base A o x1 h2 _ hw) (hc_10) k4 rfl rfl rfl ⟨Nat.le_of_ble_eq_true rfl, Nat.le_of_ble_eq_true rfl⟩ (Nat.le_of_ble_eq_true rfl) ⟨Nat.le_of_ble_eq_true rfl, Nat.le_of_ble_eq_true rfl⟩ dX12_of_75) (fun z6 h5 H locs hw hC => ?_)
    refine lv_if_ne (tgt := 84) hx hb dX12_of_78 (by decide) (fun c7 => ?_) (fun c7 => ?_)
    ·
      replace hw := (if_neg c7).mp hw
      refine lv_iload_n hx hb dX12_of_84 rfl (lo_at hl 2 rfl) ?_
      refine lv_bipush (v := 10) hx hb dX12_of_85 (by decide) ?_
      refine lv_icmp_ne (tgt := 97) hx hb dX12_of_87 (by decide) (fun c8 => ?_) (fun c8 => ?_)
      ·
        replace hw := (if_neg c8).mp hw
        refine lv_iload_n hx hb dX12_of_97 rfl (lo_at hl 2 rfl) ?_
        refine lv_bipush (v := 11) hx hb dX12_of_98 (by decide) ?_
        refine lv_icmp_ne (tgt := 110) hx hb dX12_of_100 (by decide) (fun c9 => ?_) (fun c9 => ?_)
        ·
          replace hw := (if_neg c9).mp hw
          refine lv_iload_n hx hb dX12_of_110 rfl (lo_at hl 2 rfl) ?_
          refine lv_bipush (v := 12) hx hb dX12_of_111 (by decide) ?_
          refine lv_icmp_ne (tgt := 123) hx hb dX12_of_113 (by decide) (fun c10 => ?_) (fun c10 => ?_)
          ·
            replace hw := (if_neg c10).mp hw
            refine lv_iload_n hx hb dX12_of_123 rfl (lo_at hl 2 rfl) ?_
            refine lv_bipush (v := 13) hx hb dX12_of_124 (by decide) ?_
            refine lv_icmp_ne (tgt := 138) hx hb dX12_of_126 (by decide) (fun c11 => ?_) (fun c11 => ?_)
            ·
              replace hw := (if_neg c11).mp hw
              refine lv_bipush (v := -2) hx hb dX12_of_138 (by decide) ?_
              exact ret2_i hM hC hw dX12_of_140
            ·
              replace hw := (if_pos c11).mp hw
              refine lv_aload_n hx hb dX12_of_129 rfl (lo_at hl 0 rfl) ?_
              obtain ⟨k12, hw⟩ := hw
              refine s_getR hx hb hts hown hg hC fb_10_11 k12 mk_f_RX12_34 dX12_of_130 ?_
              refine lv_iload_n hx hb dX12_of_133 rfl (lo_at hl 1 rfl) ?_
              obtain ⟨k13, hw⟩ := hw
              refine sf_2 k13.1 ?_
              refine s_iald hx hb hg hC k13.2.1 k13.2.2 dX12_of_134 ?_
              refine lv_topi (fun v14 ev14 => ?_)
              replace hw := hw v14 ev14
              refine lv_goto (tgt := 140) hx hb dX12_of_135 (by decide) ?_
              exact ret2_i hM hC hw dX12_of_140
          ·
            replace hw := (if_pos c10).mp hw
            refine lv_aload_n hx hb dX12_of_116 rfl (lo_at hl 0 rfl) ?_
            obtain ⟨k15, hw⟩ := hw
            refine s_getR hx hb hts hown hg hC fb_10_10 k15 mk_f_RX12_31 dX12_of_117 ?_
            refine lv_iload_n hx hb dX12_of_120 rfl (lo_at hl 1 rfl) ?_
            obtain ⟨k16, hw⟩ := hw
            refine sf_2 k16.1 ?_
            refine s_iald hx hb hg hC k16.2.1 k16.2.2 dX12_of_121 ?_
            refine lv_topi (fun v17 ev17 => ?_)
            replace hw := hw v17 ev17
            exact ret2_i hM hC hw dX12_of_122
        ·
          replace hw := (if_pos c9).mp hw
          refine lv_aload_n hx hb dX12_of_103 rfl (lo_at hl 0 rfl) ?_
          obtain ⟨k18, hw⟩ := hw
          refine s_getR hx hb hts hown hg hC fb_10_9 k18 mk_f_RX12_28 dX12_of_104 ?_
          refine lv_iload_n hx hb dX12_of_107 rfl (lo_at hl 1 rfl) ?_
          obtain ⟨k19, hw⟩ := hw
          refine sf_2 k19.1 ?_
          refine s_iald hx hb hg hC k19.2.1 k19.2.2 dX12_of_108 ?_
          refine lv_topi (fun v20 ev20 => ?_)
          replace hw := hw v20 ev20
          exact ret2_i hM hC hw dX12_of_109
      ·
        replace hw := (if_pos c8).mp hw
        refine lv_aload_n hx hb dX12_of_90 rfl (lo_at hl 0 rfl) ?_
        obtain ⟨k21, hw⟩ := hw
        refine s_getR hx hb hts hown hg hC fb_10_8 k21 mk_f_RX12_25 dX12_of_91 ?_
        refine lv_iload_n hx hb dX12_of_94 rfl (lo_at hl 1 rfl) ?_
        obtain ⟨k22, hw⟩ := hw
        refine sf_2 k22.1 ?_
        refine s_iald hx hb hg hC k22.2.1 k22.2.2 dX12_of_95 ?_
        refine lv_topi (fun v23 ev23 => ?_)
        replace hw := hw v23 ev23
        exact ret2_i hM hC hw dX12_of_96
    ·
      replace hw := (if_pos c7).mp hw
      refine lv_bipush (v := -2) hx hb dX12_of_81 (by decide) ?_
      exact ret2_i hM hC hw dX12_of_83
  ·
    replace hw := (if_neg c3).mp hw
    refine lv_aload_n hx hb dX12_of_11 rfl (lo_at hl 0 rfl) ?_
    refine lv_iload_n hx hb dX12_of_12 rfl (lo_at hl 1 rfl) ?_
    obtain ⟨k24, hw⟩ := hw
    refine res2_i hC (run2_V (As := [.int x1]) (rest := []) hM hC hl.1.1 kv_RX12_168 (c_X12_isBall l G base A o x1 h2 _ hw) (hc_10) k24 rfl rfl rfl ⟨Nat.le_of_ble_eq_true rfl, Nat.le_of_ble_eq_true rfl⟩ (Nat.le_of_ble_eq_true rfl) ⟨Nat.le_of_ble_eq_true rfl, Nat.le_of_ble_eq_true rfl⟩ dX12_of_13) (fun z26 h25 H locs hw hC => ?_)
    refine lv_if_ne (tgt := 22) hx hb dX12_of_16 (by decide) (fun c27 => ?_) (fun c27 => ?_)
    ·
      replace hw := (if_neg c27).mp hw
      refine lv_iload_n hx hb dX12_of_22 rfl (lo_at hl 2 rfl) ?_
      refine lv_if_ne (tgt := 33) hx hb dX12_of_23 (by decide) (fun c28 => ?_) (fun c28 => ?_)
      ·
        replace hw := (if_neg c28).mp hw
        refine lv_iload_n hx hb dX12_of_33 rfl (lo_at hl 2 rfl) ?_
        refine lv_iconst (v := 1) hx hb dX12_of_34 (by decide) ?_
        refine lv_icmp_ne (tgt := 45) hx hb dX12_of_35 (by decide) (fun c29 => ?_) (fun c29 => ?_)
        ·
          replace hw := (if_neg c29).mp hw
          refine lv_iload_n hx hb dX12_of_45 rfl (lo_at hl 2 rfl) ?_
          refine lv_iconst (v := 2) hx hb dX12_of_46 (by decide) ?_
          refine lv_icmp_ne (tgt := 57) hx hb dX12_of_47 (by decide) (fun c30 => ?_) (fun c30 => ?_)
          ·
            replace hw := (if_neg c30).mp hw
            refine lv_iload_n hx hb dX12_of_57 rfl (lo_at hl 2 rfl) ?_
            refine lv_iconst (v := 3) hx hb dX12_of_58 (by decide) ?_
            refine lv_icmp_ne (tgt := 70) hx hb dX12_of_59 (by decide) (fun c31 => ?_) (fun c31 => ?_)
            ·
              replace hw := (if_neg c31).mp hw
              refine lv_bipush (v := -2) hx hb dX12_of_70 (by decide) ?_
              exact ret2_i hM hC hw dX12_of_72
            ·
              replace hw := (if_pos c31).mp hw
              refine lv_aload_n hx hb dX12_of_62 rfl (lo_at hl 0 rfl) ?_
              refine lv_iload_n hx hb dX12_of_63 rfl (lo_at hl 1 rfl) ?_
              obtain ⟨k32, hw⟩ := hw
              refine res2_i hC (run2_V (As := [.int x1]) (rest := []) hM hC hl.1.1 kv_RX12_171 (c_X12_missingOf l G base A o x1 h25 _ hw) (hc_10) k32 rfl rfl rfl ⟨Nat.le_of_ble_eq_true rfl, Nat.le_of_ble_eq_true rfl⟩ (Nat.le_of_ble_eq_true rfl) ⟨Nat.le_of_ble_eq_true rfl, Nat.le_of_ble_eq_true rfl⟩ dX12_of_64) (fun z34 h33 H locs hw hC => ?_)
              refine lv_goto (tgt := 72) hx hb dX12_of_67 (by decide) ?_
              exact ret2_i hM hC hw dX12_of_72
          ·
            replace hw := (if_pos c30).mp hw
            refine lv_aload_n hx hb dX12_of_50 rfl (lo_at hl 0 rfl) ?_
            obtain ⟨k35, hw⟩ := hw
            refine s_getR hx hb hts hown hg hC fb_10_16 k35 mk_f_RX12_46 dX12_of_51 ?_
            refine lv_iload_n hx hb dX12_of_54 rfl (lo_at hl 1 rfl) ?_
            obtain ⟨k36, hw⟩ := hw
            refine sf_2 k36.1 ?_
            refine s_iald hx hb hg hC k36.2.1 k36.2.2 dX12_of_55 ?_
            refine lv_topi (fun v37 ev37 => ?_)
            replace hw := hw v37 ev37
            exact ret2_i hM hC hw dX12_of_56
        ·
          replace hw := (if_pos c29).mp hw
          refine lv_aload_n hx hb dX12_of_38 rfl (lo_at hl 0 rfl) ?_
          obtain ⟨k38, hw⟩ := hw
          refine s_getR hx hb hts hown hg hC fb_10_15 k38 mk_f_RX12_43 dX12_of_39 ?_
          refine lv_iload_n hx hb dX12_of_42 rfl (lo_at hl 1 rfl) ?_
          obtain ⟨k39, hw⟩ := hw
          refine sf_2 k39.1 ?_
          refine s_iald hx hb hg hC k39.2.1 k39.2.2 dX12_of_43 ?_
          refine lv_topi (fun v40 ev40 => ?_)
          replace hw := hw v40 ev40
          exact ret2_i hM hC hw dX12_of_44
      ·
        replace hw := (if_pos c28).mp hw
        refine lv_aload_n hx hb dX12_of_26 rfl (lo_at hl 0 rfl) ?_
        obtain ⟨k41, hw⟩ := hw
        refine s_getR hx hb hts hown hg hC fb_10_14 k41 mk_f_RX12_40 dX12_of_27 ?_
        refine lv_iload_n hx hb dX12_of_30 rfl (lo_at hl 1 rfl) ?_
        obtain ⟨k42, hw⟩ := hw
        refine sf_2 k42.1 ?_
        refine s_iald hx hb hg hC k42.2.1 k42.2.2 dX12_of_31 ?_
        refine lv_topi (fun v43 ev43 => ?_)
        replace hw := hw v43 ev43
        exact ret2_i hM hC hw dX12_of_32
    ·
      replace hw := (if_pos c27).mp hw
      refine lv_bipush (v := -2) hx hb dX12_of_19 (by decide) ?_
      exact ret2_i hM hC hw dX12_of_21
abbrev rm_X12_puts : Room := { frames := 0, cells := 0, slots := 0, locals := 0 }
set_option maxRecDepth 100000 in
def wp_X12_puts_L3 (o : Nat) (x1 : Int32) (K39 : Hp → Prop) (Q : Hp → Prop) : Nat → Int32 → Hp → Prop
  | 0, _, _ => False
  | n + 1, x2, h => (if x2 < 0 then (K39 h) else (((hpK h o).1 = 20 + 10) ∧ (okA h (hpR h o 18) 1 (hpI h o 19) ∧ (∀ h4 : Hp, h4 = stI h (ad (hpR h o 18)) (hpI h o 19).toNatClampNeg ((x1 >>> (x2 &&& 31)) &&& (255 : Int32)) → (((hpK h4 o).1 = 20 + 10) ∧ (∀ h6 : Hp, h6 = stI h4 o 19 ((hpI h4 o 19) + (1 : Int32)) → (∀ v7 : Int32, v7 = x2 + (-8 : Int32) → (wp_X12_puts_L3 o x1 K39 Q n v7 h6))))))))
set_option maxRecDepth 100000 in
def wp_X12_puts (o : Nat) (x1 : Int32) (h : Hp) (Q : Hp → Prop) : Prop := wp_X12_puts_L3 o x1 (fun (h8 : Hp) => Q h8) Q fuel (24 : Int32) h
set_option maxHeartbeats 4000000 in
set_option maxRecDepth 100000 in
theorem t_X12_puts_L3 {p : Program} {l : Launch} {e : Env} {s : State} {m : MethodId} {args : Array Value} {below : List Frame} {meth : Method} {c : Code} {G : GG} {base : Nat} {A : Nat → Nat} {g0 : Hp} (hM : Mx G base p s m args meth c cX12_puts 3 none RX12 "puts") (o : Nat) (x1 : Int32) (K39 : Hp → Prop) (Q : Hp → Prop) (hK39 : ∀ (h : Hp) (H : Heap) (locs : List Loc) (ls : Array Slot), Cx2 G base A g0 A h s.heap H locs → lo_has ls 3 [] → K39 h → W p l e rm_X12_puts s m args below meth c H locs 0 0 (MQ below (va_Qv Q (PU2 G base A g0 A) (fun q => base ≤ q)) args s 0 0 (fun q => base ≤ q)) (F0 m 39 ls [])) : ∀ (n : Nat) (x2 : Int32) (h : Hp) (H : Heap) (locs : List Loc) (ls : Array Slot), Cx2 G base A g0 A h s.heap H locs → lo_has ls 3 [(0, .ref (A o)), (1, .int x1), (2, .int x2)] → wp_X12_puts_L3 o x1 K39 Q n x2 h → W p l e rm_X12_puts s m args below meth c H locs 0 0 (MQ below (va_Qv Q (PU2 G base A g0 A) (fun q => base ≤ q)) args s 0 0 (fun q => base ≤ q)) (F0 m 3 ls []) := by
  intro n
  induction n with
  | zero =>
    intro x2 h H locs ls hC hl hw
    rw [wp_X12_puts_L3] at hw
    exact hw.elim
  | succ n ih =>
    intro x2 h H locs ls hC hl hw
    rw [wp_X12_puts_L3] at hw
    obtain ⟨hx, hb, hr, hml, hown, hts, hg, hs, hlk, hnm⟩ := id hM
    refine lv_iload_n hx hb dX12_puts_3 rfl (lo_at hl 2 rfl) ?_
    refine lv_if_lt (tgt := 39) hx hb dX12_puts_4 (by decide) (fun c1 => ?_) (fun c1 => ?_)
    ·
      replace hw := (if_pos c1).mp hw
      exact hK39  h H locs ls hC (lo_sub hl [] rfl) hw
    ·
      replace hw := (if_neg c1).mp hw
      refine lv_aload_n hx hb dX12_puts_7 rfl (lo_at hl 0 rfl) ?_
      obtain ⟨k2, hw⟩ := hw
      refine s_getR hx hb hts hown hg hC fb_10_18 k2 mk_f_RX12_49 dX12_puts_8 ?_
      refine lv_aload_n hx hb dX12_puts_11 rfl (lo_at hl 0 rfl) ?_
      refine s_getI hx hb hts hown hg hC fb_10_19 k2 mk_f_RX12_175 dX12_puts_12 ?_
      refine lv_iload_n hx hb dX12_puts_15 rfl (lo_at hl 1 rfl) ?_
      refine lv_iload_n hx hb dX12_puts_16 rfl (lo_at hl 2 rfl) ?_
      refine lv_ishr hx hb dX12_puts_17 ?_
      refine lv_sipush (v := 255) hx hb dX12_puts_18 (by decide) ?_
      refine lv_iand hx hb dX12_puts_21 ?_
      obtain ⟨k3, hw⟩ := hw
      refine sf_3 k3.1 ?_
      refine s_iast hx hb hg hC k3.2.1 k3.2.2 dX12_puts_22 (fun h4 H locs eh4 hC => ?_)
      replace hw := hw h4 eh4
      refine lv_aload_n hx hb dX12_puts_23 rfl (lo_at hl 0 rfl) ?_
      refine lv_aload_n hx hb dX12_puts_24 rfl (lo_at hl 0 rfl) ?_
      obtain ⟨k5, hw⟩ := hw
      refine s_getI hx hb hts hown hg hC fb_10_19 k5 mk_f_RX12_175 dX12_puts_25 ?_
      refine lv_iconst (v := 1) hx hb dX12_puts_28 (by decide) ?_
      refine lv_iadd hx hb dX12_puts_29 ?_
      refine s_putI hx hb hts hown hg hC fb_10_19 k5 rfl rfl mk_f_RX12_175 dX12_puts_30 (fun h6 H locs eh6 hC => ?_)
      replace hw := hw h6 eh6
      obtain ⟨v7, ev7⟩ : ∃ y : Int32, y = x2 + (-8 : Int32) := ⟨_, rfl⟩
      replace hw := hw v7 ev7
      refine lo_iinc (v := v7) (lv' := [(2, .int v7), (0, .ref (A o)), (1, .int x1)]) hx hb dX12_puts_33 hl (k := 2) rfl (by rw [ev7]; rfl) (by decide) rfl (fun ls hl => ?_)
      refine lv_goto (tgt := 3) hx hb dX12_puts_36 (by decide) ?_
      exact ih v7 h6 H locs ls hC (lo_sub hl [1, 2, 0] rfl) hw
set_option maxHeartbeats 4000000 in
set_option maxRecDepth 100000 in
theorem c_X12_puts (l : Launch) (G : GG) (base : Nat) (A : Nat → Nat) (o : Nat) (x1 : Int32) (h : Hp) (Q : Hp → Prop) (hw : wp_X12_puts o x1 h Q) : Met l yX12_puts (ww yX12_puts cX12_puts 3 none) rm_X12_puts (va_Pc [.ref (A o), .int x1] (PU2 G base A h A h)) (va_Qv Q (PU2 G base A h A) (fun q => base ≤ q)) 0 0 (fun q => base ≤ q) := by
  refine met2_of (own := RX12) (nm := "puts") (by decide) rfl rfl (List.forall_mem_cons.mpr ⟨rfl, (List.forall_mem_cons.mpr ⟨rfl, (fun _ h => absurd h List.not_mem_nil)⟩)⟩) (Nat.le_of_ble_eq_true rfl) rfl ?_
  intro p e s m args below meth c H locs ls hM hC hl
  obtain ⟨hx, hb, hr, hml, hown, hts, hg, hs, hlk, hnm⟩ := id hM
  unfold wp_X12_puts at hw
  refine lv_bipush (v := 24) hx hb dX12_puts_0 (by decide) ?_
  refine lo_istore_n (lv' := [(2, .int ((24 : Int32))), (0, .ref (A o)), (1, .int x1)]) hx hb dX12_puts_2 rfl hl (by decide) rfl (fun ls hl => ?_)
  refine t_X12_puts_L3 hM o x1 _ Q ?_ fuel (24 : Int32) h H locs ls hC (lo_sub hl [1, 2, 0] rfl) hw
  intro  h8 H locs ls hC hl hw
  exact ret2_v hM hC hw dX12_puts_39
abbrev rm_X12_feed : Room := { frames := 1, cells := 0, slots := 0, locals := 22 }
set_option maxRecDepth 100000 in
def wp_X12_feed (o : Nat) (x1 : Int32) (x2 : Int32) (x3 : Int32) (x4 : Int32) (x5 : Int32) (h : Hp) (Q : Int32 → Hp → Prop) : Prop := ((hpK h o).1 = 20 + 10) ∧ (∀ h2 : Hp, h2 = stI h o 0 (0 : Int32) → (((hpK h2 o).1 = 20 + 10) ∧ ((if (hpI h2 o 19) ≤ (580 : Int32) then (wp_X12_puts o x1 h2 (fun (h5 : Hp) => ((hpK h5 o).1 = 20 + 10) ∧ (wp_X12_puts o x2 h5 (fun (h8 : Hp) => ((hpK h8 o).1 = 20 + 10) ∧ (wp_X12_puts o x3 h8 (fun (h11 : Hp) => ((hpK h11 o).1 = 20 + 10) ∧ (wp_X12_puts o x4 h11 (fun (h14 : Hp) => ((hpK h14 o).1 = 20 + 10) ∧ (wp_X12_puts o x5 h14 (fun (h17 : Hp) => ((hpK h17 o).1 = 20 + 10) ∧ (Q (hpI h17 o 19) h17))))))))))) else (Q (-1 : Int32) h2)))))
set_option maxHeartbeats 4000000 in
set_option maxRecDepth 100000 in
theorem c_X12_feed (l : Launch) (G : GG) (base : Nat) (A : Nat → Nat) (o : Nat) (x1 : Int32) (x2 : Int32) (x3 : Int32) (x4 : Int32) (x5 : Int32) (h : Hp) (Q : Int32 → Hp → Prop) (hw : wp_X12_feed o x1 x2 x3 x4 x5 h Q) : Met l yX12_feed (ww yX12_feed cX12_feed 6 (some .int)) rm_X12_feed (va_Pc [.ref (A o), .int x1, .int x2, .int x3, .int x4, .int x5] (PU2 G base A h A h)) (va_Qi Q (PU2 G base A h A) (fun q => base ≤ q)) 0 0 (fun q => base ≤ q) := by
  refine met2_of (own := RX12) (nm := "feed") (by decide) rfl rfl (List.forall_mem_cons.mpr ⟨rfl, (List.forall_mem_cons.mpr ⟨rfl, (List.forall_mem_cons.mpr ⟨rfl, (List.forall_mem_cons.mpr ⟨rfl, (List.forall_mem_cons.mpr ⟨rfl, (List.forall_mem_cons.mpr ⟨rfl, (fun _ h => absurd h List.not_mem_nil)⟩)⟩)⟩)⟩)⟩)⟩) (Nat.le_of_ble_eq_true rfl) rfl ?_
  intro p e s m args below meth c H locs ls hM hC hl
  obtain ⟨hx, hb, hr, hml, hown, hts, hg, hs, hlk, hnm⟩ := id hM
  unfold wp_X12_feed at hw
  refine lv_aload_n hx hb dX12_feed_0 rfl (lo_at hl 0 rfl) ?_
  refine lv_iconst (v := 0) hx hb dX12_feed_1 (by decide) ?_
  obtain ⟨k1, hw⟩ := hw
  refine s_putI hx hb hts hown hg hC fb_10_0 k1 rfl rfl mk_f_RX12_132 dX12_feed_2 (fun h2 H locs eh2 hC => ?_)
  replace hw := hw h2 eh2
  refine lv_aload_n hx hb dX12_feed_5 rfl (lo_at hl 0 rfl) ?_
  obtain ⟨k3, hw⟩ := hw
  refine s_getI hx hb hts hown hg hC fb_10_19 k3 mk_f_RX12_175 dX12_feed_6 ?_
  refine lv_sipush (v := 580) hx hb dX12_feed_9 (by decide) ?_
  refine lv_icmp_le (tgt := 17) hx hb dX12_feed_12 (by decide) (fun c4 => ?_) (fun c4 => ?_)
  ·
    replace hw := (if_pos c4).mp hw
    refine lv_aload_n hx hb dX12_feed_17 rfl (lo_at hl 0 rfl) ?_
    refine lv_iload_n hx hb dX12_feed_18 rfl (lo_at hl 1 rfl) ?_
    refine res2_v hC (run2_V (As := [.int x1]) (rest := []) hM hC hl.1.1 kv_RX12_178 (c_X12_puts l G base A o x1 h2 _ hw) (hc_10) k3 rfl rfl rfl ⟨Nat.le_of_ble_eq_true rfl, Nat.le_of_ble_eq_true rfl⟩ (Nat.le_of_ble_eq_true rfl) ⟨Nat.le_of_ble_eq_true rfl, Nat.le_of_ble_eq_true rfl⟩ dX12_feed_19) (fun h5 H locs hw hC => ?_)
    refine lv_aload_n hx hb dX12_feed_22 rfl (lo_at hl 0 rfl) ?_
    refine lv_iload_n hx hb dX12_feed_23 rfl (lo_at hl 2 rfl) ?_
    obtain ⟨k7, hw⟩ := hw
    refine res2_v hC (run2_V (As := [.int x2]) (rest := []) hM hC hl.1.1 kv_RX12_178 (c_X12_puts l G base A o x2 h5 _ hw) (hc_10) k7 rfl rfl rfl ⟨Nat.le_of_ble_eq_true rfl, Nat.le_of_ble_eq_true rfl⟩ (Nat.le_of_ble_eq_true rfl) ⟨Nat.le_of_ble_eq_true rfl, Nat.le_of_ble_eq_true rfl⟩ dX12_feed_24) (fun h8 H locs hw hC => ?_)
    refine lv_aload_n hx hb dX12_feed_27 rfl (lo_at hl 0 rfl) ?_
    refine lv_iload_n hx hb dX12_feed_28 rfl (lo_at hl 3 rfl) ?_
    obtain ⟨k10, hw⟩ := hw
    refine res2_v hC (run2_V (As := [.int x3]) (rest := []) hM hC hl.1.1 kv_RX12_178 (c_X12_puts l G base A o x3 h8 _ hw) (hc_10) k10 rfl rfl rfl ⟨Nat.le_of_ble_eq_true rfl, Nat.le_of_ble_eq_true rfl⟩ (Nat.le_of_ble_eq_true rfl) ⟨Nat.le_of_ble_eq_true rfl, Nat.le_of_ble_eq_true rfl⟩ dX12_feed_29) (fun h11 H locs hw hC => ?_)
    refine lv_aload_n hx hb dX12_feed_32 rfl (lo_at hl 0 rfl) ?_
    refine lv_iload hx hb dX12_feed_33 (lo_at hl 4 rfl) ?_
    obtain ⟨k13, hw⟩ := hw
    refine res2_v hC (run2_V (As := [.int x4]) (rest := []) hM hC hl.1.1 kv_RX12_178 (c_X12_puts l G base A o x4 h11 _ hw) (hc_10) k13 rfl rfl rfl ⟨Nat.le_of_ble_eq_true rfl, Nat.le_of_ble_eq_true rfl⟩ (Nat.le_of_ble_eq_true rfl) ⟨Nat.le_of_ble_eq_true rfl, Nat.le_of_ble_eq_true rfl⟩ dX12_feed_35) (fun h14 H locs hw hC => ?_)
    refine lv_aload_n hx hb dX12_feed_38 rfl (lo_at hl 0 rfl) ?_
    refine lv_iload hx hb dX12_feed_39 (lo_at hl 5 rfl) ?_
    obtain ⟨k16, hw⟩ := hw
    refine res2_v hC (run2_V (As := [.int x5]) (rest := []) hM hC hl.1.1 kv_RX12_178 (c_X12_puts l G base A o x5 h14 _ hw) (hc_10) k16 rfl rfl rfl ⟨Nat.le_of_ble_eq_true rfl, Nat.le_of_ble_eq_true rfl⟩ (Nat.le_of_ble_eq_true rfl) ⟨Nat.le_of_ble_eq_true rfl, Nat.le_of_ble_eq_true rfl⟩ dX12_feed_41) (fun h17 H locs hw hC => ?_)
    refine lv_aload_n hx hb dX12_feed_44 rfl (lo_at hl 0 rfl) ?_
    obtain ⟨k19, hw⟩ := hw
    refine s_getI hx hb hts hown hg hC fb_10_19 k19 mk_f_RX12_175 dX12_feed_45 ?_
    exact ret2_i hM hC hw dX12_feed_48
  ·
    replace hw := (if_neg c4).mp hw
    refine lv_iconst (v := -1) hx hb dX12_feed_15 (by decide) ?_
    exact ret2_i hM hC hw dX12_feed_16
abbrev rm_X12_end : Room := { frames := 1, cells := 0, slots := 0, locals := 23 }
set_option maxRecDepth 100000 in
def wp_X12_end (o : Nat) (x1 : Int32) (h : Hp) (Q : Int32 → Hp → Prop) : Prop := ((hpK h o).1 = 20 + 10) ∧ (∀ h2 : Hp, h2 = stI h o 0 (0 : Int32) → (((hpK h2 o).1 = 20 + 10) ∧ (wp_X12_isIn o x1 (0 : Int32) (hpI h2 o 19) h2 (fun (z5 : Int32) (h4 : Hp) => (if z5 = 0 then (Q (0 : Int32) h4) else (((hpK h4 o).1 = 20 + 10) ∧ (∀ h8 : Hp, h8 = stI h4 o 19 x1 → (Q (1 : Int32) h8))))))))
set_option maxHeartbeats 4000000 in
set_option maxRecDepth 100000 in
theorem c_X12_end (l : Launch) (G : GG) (base : Nat) (A : Nat → Nat) (o : Nat) (x1 : Int32) (h : Hp) (Q : Int32 → Hp → Prop) (hw : wp_X12_end o x1 h Q) : Met l yX12_end (ww yX12_end cX12_end 2 (some .boolean)) rm_X12_end (va_Pc [.ref (A o), .int x1] (PU2 G base A h A h)) (va_Qi Q (PU2 G base A h A) (fun q => base ≤ q)) 0 0 (fun q => base ≤ q) := by
  refine met2_of (own := RX12) (nm := "end") (by decide) rfl rfl (List.forall_mem_cons.mpr ⟨rfl, (List.forall_mem_cons.mpr ⟨rfl, (fun _ h => absurd h List.not_mem_nil)⟩)⟩) (Nat.le_of_ble_eq_true rfl) rfl ?_
  intro p e s m args below meth c H locs ls hM hC hl
  obtain ⟨hx, hb, hr, hml, hown, hts, hg, hs, hlk, hnm⟩ := id hM
  unfold wp_X12_end at hw
  refine lv_aload_n hx hb dX12_end_0 rfl (lo_at hl 0 rfl) ?_
  refine lv_iconst (v := 0) hx hb dX12_end_1 (by decide) ?_
  obtain ⟨k1, hw⟩ := hw
  refine s_putI hx hb hts hown hg hC fb_10_0 k1 rfl rfl mk_f_RX12_132 dX12_end_2 (fun h2 H locs eh2 hC => ?_)
  replace hw := hw h2 eh2
  refine lv_aload_n hx hb dX12_end_5 rfl (lo_at hl 0 rfl) ?_
  refine lv_iload_n hx hb dX12_end_6 rfl (lo_at hl 1 rfl) ?_
  refine lv_iconst (v := 0) hx hb dX12_end_7 (by decide) ?_
  refine lv_aload_n hx hb dX12_end_8 rfl (lo_at hl 0 rfl) ?_
  obtain ⟨k3, hw⟩ := hw
  refine s_getI hx hb hts hown hg hC fb_10_19 k3 mk_f_RX12_175 dX12_end_9 ?_
  refine res2_i hC (run2_V (As := [.int x1, .int ((0 : Int32)), .int (hpI h2 o 19)]) (rest := []) hM hC hl.1.1 kv_RX12_144 (c_X12_isIn l G base A o x1 (0 : Int32) (hpI h2 o 19) h2 _ hw) (hc_10) k3 rfl rfl rfl ⟨Nat.le_of_ble_eq_true rfl, Nat.le_of_ble_eq_true rfl⟩ (Nat.le_of_ble_eq_true rfl) ⟨Nat.le_of_ble_eq_true rfl, Nat.le_of_ble_eq_true rfl⟩ dX12_end_12) (fun z5 h4 H locs hw hC => ?_)
  refine lv_if_ne (tgt := 20) hx hb dX12_end_15 (by decide) (fun c6 => ?_) (fun c6 => ?_)
  ·
    replace hw := (if_neg c6).mp hw
    refine lv_aload_n hx hb dX12_end_20 rfl (lo_at hl 0 rfl) ?_
    refine lv_iload_n hx hb dX12_end_21 rfl (lo_at hl 1 rfl) ?_
    obtain ⟨k7, hw⟩ := hw
    refine s_putI hx hb hts hown hg hC fb_10_19 k7 rfl rfl mk_f_RX12_175 dX12_end_22 (fun h8 H locs eh8 hC => ?_)
    replace hw := hw h8 eh8
    refine lv_iconst (v := 1) hx hb dX12_end_25 (by decide) ?_
    exact ret2_t hM hC rfl hw dX12_end_26
  ·
    replace hw := (if_pos c6).mp hw
    refine lv_iconst (v := 0) hx hb dX12_end_18 (by decide) ?_
    exact ret2_t hM hC rfl hw dX12_end_19
abbrev rm_X12_raw : Room := { frames := 0, cells := 0, slots := 0, locals := 0 }
set_option maxRecDepth 100000 in
def wp_X12_raw (o : Nat) (x1 : Int32) (h : Hp) (Q : Int32 → Hp → Prop) : Prop := ((hpK h o).1 = 20 + 10) ∧ ((if (hpI h o 19) ≤ x1 then (Q (-1 : Int32) h) else (okA h (hpR h o 18) 1 x1 ∧ (∀ v4 : Int32, v4 = hpI h (ad (hpR h o 18)) (x1).toNatClampNeg → (Q v4 h)))))
set_option maxHeartbeats 4000000 in
set_option maxRecDepth 100000 in
theorem c_X12_raw (l : Launch) (G : GG) (base : Nat) (A : Nat → Nat) (o : Nat) (x1 : Int32) (h : Hp) (Q : Int32 → Hp → Prop) (hw : wp_X12_raw o x1 h Q) : Met l yX12_raw (ww yX12_raw cX12_raw 2 (some .int)) rm_X12_raw (va_Pc [.ref (A o), .int x1] (PU2 G base A h A h)) (va_Qi Q (PU2 G base A h A) (fun q => base ≤ q)) 0 0 (fun q => base ≤ q) := by
  refine met2_of (own := RX12) (nm := "raw") (by decide) rfl rfl (List.forall_mem_cons.mpr ⟨rfl, (List.forall_mem_cons.mpr ⟨rfl, (fun _ h => absurd h List.not_mem_nil)⟩)⟩) (Nat.le_of_ble_eq_true rfl) rfl ?_
  intro p e s m args below meth c H locs ls hM hC hl
  obtain ⟨hx, hb, hr, hml, hown, hts, hg, hs, hlk, hnm⟩ := id hM
  unfold wp_X12_raw at hw
  refine lv_iload_n hx hb dX12_raw_0 rfl (lo_at hl 1 rfl) ?_
  refine lv_aload_n hx hb dX12_raw_1 rfl (lo_at hl 0 rfl) ?_
  obtain ⟨k1, hw⟩ := hw
  refine s_getI hx hb hts hown hg hC fb_10_19 k1 mk_f_RX12_175 dX12_raw_2 ?_
  refine lv_icmp_ge (tgt := 17) hx hb dX12_raw_5 (by decide) (fun c2 => ?_) (fun c2 => ?_)
  ·
    replace hw := (if_pos c2).mp hw
    refine lv_iconst (v := -1) hx hb dX12_raw_17 (by decide) ?_
    exact ret2_i hM hC hw dX12_raw_18
  ·
    replace hw := (if_neg c2).mp hw
    refine lv_aload_n hx hb dX12_raw_8 rfl (lo_at hl 0 rfl) ?_
    refine s_getR hx hb hts hown hg hC fb_10_18 k1 mk_f_RX12_49 dX12_raw_9 ?_
    refine lv_iload_n hx hb dX12_raw_12 rfl (lo_at hl 1 rfl) ?_
    obtain ⟨k3, hw⟩ := hw
    refine sf_2 k3.1 ?_
    refine s_iald hx hb hg hC k3.2.1 k3.2.2 dX12_raw_13 ?_
    refine lv_topi (fun v4 ev4 => ?_)
    replace hw := hw v4 ev4
    refine lv_goto (tgt := 18) hx hb dX12_raw_14 (by decide) ?_
    exact ret2_i hM hC hw dX12_raw_18
abbrev rm_X12_isLetter : Room := { frames := 1, cells := 0, slots := 0, locals := 23 }
set_option maxRecDepth 100000 in
def wp_X12_isLetter (o : Nat) (x1 : Int32) (h : Hp) (Q : Int32 → Hp → Prop) : Prop := ((hpK h o).1 = 20 + 10) ∧ (wp_X12_isIn o x1 (97 : Int32) (122 : Int32) h (fun (z3 : Int32) (h2 : Hp) => (if z3 = 0 then (((hpK h2 o).1 = 20 + 10) ∧ (wp_X12_isIn o x1 (65 : Int32) (90 : Int32) h2 (fun (z7 : Int32) (h6 : Hp) => (if z7 = 0 then (Q (0 : Int32) h6) else (Q (1 : Int32) h6))))) else (Q (1 : Int32) h2))))
set_option maxHeartbeats 4000000 in
set_option maxRecDepth 100000 in
theorem c_X12_isLetter (l : Launch) (G : GG) (base : Nat) (A : Nat → Nat) (o : Nat) (x1 : Int32) (h : Hp) (Q : Int32 → Hp → Prop) (hw : wp_X12_isLetter o x1 h Q) : Met l yX12_isLetter (ww yX12_isLetter cX12_isLetter 2 (some .boolean)) rm_X12_isLetter (va_Pc [.ref (A o), .int x1] (PU2 G base A h A h)) (va_Qi Q (PU2 G base A h A) (fun q => base ≤ q)) 0 0 (fun q => base ≤ q) := by
  refine met2_of (own := RX12) (nm := "isLetter") (by decide) rfl rfl (List.forall_mem_cons.mpr ⟨rfl, (List.forall_mem_cons.mpr ⟨rfl, (fun _ h => absurd h List.not_mem_nil)⟩)⟩) (Nat.le_of_ble_eq_true rfl) rfl ?_
  intro p e s m args below meth c H locs ls hM hC hl
  obtain ⟨hx, hb, hr, hml, hown, hts, hg, hs, hlk, hnm⟩ := id hM
  unfold wp_X12_isLetter at hw
  refine lv_aload_n hx hb dX12_isLetter_0 rfl (lo_at hl 0 rfl) ?_
  refine lv_iload_n hx hb dX12_isLetter_1 rfl (lo_at hl 1 rfl) ?_
  refine lv_bipush (v := 97) hx hb dX12_isLetter_2 (by decide) ?_
  refine lv_bipush (v := 122) hx hb dX12_isLetter_4 (by decide) ?_
  obtain ⟨k1, hw⟩ := hw
  refine res2_i hC (run2_V (As := [.int x1, .int ((97 : Int32)), .int ((122 : Int32))]) (rest := []) hM hC hl.1.1 kv_RX12_144 (c_X12_isIn l G base A o x1 (97 : Int32) (122 : Int32) h _ hw) (hc_10) k1 rfl rfl rfl ⟨Nat.le_of_ble_eq_true rfl, Nat.le_of_ble_eq_true rfl⟩ (Nat.le_of_ble_eq_true rfl) ⟨Nat.le_of_ble_eq_true rfl, Nat.le_of_ble_eq_true rfl⟩ dX12_isLetter_6) (fun z3 h2 H locs hw hC => ?_)
  refine lv_if_ne (tgt := 24) hx hb dX12_isLetter_9 (by decide) (fun c4 => ?_) (fun c4 => ?_)
  ·
    replace hw := (if_neg c4).mp hw
    refine lv_iconst (v := 1) hx hb dX12_isLetter_24 (by decide) ?_
    refine lv_goto (tgt := 29) hx hb dX12_isLetter_25 (by decide) ?_
    exact ret2_t hM hC rfl hw dX12_isLetter_29
  ·
    replace hw := (if_pos c4).mp hw
    refine lv_aload_n hx hb dX12_isLetter_12 rfl (lo_at hl 0 rfl) ?_
    refine lv_iload_n hx hb dX12_isLetter_13 rfl (lo_at hl 1 rfl) ?_
    refine lv_bipush (v := 65) hx hb dX12_isLetter_14 (by decide) ?_
    refine lv_bipush (v := 90) hx hb dX12_isLetter_16 (by decide) ?_
    obtain ⟨k5, hw⟩ := hw
    refine res2_i hC (run2_V (As := [.int x1, .int ((65 : Int32)), .int ((90 : Int32))]) (rest := []) hM hC hl.1.1 kv_RX12_144 (c_X12_isIn l G base A o x1 (65 : Int32) (90 : Int32) h2 _ hw) (hc_10) k5 rfl rfl rfl ⟨Nat.le_of_ble_eq_true rfl, Nat.le_of_ble_eq_true rfl⟩ (Nat.le_of_ble_eq_true rfl) ⟨Nat.le_of_ble_eq_true rfl, Nat.le_of_ble_eq_true rfl⟩ dX12_isLetter_18) (fun z7 h6 H locs hw hC => ?_)
    refine lv_if_eq (tgt := 28) hx hb dX12_isLetter_21 (by decide) (fun c8 => ?_) (fun c8 => ?_)
    ·
      replace hw := (if_pos c8).mp hw
      refine lv_iconst (v := 0) hx hb dX12_isLetter_28 (by decide) ?_
      exact ret2_t hM hC rfl hw dX12_isLetter_29
    ·
      replace hw := (if_neg c8).mp hw
      refine lv_iconst (v := 1) hx hb dX12_isLetter_24 (by decide) ?_
      refine lv_goto (tgt := 29) hx hb dX12_isLetter_25 (by decide) ?_
      exact ret2_t hM hC rfl hw dX12_isLetter_29
