abbrev rm_X12_isIn : Room := { frames := 0, cells := 0, slots := 0, locals := 0 }
def wp_X12_isIn (o : Nat) (x1 : Int32) (x2 : Int32) (x3 : Int32) (h : Hp) (Q : Int32 → Hp → Prop) : Prop := (if x1 < x2 then (Q (0 : Int32) h) else ((if x3 < x1 then (Q (0 : Int32) h) else (Q (1 : Int32) h))))
set_option maxHeartbeats 4000000 in
set_option maxRecDepth 100000 in
theorem c_X12_isIn (l : Launch) (G : GG) (base : Nat) (o : Nat) (x1 : Int32) (x2 : Int32) (x3 : Int32) (h : Hp) (Q : Int32 → Hp → Prop) (hw : wp_X12_isIn o x1 x2 x3 h Q) : Met l yX12_isIn (ww yX12_isIn cX12_isIn 4 (some .boolean)) rm_X12_isIn (va_Pc [.ref o, .int x1, .int x2, .int x3] (PU G base h)) (va_Qi Q (PU G base) (fun q => base ≤ q)) 0 0 (fun q => base ≤ q) := by
  refine met_of (own := RX12) (nm := "isIn") (by decide) rfl rfl (by simp [va_rf_cat, Value.category]) (Nat.le_of_ble_eq_true rfl) rfl ?_
  intro p e s m below meth c ls hM hC hl
  obtain ⟨hx, hb, hr, hml, hown, hts, hg, hs, hlk, hnm⟩ := id hM
  obtain ⟨args, hargs⟩ : ∃ a : Array Value, a = ([.ref o, .int x1, .int x2, .int x3] : List Value).toArray := ⟨_, rfl⟩
  rw [← hargs] at hM hts ⊢
  obtain ⟨H, hH⟩ : ∃ H : Heap, H = s.heap := ⟨_, rfl⟩
  obtain ⟨locs, hlocs⟩ : ∃ x : List Loc, x = [] := ⟨_, rfl⟩
  have hC : Cx G base h s.heap H locs := by rw [hH, hlocs]; exact hC
  show W p l e rm_X12_isIn s m args below meth c s.heap [] 0 0 (MQ below (va_Qi Q (PU G base) (fun q => base ≤ q)) args s 0 0 (fun q => base ≤ q)) (F0 m 0 ls [])
  rw [← hlocs]
  have hgoal : W p l e rm_X12_isIn s m args below meth c H locs 0 0 (MQ below (va_Qi Q (PU G base) (fun q => base ≤ q)) args s 0 0 (fun q => base ≤ q)) (F0 m 0 ls []) := ?_
  · rw [hH] at hgoal; exact hgoal
  clear hH hlocs
  unfold wp_X12_isIn at hw
  refine lv_iload_n hx hb dX12_isIn_0 rfl (lo_at hl 1 rfl) ?_
  refine lv_iload_n hx hb dX12_isIn_1 rfl (lo_at hl 2 rfl) ?_
  refine lv_icmp_lt (tgt := 14) hx hb dX12_isIn_2 (by decide) (fun c1 => ?_) (fun c1 => ?_)
  ·
    replace hw := (if_pos c1).mp hw
    refine lv_iconst (v := 0) hx hb dX12_isIn_14 (by decide) ?_
    exact ret_z hM hC rfl hw dX12_isIn_15
  ·
    replace hw := (if_neg c1).mp hw
    refine lv_iload_n hx hb dX12_isIn_5 rfl (lo_at hl 1 rfl) ?_
    refine lv_iload_n hx hb dX12_isIn_6 rfl (lo_at hl 3 rfl) ?_
    refine lv_icmp_gt (tgt := 14) hx hb dX12_isIn_7 (by decide) (fun c2 => ?_) (fun c2 => ?_)
    ·
      replace hw := (if_pos c2).mp hw
      refine lv_iconst (v := 0) hx hb dX12_isIn_14 (by decide) ?_
      exact ret_z hM hC rfl hw dX12_isIn_15
    ·
      replace hw := (if_neg c2).mp hw
      refine lv_iconst (v := 1) hx hb dX12_isIn_10 (by decide) ?_
      refine lv_goto (tgt := 15) hx hb dX12_isIn_11 (by decide) ?_
      exact ret_z hM hC rfl hw dX12_isIn_15
abbrev rm_X12_isTool : Room := { frames := 0, cells := 0, slots := 0, locals := 0 }
def wp_X12_isTool (o : Nat) (x1 : Int32) (h : Hp) (Q : Int32 → Hp → Prop) : Prop := (if x1 < 0 then (Q (0 : Int32) h) else (((hpK h o).1 = 20 + 10) ∧ ((if (hpI h o 1) ≤ x1 then (Q (0 : Int32) h) else (Q (1 : Int32) h)))))
set_option maxHeartbeats 4000000 in
set_option maxRecDepth 100000 in
theorem c_X12_isTool (l : Launch) (G : GG) (base : Nat) (o : Nat) (x1 : Int32) (h : Hp) (Q : Int32 → Hp → Prop) (hw : wp_X12_isTool o x1 h Q) : Met l yX12_isTool (ww yX12_isTool cX12_isTool 2 (some .boolean)) rm_X12_isTool (va_Pc [.ref o, .int x1] (PU G base h)) (va_Qi Q (PU G base) (fun q => base ≤ q)) 0 0 (fun q => base ≤ q) := by
  refine met_of (own := RX12) (nm := "isTool") (by decide) rfl rfl (by simp [va_rf_cat, Value.category]) (Nat.le_of_ble_eq_true rfl) rfl ?_
  intro p e s m below meth c ls hM hC hl
  obtain ⟨hx, hb, hr, hml, hown, hts, hg, hs, hlk, hnm⟩ := id hM
  obtain ⟨args, hargs⟩ : ∃ a : Array Value, a = ([.ref o, .int x1] : List Value).toArray := ⟨_, rfl⟩
  rw [← hargs] at hM hts ⊢
  obtain ⟨H, hH⟩ : ∃ H : Heap, H = s.heap := ⟨_, rfl⟩
  obtain ⟨locs, hlocs⟩ : ∃ x : List Loc, x = [] := ⟨_, rfl⟩
  have hC : Cx G base h s.heap H locs := by rw [hH, hlocs]; exact hC
  show W p l e rm_X12_isTool s m args below meth c s.heap [] 0 0 (MQ below (va_Qi Q (PU G base) (fun q => base ≤ q)) args s 0 0 (fun q => base ≤ q)) (F0 m 0 ls [])
  rw [← hlocs]
  have hgoal : W p l e rm_X12_isTool s m args below meth c H locs 0 0 (MQ below (va_Qi Q (PU G base) (fun q => base ≤ q)) args s 0 0 (fun q => base ≤ q)) (F0 m 0 ls []) := ?_
  · rw [hH] at hgoal; exact hgoal
  clear hH hlocs
  unfold wp_X12_isTool at hw
  refine lv_iload_n hx hb dX12_isTool_0 rfl (lo_at hl 1 rfl) ?_
  refine lv_if_lt (tgt := 16) hx hb dX12_isTool_1 (by decide) (fun c1 => ?_) (fun c1 => ?_)
  ·
    replace hw := (if_pos c1).mp hw
    refine lv_iconst (v := 0) hx hb dX12_isTool_16 (by decide) ?_
    exact ret_z hM hC rfl hw dX12_isTool_17
  ·
    replace hw := (if_neg c1).mp hw
    refine lv_iload_n hx hb dX12_isTool_4 rfl (lo_at hl 1 rfl) ?_
    refine lv_aload_n hx hb dX12_isTool_5 rfl (lo_at hl 0 rfl) ?_
    obtain ⟨k2, hw⟩ := hw
    refine r_getI hx hb hts hown hg hC fb_10_1 k2 mk_f_RX12_135 dX12_isTool_6 ?_
    refine lv_icmp_ge (tgt := 16) hx hb dX12_isTool_9 (by decide) (fun c3 => ?_) (fun c3 => ?_)
    ·
      replace hw := (if_pos c3).mp hw
      refine lv_iconst (v := 0) hx hb dX12_isTool_16 (by decide) ?_
      exact ret_z hM hC rfl hw dX12_isTool_17
    ·
      replace hw := (if_neg c3).mp hw
      refine lv_iconst (v := 1) hx hb dX12_isTool_12 (by decide) ?_
      refine lv_goto (tgt := 17) hx hb dX12_isTool_13 (by decide) ?_
      exact ret_z hM hC rfl hw dX12_isTool_17
abbrev rm_X12_isHair : Room := { frames := 1, cells := 0, slots := 0, locals := 23 }
def wp_X12_isHair (o : Nat) (x1 : Int32) (h : Hp) (Q : Int32 → Hp → Prop) : Prop := ((hpK h o).1 = 20 + 10) ∧ (wp_X12_isIn o x1 (0 : Int32) (31 : Int32) h (fun (r3 : Int32) (h2 : Hp) => okZ r3 ∧ Q r3 h2))
set_option maxHeartbeats 4000000 in
set_option maxRecDepth 100000 in
theorem c_X12_isHair (l : Launch) (G : GG) (base : Nat) (o : Nat) (x1 : Int32) (h : Hp) (Q : Int32 → Hp → Prop) (hw : wp_X12_isHair o x1 h Q) : Met l yX12_isHair (ww yX12_isHair cX12_isHair 2 (some .boolean)) rm_X12_isHair (va_Pc [.ref o, .int x1] (PU G base h)) (va_Qi Q (PU G base) (fun q => base ≤ q)) 0 0 (fun q => base ≤ q) := by
  refine met_of (own := RX12) (nm := "isHair") (by decide) rfl rfl (by simp [va_rf_cat, Value.category]) (Nat.le_of_ble_eq_true rfl) rfl ?_
  intro p e s m below meth c ls hM hC hl
  obtain ⟨hx, hb, hr, hml, hown, hts, hg, hs, hlk, hnm⟩ := id hM
  obtain ⟨args, hargs⟩ : ∃ a : Array Value, a = ([.ref o, .int x1] : List Value).toArray := ⟨_, rfl⟩
  rw [← hargs] at hM hts ⊢
  obtain ⟨H, hH⟩ : ∃ H : Heap, H = s.heap := ⟨_, rfl⟩
  obtain ⟨locs, hlocs⟩ : ∃ x : List Loc, x = [] := ⟨_, rfl⟩
  have hC : Cx G base h s.heap H locs := by rw [hH, hlocs]; exact hC
  show W p l e rm_X12_isHair s m args below meth c s.heap [] 0 0 (MQ below (va_Qi Q (PU G base) (fun q => base ≤ q)) args s 0 0 (fun q => base ≤ q)) (F0 m 0 ls [])
  rw [← hlocs]
  have hgoal : W p l e rm_X12_isHair s m args below meth c H locs 0 0 (MQ below (va_Qi Q (PU G base) (fun q => base ≤ q)) args s 0 0 (fun q => base ≤ q)) (F0 m 0 ls []) := ?_
  · rw [hH] at hgoal; exact hgoal
  clear hH hlocs
  unfold wp_X12_isHair at hw
  refine lv_aload_n hx hb dX12_isHair_0 rfl (lo_at hl 0 rfl) ?_
  refine lv_iload_n hx hb dX12_isHair_1 rfl (lo_at hl 1 rfl) ?_
  refine lv_iconst (v := 0) hx hb dX12_isHair_2 (by decide) ?_
  refine lv_bipush (v := 31) hx hb dX12_isHair_3 (by decide) ?_
  obtain ⟨k1, hw⟩ := hw
  refine res_i hC (run_V (As := [.int x1, .int ((0 : Int32)), .int ((31 : Int32))]) (rest := []) hM hC hl.1.1 kv_RX12_144 (c_X12_isIn l G base o x1 (0 : Int32) (31 : Int32) h _ hw) (hc_10) k1 rfl rfl rfl ⟨Nat.le_of_ble_eq_true rfl, Nat.le_of_ble_eq_true rfl⟩ (Nat.le_of_ble_eq_true rfl) ⟨Nat.le_of_ble_eq_true rfl, Nat.le_of_ble_eq_true rfl⟩ dX12_isHair_5) (fun r3 h2 H locs hw hC => ?_)
  exact ret_z hM hC hw.1.1 hw.2 dX12_isHair_8
abbrev rm_X12_edge : Room := { frames := 2, cells := 0, slots := 0, locals := 44 }
def wp_X12_edge (o : Nat) (x1 : Int32) (x2 : Int32) (x3 : Int32) (h : Hp) (Q : Int32 → Hp → Prop) : Prop := ((hpK h o).1 = 20 + 10) ∧ (∀ h2 : Hp, h2 = stI h o 0 (0 : Int32) → (((hpK h2 o).1 = 20 + 10) ∧ (wp_X12_isTool o x1 h2 (fun (r5 : Int32) (h4 : Hp) => (if r5 = 0 then (Q (0 : Int32) h4) else (((hpK h4 o).1 = 20 + 10) ∧ (wp_X12_isHair o x2 h4 (fun (r9 : Int32) (h8 : Hp) => (if r9 = 0 then (Q (0 : Int32) h8) else (((hpK h8 o).1 = 20 + 10) ∧ (wp_X12_isIn o x3 (0 : Int32) (63 : Int32) h8 (fun (r13 : Int32) (h12 : Hp) => (if r13 = 0 then (Q (0 : Int32) h12) else (((hpK h12 o).1 = 20 + 10) ∧ (okA h12 (hpR h12 o 2) 1 (((32 : Int32) * x1) + x2) ∧ (∀ h17 : Hp, h17 = stI h12 (ad (hpR h12 o 2)) (((32 : Int32) * x1) + x2).toNatClampNeg x3 → (Q (1 : Int32) h17)))))))))))))))))
set_option maxHeartbeats 4000000 in
set_option maxRecDepth 100000 in
theorem c_X12_edge (l : Launch) (G : GG) (base : Nat) (o : Nat) (x1 : Int32) (x2 : Int32) (x3 : Int32) (h : Hp) (Q : Int32 → Hp → Prop) (hw : wp_X12_edge o x1 x2 x3 h Q) : Met l yX12_edge (ww yX12_edge cX12_edge 4 (some .boolean)) rm_X12_edge (va_Pc [.ref o, .int x1, .int x2, .int x3] (PU G base h)) (va_Qi Q (PU G base) (fun q => base ≤ q)) 0 0 (fun q => base ≤ q) := by
  refine met_of (own := RX12) (nm := "edge") (by decide) rfl rfl (by simp [va_rf_cat, Value.category]) (Nat.le_of_ble_eq_true rfl) rfl ?_
  intro p e s m below meth c ls hM hC hl
  obtain ⟨hx, hb, hr, hml, hown, hts, hg, hs, hlk, hnm⟩ := id hM
  obtain ⟨args, hargs⟩ : ∃ a : Array Value, a = ([.ref o, .int x1, .int x2, .int x3] : List Value).toArray := ⟨_, rfl⟩
  rw [← hargs] at hM hts ⊢
  obtain ⟨H, hH⟩ : ∃ H : Heap, H = s.heap := ⟨_, rfl⟩
  obtain ⟨locs, hlocs⟩ : ∃ x : List Loc, x = [] := ⟨_, rfl⟩
  have hC : Cx G base h s.heap H locs := by rw [hH, hlocs]; exact hC
  show W p l e rm_X12_edge s m args below meth c s.heap [] 0 0 (MQ below (va_Qi Q (PU G base) (fun q => base ≤ q)) args s 0 0 (fun q => base ≤ q)) (F0 m 0 ls [])
  rw [← hlocs]
  have hgoal : W p l e rm_X12_edge s m args below meth c H locs 0 0 (MQ below (va_Qi Q (PU G base) (fun q => base ≤ q)) args s 0 0 (fun q => base ≤ q)) (F0 m 0 ls []) := ?_
  · rw [hH] at hgoal; exact hgoal
  clear hH hlocs
  unfold wp_X12_edge at hw
  refine lv_aload_n hx hb dX12_edge_0 rfl (lo_at hl 0 rfl) ?_
  refine lv_iconst (v := 0) hx hb dX12_edge_1 (by decide) ?_
  obtain ⟨k1, hw⟩ := hw
  refine r_putI hx hb hts hown hg hC fb_10_0 k1 rfl rfl mk_f_RX12_132 dX12_edge_2 (fun h2 H locs eh2 hC => ?_)
  replace hw := hw h2 eh2
  refine lv_aload_n hx hb dX12_edge_5 rfl (lo_at hl 0 rfl) ?_
  refine lv_iload_n hx hb dX12_edge_6 rfl (lo_at hl 1 rfl) ?_
  obtain ⟨k3, hw⟩ := hw
  refine res_i hC (run_V (As := [.int x1]) (rest := []) hM hC hl.1.1 kv_RX12_148 (c_X12_isTool l G base o x1 h2 _ hw) (hc_10) k3 rfl rfl rfl ⟨Nat.le_of_ble_eq_true rfl, Nat.le_of_ble_eq_true rfl⟩ (Nat.le_of_ble_eq_true rfl) ⟨Nat.le_of_ble_eq_true rfl, Nat.le_of_ble_eq_true rfl⟩ dX12_edge_7) (fun r5 h4 H locs hw hC => ?_)
  refine lv_if_eq (tgt := 32) hx hb dX12_edge_10 (by decide) (fun c6 => ?_) (fun c6 => ?_)
  ·
    replace hw := (if_pos c6).mp hw
    refine lv_iconst (v := 0) hx hb dX12_edge_32 (by decide) ?_
    exact ret_z hM hC rfl hw dX12_edge_33
  ·
    replace hw := (if_neg c6).mp hw
    refine lv_aload_n hx hb dX12_edge_13 rfl (lo_at hl 0 rfl) ?_
    refine lv_iload_n hx hb dX12_edge_14 rfl (lo_at hl 2 rfl) ?_
    obtain ⟨k7, hw⟩ := hw
    refine res_i hC (run_V (As := [.int x2]) (rest := []) hM hC hl.1.1 kv_RX12_152 (c_X12_isHair l G base o x2 h4 _ hw) (hc_10) k7 rfl rfl rfl ⟨Nat.le_of_ble_eq_true rfl, Nat.le_of_ble_eq_true rfl⟩ (Nat.le_of_ble_eq_true rfl) ⟨Nat.le_of_ble_eq_true rfl, Nat.le_of_ble_eq_true rfl⟩ dX12_edge_15) (fun r9 h8 H locs hw hC => ?_)
    refine lv_if_eq (tgt := 32) hx hb dX12_edge_18 (by decide) (fun c10 => ?_) (fun c10 => ?_)
    ·
      replace hw := (if_pos c10).mp hw
      refine lv_iconst (v := 0) hx hb dX12_edge_32 (by decide) ?_
      exact ret_z hM hC rfl hw dX12_edge_33
    ·
      replace hw := (if_neg c10).mp hw
      refine lv_aload_n hx hb dX12_edge_21 rfl (lo_at hl 0 rfl) ?_
      refine lv_iload_n hx hb dX12_edge_22 rfl (lo_at hl 3 rfl) ?_
      refine lv_iconst (v := 0) hx hb dX12_edge_23 (by decide) ?_
      refine lv_bipush (v := 63) hx hb dX12_edge_24 (by decide) ?_
      obtain ⟨k11, hw⟩ := hw
      refine res_i hC (run_V (As := [.int x3, .int ((0 : Int32)), .int ((63 : Int32))]) (rest := []) hM hC hl.1.1 kv_RX12_144 (c_X12_isIn l G base o x3 (0 : Int32) (63 : Int32) h8 _ hw) (hc_10) k11 rfl rfl rfl ⟨Nat.le_of_ble_eq_true rfl, Nat.le_of_ble_eq_true rfl⟩ (Nat.le_of_ble_eq_true rfl) ⟨Nat.le_of_ble_eq_true rfl, Nat.le_of_ble_eq_true rfl⟩ dX12_edge_26) (fun r13 h12 H locs hw hC => ?_)
      refine lv_if_ne (tgt := 34) hx hb dX12_edge_29 (by decide) (fun c14 => ?_) (fun c14 => ?_)
      ·
        replace hw := (if_neg c14).mp hw
        refine lv_aload_n hx hb dX12_edge_34 rfl (lo_at hl 0 rfl) ?_
        obtain ⟨k15, hw⟩ := hw
        refine r_getR hx hb hts hown hg hC fb_10_2 k15 mk_f_RX12_7 dX12_edge_35 ?_
        refine lv_bipush (v := 32) hx hb dX12_edge_38 (by decide) ?_
        refine lv_iload_n hx hb dX12_edge_40 rfl (lo_at hl 1 rfl) ?_
        refine lv_imul hx hb dX12_edge_41 ?_
        refine lv_iload_n hx hb dX12_edge_42 rfl (lo_at hl 2 rfl) ?_
        refine lv_iadd hx hb dX12_edge_43 ?_
        refine lv_iload_n hx hb dX12_edge_44 rfl (lo_at hl 3 rfl) ?_
        obtain ⟨k16, hw⟩ := hw
        refine rf_3 k16.1 ?_
        refine r_iast hx hb hg hC k16.2.1 k16.2.2 dX12_edge_45 (fun h17 H locs eh17 hC => ?_)
        replace hw := hw h17 eh17
        refine lv_iconst (v := 1) hx hb dX12_edge_46 (by decide) ?_
        exact ret_z hM hC rfl hw dX12_edge_47
      ·
        replace hw := (if_pos c14).mp hw
        refine lv_iconst (v := 0) hx hb dX12_edge_32 (by decide) ?_
        exact ret_z hM hC rfl hw dX12_edge_33
abbrev rm_X12_missingOf : Room := { frames := 0, cells := 0, slots := 0, locals := 0 }
def wp_X12_missingOf_L4 (o : Nat) (x1 : Int32) (K35 : Int32 → Hp → Prop) (Q : Int32 → Hp → Prop) : Nat → Int32 → Int32 → Hp → Prop
  | 0, _, _, _ => False
  | n + 1, x2, x3, h => (if (32 : Int32) ≤ x3 then (K35 x2 h) else (((hpK h o).1 = 20 + 10) ∧ (okA h (hpR h o 13) 1 (((32 : Int32) * x1) + x3) ∧ (∀ x4 : Int32, x4 = hpI h (ad (hpR h o 13)) (((32 : Int32) * x1) + x3).toNatClampNeg → ((if x4 = (-1 : Int32) then (∀ x7 : Int32, x7 = x2 + (1 : Int32) → (∀ x8 : Int32, x8 = x3 + (1 : Int32) → (wp_X12_missingOf_L4 o x1 K35 Q n x7 x8 h))) else (∀ x6 : Int32, x6 = x3 + (1 : Int32) → (wp_X12_missingOf_L4 o x1 K35 Q n x2 x6 h))))))))
def wp_X12_missingOf (o : Nat) (x1 : Int32) (h : Hp) (Q : Int32 → Hp → Prop) : Prop := wp_X12_missingOf_L4 o x1 (fun (y10 : Int32) (h9 : Hp) => Q y10 h9) Q fuel (0 : Int32) (0 : Int32) h
set_option maxHeartbeats 4000000 in
set_option maxRecDepth 100000 in
theorem t_X12_missingOf_L4 {p : Program} {l : Launch} {e : Env} {s : State} {m : MethodId} {args : Array Value} {below : List Frame} {meth : Method} {c : Code} {G : GG} {base : Nat} (hM : Mx G base p s m args meth c cX12_missingOf 4 (some .int) RX12 "missingOf") (o : Nat) (x1 : Int32) (K35 : Int32 → Hp → Prop) (Q : Int32 → Hp → Prop) (hK35 : ∀ (y2 : Int32) (h : Hp) (H : Heap) (locs : List Loc) (ls : Array Slot), Cx G base h s.heap H locs → lo_has ls 4 [(2, .int y2)] → K35 y2 h → W p l e rm_X12_missingOf s m args below meth c H locs 0 0 (MQ below (va_Qi Q (PU G base) (fun q => base ≤ q)) args s 0 0 (fun q => base ≤ q)) (F0 m 35 ls [])) : ∀ (n : Nat) (x2 : Int32) (x3 : Int32) (h : Hp) (H : Heap) (locs : List Loc) (ls : Array Slot), Cx G base h s.heap H locs → lo_has ls 4 [(0, .ref o), (1, .int x1), (2, .int x2), (3, .int x3)] → wp_X12_missingOf_L4 o x1 K35 Q n x2 x3 h → W p l e rm_X12_missingOf s m args below meth c H locs 0 0 (MQ below (va_Qi Q (PU G base) (fun q => base ≤ q)) args s 0 0 (fun q => base ≤ q)) (F0 m 4 ls []) := by
  intro n
  induction n with
  | zero =>
    intro x2 x3 h H locs ls hC hl hw
    rw [wp_X12_missingOf_L4] at hw
    exact hw.elim
  | succ n ih =>
    intro x2 x3 h H locs ls hC hl hw
    rw [wp_X12_missingOf_L4] at hw
    obtain ⟨hx, hb, hr, hml, hown, hts, hg, hs, hlk, hnm⟩ := id hM
    refine lv_iload_n hx hb dX12_missingOf_4 rfl (lo_at hl 3 rfl) ?_
    refine lv_bipush (v := 32) hx hb dX12_missingOf_5 (by decide) ?_
    refine lv_icmp_ge (tgt := 35) hx hb dX12_missingOf_7 (by decide) (fun c1 => ?_) (fun c1 => ?_)
    ·
      replace hw := (if_pos c1).mp hw
      exact hK35 x2 h H locs ls hC (lo_sub hl [2] rfl) hw
    ·
      replace hw := (if_neg c1).mp hw
      refine lv_aload_n hx hb dX12_missingOf_10 rfl (lo_at hl 0 rfl) ?_
      obtain ⟨k2, hw⟩ := hw
      refine r_getR hx hb hts hown hg hC fb_10_13 k2 mk_f_RX12_37 dX12_missingOf_11 ?_
      refine lv_bipush (v := 32) hx hb dX12_missingOf_14 (by decide) ?_
      refine lv_iload_n hx hb dX12_missingOf_16 rfl (lo_at hl 1 rfl) ?_
      refine lv_imul hx hb dX12_missingOf_17 ?_
      refine lv_iload_n hx hb dX12_missingOf_18 rfl (lo_at hl 3 rfl) ?_
      refine lv_iadd hx hb dX12_missingOf_19 ?_
      obtain ⟨k3, hw⟩ := hw
      refine rf_2 k3.1 ?_
      refine r_iald hx hb hg hC k3.2.1 k3.2.2 dX12_missingOf_20 ?_
      refine lv_topi (fun x4 ex4 => ?_)
      replace hw := hw x4 ex4
      refine lv_iconst (v := -1) hx hb dX12_missingOf_21 (by decide) ?_
      refine lv_icmp_ne (tgt := 29) hx hb dX12_missingOf_22 (by decide) (fun c5 => ?_) (fun c5 => ?_)
      ·
        replace hw := (if_neg c5).mp hw
        obtain ⟨x6, ex6⟩ : ∃ y : Int32, y = x3 + (1 : Int32) := ⟨_, rfl⟩
        replace hw := hw x6 ex6
        refine lo_iinc (v := x6) (lv' := [(3, .int x6), (0, .ref o), (1, .int x1), (2, .int x2)]) hx hb dX12_missingOf_29 hl (k := 3) rfl (by rw [ex6]; rfl) (by decide) rfl (fun ls hl => ?_)
        refine lv_goto (tgt := 4) hx hb dX12_missingOf_32 (by decide) ?_
        exact ih x2 x6 h H locs ls hC (lo_sub hl [1, 2, 3, 0] rfl) hw
      ·
        replace hw := (if_pos c5).mp hw
        refine lv_iload_n hx hb dX12_missingOf_25 rfl (lo_at hl 2 rfl) ?_
        refine lv_iconst (v := 1) hx hb dX12_missingOf_26 (by decide) ?_
        refine lv_iadd hx hb dX12_missingOf_27 ?_
        refine lv_topi (fun x7 ex7 => ?_)
        replace hw := hw x7 ex7
        refine lo_istore_n (lv' := [(2, .int x7), (0, .ref o), (1, .int x1), (3, .int x3)]) hx hb dX12_missingOf_28 rfl hl (by decide) rfl (fun ls hl => ?_)
        obtain ⟨x8, ex8⟩ : ∃ y : Int32, y = x3 + (1 : Int32) := ⟨_, rfl⟩
        replace hw := hw x8 ex8
        refine lo_iinc (v := x8) (lv' := [(3, .int x8), (2, .int x7), (0, .ref o), (1, .int x1)]) hx hb dX12_missingOf_29 hl (k := 3) rfl (by rw [ex8]; rfl) (by decide) rfl (fun ls hl => ?_)
        refine lv_goto (tgt := 4) hx hb dX12_missingOf_32 (by decide) ?_
        exact ih x7 x8 h H locs ls hC (lo_sub hl [2, 3, 1, 0] rfl) hw
set_option maxHeartbeats 4000000 in
set_option maxRecDepth 100000 in
theorem c_X12_missingOf (l : Launch) (G : GG) (base : Nat) (o : Nat) (x1 : Int32) (h : Hp) (Q : Int32 → Hp → Prop) (hw : wp_X12_missingOf o x1 h Q) : Met l yX12_missingOf (ww yX12_missingOf cX12_missingOf 4 (some .int)) rm_X12_missingOf (va_Pc [.ref o, .int x1] (PU G base h)) (va_Qi Q (PU G base) (fun q => base ≤ q)) 0 0 (fun q => base ≤ q) := by
  refine met_of (own := RX12) (nm := "missingOf") (by decide) rfl rfl (by simp [va_rf_cat, Value.category]) (Nat.le_of_ble_eq_true rfl) rfl ?_
  intro p e s m below meth c ls hM hC hl
  obtain ⟨hx, hb, hr, hml, hown, hts, hg, hs, hlk, hnm⟩ := id hM
  obtain ⟨args, hargs⟩ : ∃ a : Array Value, a = ([.ref o, .int x1] : List Value).toArray := ⟨_, rfl⟩
  rw [← hargs] at hM hts ⊢
  obtain ⟨H, hH⟩ : ∃ H : Heap, H = s.heap := ⟨_, rfl⟩
  obtain ⟨locs, hlocs⟩ : ∃ x : List Loc, x = [] := ⟨_, rfl⟩
  have hC : Cx G base h s.heap H locs := by rw [hH, hlocs]; exact hC
  show W p l e rm_X12_missingOf s m args below meth c s.heap [] 0 0 (MQ below (va_Qi Q (PU G base) (fun q => base ≤ q)) args s 0 0 (fun q => base ≤ q)) (F0 m 0 ls [])
  rw [← hlocs]
  have hgoal : W p l e rm_X12_missingOf s m args below meth c H locs 0 0 (MQ below (va_Qi Q (PU G base) (fun q => base ≤ q)) args s 0 0 (fun q => base ≤ q)) (F0 m 0 ls []) := ?_
  · rw [hH] at hgoal; exact hgoal
  clear hH hlocs
  unfold wp_X12_missingOf at hw
  refine lv_iconst (v := 0) hx hb dX12_missingOf_0 (by decide) ?_
  refine lo_istore_n (lv' := [(2, .int ((0 : Int32))), (0, .ref o), (1, .int x1)]) hx hb dX12_missingOf_1 rfl hl (by decide) rfl (fun ls hl => ?_)
  refine lv_iconst (v := 0) hx hb dX12_missingOf_2 (by decide) ?_
  refine lo_istore_n (lv' := [(3, .int ((0 : Int32))), (2, .int ((0 : Int32))), (0, .ref o), (1, .int x1)]) hx hb dX12_missingOf_3 rfl hl (by decide) rfl (fun ls hl => ?_)
  refine t_X12_missingOf_L4 hM o x1 _ Q ?_ fuel (0 : Int32) (0 : Int32) h H locs ls hC (lo_sub hl [2, 3, 1, 0] rfl) hw
  intro y10 h9 H locs ls hC hl hw
  refine lv_iload_n hx hb dX12_missingOf_35 rfl (lo_at hl 0 rfl) ?_
  exact ret_i hM hC hw dX12_missingOf_36
abbrev rm_X12_tool : Room := { frames := 0, cells := 0, slots := 0, locals := 0 }
def wp_X12_tool_L18 (o : Nat) (x1 : Int32) (K46 : Hp → Prop) (Q : Int32 → Hp → Prop) : Nat → Int32 → Hp → Prop
  | 0, _, _ => False
  | n + 1, x2, h => (if (32 : Int32) ≤ x2 then (K46 h) else (((hpK h o).1 = 20 + 10) ∧ (okA h (hpR h o 2) 1 (((32 : Int32) * (hpI h o 1)) + x2) ∧ (∀ h8 : Hp, h8 = stI h (ad (hpR h o 2)) (((32 : Int32) * (hpI h o 1)) + x2).toNatClampNeg (32 : Int32) → (∀ x9 : Int32, x9 = x2 + (1 : Int32) → (wp_X12_tool_L18 o x1 K46 Q n x9 h8))))))
def wp_X12_tool (o : Nat) (x1 : Int32) (h : Hp) (Q : Int32 → Hp → Prop) : Prop := ((hpK h o).1 = 20 + 10) ∧ (∀ h2 : Hp, h2 = stI h o 0 (0 : Int32) → (((hpK h2 o).1 = 20 + 10) ∧ ((if (hpI h2 o 1) = (6 : Int32) then (Q (-1 : Int32) h2) else (wp_X12_tool_L18 o x1 (fun (h10 : Hp) => ((hpK h10 o).1 = 20 + 10) ∧ (okA h10 (hpR h10 o 3) 1 (hpI h10 o 1) ∧ (∀ h13 : Hp, h13 = stI h10 (ad (hpR h10 o 3)) (hpI h10 o 1).toNatClampNeg x1 → (((hpK h13 o).1 = 20 + 10) ∧ (∀ h15 : Hp, h15 = stI h13 o 1 ((hpI h13 o 1) + (1 : Int32)) → (((hpK h15 o).1 = 20 + 10) ∧ (Q ((hpI h15 o 1) - (1 : Int32)) h15))))))) Q fuel (0 : Int32) h2)))))
set_option maxHeartbeats 4000000 in
set_option maxRecDepth 100000 in
theorem t_X12_tool_L18 {p : Program} {l : Launch} {e : Env} {s : State} {m : MethodId} {args : Array Value} {below : List Frame} {meth : Method} {c : Code} {G : GG} {base : Nat} (hM : Mx G base p s m args meth c cX12_tool 3 (some .int) RX12 "tool") (o : Nat) (x1 : Int32) (K46 : Hp → Prop) (Q : Int32 → Hp → Prop) (hK46 : ∀ (h : Hp) (H : Heap) (locs : List Loc) (ls : Array Slot), Cx G base h s.heap H locs → lo_has ls 3 [(0, .ref o), (1, .int x1)] → K46 h → W p l e rm_X12_tool s m args below meth c H locs 0 0 (MQ below (va_Qi Q (PU G base) (fun q => base ≤ q)) args s 0 0 (fun q => base ≤ q)) (F0 m 46 ls [])) : ∀ (n : Nat) (x2 : Int32) (h : Hp) (H : Heap) (locs : List Loc) (ls : Array Slot), Cx G base h s.heap H locs → lo_has ls 3 [(0, .ref o), (1, .int x1), (2, .int x2)] → wp_X12_tool_L18 o x1 K46 Q n x2 h → W p l e rm_X12_tool s m args below meth c H locs 0 0 (MQ below (va_Qi Q (PU G base) (fun q => base ≤ q)) args s 0 0 (fun q => base ≤ q)) (F0 m 18 ls []) := by
  intro n
  induction n with
  | zero =>
    intro x2 h H locs ls hC hl hw
    rw [wp_X12_tool_L18] at hw
    exact hw.elim
  | succ n ih =>
    intro x2 h H locs ls hC hl hw
    rw [wp_X12_tool_L18] at hw
    obtain ⟨hx, hb, hr, hml, hown, hts, hg, hs, hlk, hnm⟩ := id hM
    refine lv_iload_n hx hb dX12_tool_18 rfl (lo_at hl 2 rfl) ?_
    refine lv_bipush (v := 32) hx hb dX12_tool_19 (by decide) ?_
    refine lv_icmp_ge (tgt := 46) hx hb dX12_tool_21 (by decide) (fun c5 => ?_) (fun c5 => ?_)
    ·
      replace hw := (if_pos c5).mp hw
      exact hK46  h H locs ls hC (lo_sub hl [0, 1] rfl) hw
    ·
      replace hw := (if_neg c5).mp hw
      refine lv_aload_n hx hb dX12_tool_24 rfl (lo_at hl 0 rfl) ?_
      obtain ⟨k6, hw⟩ := hw
      refine r_getR hx hb hts hown hg hC fb_10_2 k6 mk_f_RX12_7 dX12_tool_25 ?_
      refine lv_bipush (v := 32) hx hb dX12_tool_28 (by decide) ?_
      refine lv_aload_n hx hb dX12_tool_30 rfl (lo_at hl 0 rfl) ?_
      refine r_getI hx hb hts hown hg hC fb_10_1 k6 mk_f_RX12_135 dX12_tool_31 ?_
      refine lv_imul hx hb dX12_tool_34 ?_
      refine lv_iload_n hx hb dX12_tool_35 rfl (lo_at hl 2 rfl) ?_
      refine lv_iadd hx hb dX12_tool_36 ?_
      refine lv_bipush (v := 32) hx hb dX12_tool_37 (by decide) ?_
      obtain ⟨k7, hw⟩ := hw
      refine rf_3 k7.1 ?_
      refine r_iast hx hb hg hC k7.2.1 k7.2.2 dX12_tool_39 (fun h8 H locs eh8 hC => ?_)
      replace hw := hw h8 eh8
      obtain ⟨x9, ex9⟩ : ∃ y : Int32, y = x2 + (1 : Int32) := ⟨_, rfl⟩
      replace hw := hw x9 ex9
      refine lo_iinc (v := x9) (lv' := [(2, .int x9), (0, .ref o), (1, .int x1)]) hx hb dX12_tool_40 hl (k := 2) rfl (by rw [ex9]; rfl) (by decide) rfl (fun ls hl => ?_)
      refine lv_goto (tgt := 18) hx hb dX12_tool_43 (by decide) ?_
      exact ih x9 h8 H locs ls hC (lo_sub hl [1, 2, 0] rfl) hw
set_option maxHeartbeats 4000000 in
set_option maxRecDepth 100000 in
theorem c_X12_tool (l : Launch) (G : GG) (base : Nat) (o : Nat) (x1 : Int32) (h : Hp) (Q : Int32 → Hp → Prop) (hw : wp_X12_tool o x1 h Q) : Met l yX12_tool (ww yX12_tool cX12_tool 3 (some .int)) rm_X12_tool (va_Pc [.ref o, .int x1] (PU G base h)) (va_Qi Q (PU G base) (fun q => base ≤ q)) 0 0 (fun q => base ≤ q) := by
  refine met_of (own := RX12) (nm := "tool") (by decide) rfl rfl (by simp [va_rf_cat, Value.category]) (Nat.le_of_ble_eq_true rfl) rfl ?_
  intro p e s m below meth c ls hM hC hl
  obtain ⟨hx, hb, hr, hml, hown, hts, hg, hs, hlk, hnm⟩ := id hM
  obtain ⟨args, hargs⟩ : ∃ a : Array Value, a = ([.ref o, .int x1] : List Value).toArray := ⟨_, rfl⟩
  rw [← hargs] at hM hts ⊢
  obtain ⟨H, hH⟩ : ∃ H : Heap, H = s.heap := ⟨_, rfl⟩
  obtain ⟨locs, hlocs⟩ : ∃ x : List Loc, x = [] := ⟨_, rfl⟩
  have hC : Cx G base h s.heap H locs := by rw [hH, hlocs]; exact hC
  show W p l e rm_X12_tool s m args below meth c s.heap [] 0 0 (MQ below (va_Qi Q (PU G base) (fun q => base ≤ q)) args s 0 0 (fun q => base ≤ q)) (F0 m 0 ls [])
  rw [← hlocs]
  have hgoal : W p l e rm_X12_tool s m args below meth c H locs 0 0 (MQ below (va_Qi Q (PU G base) (fun q => base ≤ q)) args s 0 0 (fun q => base ≤ q)) (F0 m 0 ls []) := ?_
  · rw [hH] at hgoal; exact hgoal
  clear hH hlocs
  unfold wp_X12_tool at hw
  refine lv_aload_n hx hb dX12_tool_0 rfl (lo_at hl 0 rfl) ?_
  refine lv_iconst (v := 0) hx hb dX12_tool_1 (by decide) ?_
  obtain ⟨k1, hw⟩ := hw
  refine r_putI hx hb hts hown hg hC fb_10_0 k1 rfl rfl mk_f_RX12_132 dX12_tool_2 (fun h2 H locs eh2 hC => ?_)
  replace hw := hw h2 eh2
  refine lv_aload_n hx hb dX12_tool_5 rfl (lo_at hl 0 rfl) ?_
  obtain ⟨k3, hw⟩ := hw
  refine r_getI hx hb hts hown hg hC fb_10_1 k3 mk_f_RX12_135 dX12_tool_6 ?_
  refine lv_bipush (v := 6) hx hb dX12_tool_9 (by decide) ?_
  refine lv_icmp_ne (tgt := 16) hx hb dX12_tool_11 (by decide) (fun c4 => ?_) (fun c4 => ?_)
  ·
    replace hw := (if_neg c4).mp hw
    refine lv_iconst (v := 0) hx hb dX12_tool_16 (by decide) ?_
    refine lo_istore_n (lv' := [(2, .int ((0 : Int32))), (0, .ref o), (1, .int x1)]) hx hb dX12_tool_17 rfl hl (by decide) rfl (fun ls hl => ?_)
    refine t_X12_tool_L18 hM o x1 _ Q ?_ fuel (0 : Int32) h2 H locs ls hC (lo_sub hl [1, 2, 0] rfl) hw
    intro  h10 H locs ls hC hl hw
    refine lv_aload_n hx hb dX12_tool_46 rfl (lo_at hl 0 rfl) ?_
    obtain ⟨k11, hw⟩ := hw
    refine r_getR hx hb hts hown hg hC fb_10_3 k11 mk_f_RX12_13 dX12_tool_47 ?_
    refine lv_aload_n hx hb dX12_tool_50 rfl (lo_at hl 0 rfl) ?_
    refine r_getI hx hb hts hown hg hC fb_10_1 k11 mk_f_RX12_135 dX12_tool_51 ?_
    refine lv_iload_n hx hb dX12_tool_54 rfl (lo_at hl 1 rfl) ?_
    obtain ⟨k12, hw⟩ := hw
    refine rf_3 k12.1 ?_
    refine r_iast hx hb hg hC k12.2.1 k12.2.2 dX12_tool_55 (fun h13 H locs eh13 hC => ?_)
    replace hw := hw h13 eh13
    refine lv_aload_n hx hb dX12_tool_56 rfl (lo_at hl 0 rfl) ?_
    refine lv_aload_n hx hb dX12_tool_57 rfl (lo_at hl 0 rfl) ?_
    obtain ⟨k14, hw⟩ := hw
    refine r_getI hx hb hts hown hg hC fb_10_1 k14 mk_f_RX12_135 dX12_tool_58 ?_
    refine lv_iconst (v := 1) hx hb dX12_tool_61 (by decide) ?_
    refine lv_iadd hx hb dX12_tool_62 ?_
    refine r_putI hx hb hts hown hg hC fb_10_1 k14 rfl rfl mk_f_RX12_135 dX12_tool_63 (fun h15 H locs eh15 hC => ?_)
    replace hw := hw h15 eh15
    refine lv_aload_n hx hb dX12_tool_66 rfl (lo_at hl 0 rfl) ?_
    obtain ⟨k16, hw⟩ := hw
    refine r_getI hx hb hts hown hg hC fb_10_1 k16 mk_f_RX12_135 dX12_tool_67 ?_
    refine lv_iconst (v := 1) hx hb dX12_tool_70 (by decide) ?_
    refine lv_isub hx hb dX12_tool_71 ?_
    exact ret_i hM hC hw dX12_tool_72
  ·
    replace hw := (if_pos c4).mp hw
    refine lv_iconst (v := -1) hx hb dX12_tool_14 (by decide) ?_
    exact ret_i hM hC hw dX12_tool_15
