abbrev rm_X7_init : Room := { frames := 1, cells := 6, slots := 696, locals := 20 }
set_option maxRecDepth 100000 in
def wp_X7_init (o : Nat) (h : Hp) (Q : Hp → Prop) : Prop := okP h (some o) ∧ (∃ q1 : Nat, (hpK h q1).1 = 0 ∧ (∀ h2 : Hp, h2 = alc h q1 1 16 → (((hpK h2 o).1 = 20 + 5) ∧ (okP h2 (some q1) ∧ (∀ h8 : Hp, h8 = stR h2 o 0 (some q1) → (okP h8 (some o) ∧ (∃ q10 : Nat, (hpK h8 q10).1 = 0 ∧ (∀ h11 : Hp, h11 = alc h8 q10 1 16 → (((hpK h11 o).1 = 20 + 5) ∧ (okP h11 (some q10) ∧ (∀ h17 : Hp, h17 = stR h11 o 1 (some q10) → (okP h17 (some o) ∧ (∃ q19 : Nat, (hpK h17 q19).1 = 0 ∧ (∀ h20 : Hp, h20 = alc h17 q19 1 16 → (((hpK h20 o).1 = 20 + 5) ∧ (okP h20 (some q19) ∧ (∀ h26 : Hp, h26 = stR h20 o 2 (some q19) → (okP h26 (some o) ∧ (∃ q28 : Nat, (hpK h26 q28).1 = 0 ∧ (∀ h29 : Hp, h29 = alc h26 q28 1 16 → (((hpK h29 o).1 = 20 + 5) ∧ (okP h29 (some q28) ∧ (∀ h35 : Hp, h35 = stR h29 o 3 (some q28) → (okP h35 (some o) ∧ (∃ q37 : Nat, (hpK h35 q37).1 = 0 ∧ (∀ h38 : Hp, h38 = alc h35 q37 1 600 → (((hpK h38 o).1 = 20 + 5) ∧ (okP h38 (some q37) ∧ (∀ h44 : Hp, h44 = stR h38 o 4 (some q37) → (okP h44 (some o) ∧ (∃ q46 : Nat, (hpK h44 q46).1 = 0 ∧ (∀ h47 : Hp, h47 = alc h44 q46 1 32 → (((hpK h47 o).1 = 20 + 5) ∧ (okP h47 (some q46) ∧ (∀ h53 : Hp, h53 = stR h47 o 5 (some q46) → (Q h53))))))))))))))))))))))))))))))))))))
set_option maxHeartbeats 4000000 in
set_option maxRecDepth 100000 in
theorem c_X7_init (l : Launch) (G : GG) (base : Nat) (A : Nat → Nat) (o : Nat) (h : Hp) (Q : Hp → Prop) (hw : wp_X7_init o h Q) : Met l yX7_init (ww yX7_init cX7_init 1 none) rm_X7_init (va_Pc [.ref (A o)] (PU2 G base A h A h)) (va_Qv (fun (u : (Nat → Nat) × Hp) => Q u.2) (fun u t => PU2 G base A h u.1 u.2 t) (fun q => base ≤ q)) 6 696 (fun q => base ≤ q) := by
  refine met2_of (own := RX7) (nm := "<init>") (by decide) rfl rfl (List.forall_mem_cons.mpr ⟨rfl, (fun _ h => absurd h List.not_mem_nil)⟩) (Nat.le_of_ble_eq_true rfl) rfl ?_
  intro p e s m args below meth c H locs ls hM hC hl
  obtain ⟨hx, hb, hr, hml, hown, hts, hg, hs, hlk, hnm⟩ := id hM
  unfold wp_X7_init at hw
  refine lv_aload_n hx hb dX7_init_0 rfl (lo_at hl 0 rfl) ?_
  refine r_oi hx hb hown (hts _ mk_m_RX7_3) (hts _ mk_oi_i) (hts _ mk_oi_c) (by rw [hml]; exact hl.1.1) dX7_init_1 (Nat.le_of_ble_eq_true rfl) (Nat.le_of_ble_eq_true rfl) ?_
  refine lv_aload_n hx hb dX7_init_4 rfl (lo_at hl 0 rfl) ?_
  refine lv_bipush (v := 16) hx hb dX7_init_5 (by decide) ?_
  obtain ⟨k4, hw⟩ := hw
  obtain ⟨q1, k3, hw⟩ := hw
  refine s_newI (N := 16) hx hb hts mk_arc_int hg hC q1 k3 (by decide) rfl (by decide) (Nat.le_of_ble_eq_true rfl) (Nat.le_of_ble_eq_true rfl) dX7_init_7 (fun A5 h2 H eh2 hE hC => ?_)
  replace hw := hw h2 eh2
  have e6 : A o = A5 o := ((hE _ (k4 _ rfl)).2).symm
  try rw [e6] at hl
  try rw [e6]
  refine W.widen (k := 1) (n := 16) (Nat.le_of_ble_eq_true rfl) (Nat.le_of_ble_eq_true rfl) ?_
  obtain ⟨k7, hw⟩ := hw
  obtain ⟨k9, hw⟩ := hw
  refine s_putFR (v := some q1) hx hb hts hown hnm hg hC fb_5_0 k7 k9 (nv_a) (fv_a) mk_f_RX7_9 dX7_init_9 (fun h8 H locs eh8 hC => ?_)
  replace hw := hw h8 eh8
  refine lv_aload_n hx hb dX7_init_12 rfl (lo_at hl 0 rfl) ?_
  refine lv_bipush (v := 16) hx hb dX7_init_13 (by decide) ?_
  obtain ⟨k13, hw⟩ := hw
  obtain ⟨q10, k12, hw⟩ := hw
  refine s_newI (N := 16) hx hb hts mk_arc_int hg hC q10 k12 (by decide) rfl (by decide) (Nat.le_of_ble_eq_true rfl) (Nat.le_of_ble_eq_true rfl) dX7_init_15 (fun A14 h11 H eh11 hE hC => ?_)
  replace hw := hw h11 eh11
  have e15 : A5 o = A14 o := ((hE _ (k13 _ rfl)).2).symm
  try rw [e15] at hl
  try rw [e15]
  refine W.widen (k := 2) (n := 32) (Nat.le_of_ble_eq_true rfl) (Nat.le_of_ble_eq_true rfl) ?_
  obtain ⟨k16, hw⟩ := hw
  obtain ⟨k18, hw⟩ := hw
  refine s_putFR (v := some q10) hx hb hts hown hnm hg hC fb_5_1 k16 k18 (nv_a) (fv_a) mk_f_RX7_15 dX7_init_17 (fun h17 H locs eh17 hC => ?_)
  replace hw := hw h17 eh17
  refine lv_aload_n hx hb dX7_init_20 rfl (lo_at hl 0 rfl) ?_
  refine lv_bipush (v := 16) hx hb dX7_init_21 (by decide) ?_
  obtain ⟨k22, hw⟩ := hw
  obtain ⟨q19, k21, hw⟩ := hw
  refine s_newI (N := 16) hx hb hts mk_arc_int hg hC q19 k21 (by decide) rfl (by decide) (Nat.le_of_ble_eq_true rfl) (Nat.le_of_ble_eq_true rfl) dX7_init_23 (fun A23 h20 H eh20 hE hC => ?_)
  replace hw := hw h20 eh20
  have e24 : A14 o = A23 o := ((hE _ (k22 _ rfl)).2).symm
  try rw [e24] at hl
  try rw [e24]
  refine W.widen (k := 3) (n := 48) (Nat.le_of_ble_eq_true rfl) (Nat.le_of_ble_eq_true rfl) ?_
  obtain ⟨k25, hw⟩ := hw
  obtain ⟨k27, hw⟩ := hw
  refine s_putFR (v := some q19) hx hb hts hown hnm hg hC fb_5_2 k25 k27 (nv_a) (fv_a) mk_f_RX7_18 dX7_init_25 (fun h26 H locs eh26 hC => ?_)
  replace hw := hw h26 eh26
  refine lv_aload_n hx hb dX7_init_28 rfl (lo_at hl 0 rfl) ?_
  refine lv_bipush (v := 16) hx hb dX7_init_29 (by decide) ?_
  obtain ⟨k31, hw⟩ := hw
  obtain ⟨q28, k30, hw⟩ := hw
  refine s_newI (N := 16) hx hb hts mk_arc_int hg hC q28 k30 (by decide) rfl (by decide) (Nat.le_of_ble_eq_true rfl) (Nat.le_of_ble_eq_true rfl) dX7_init_31 (fun A32 h29 H eh29 hE hC => ?_)
  replace hw := hw h29 eh29
  have e33 : A23 o = A32 o := ((hE _ (k31 _ rfl)).2).symm
  try rw [e33] at hl
  try rw [e33]
  refine W.widen (k := 4) (n := 64) (Nat.le_of_ble_eq_true rfl) (Nat.le_of_ble_eq_true rfl) ?_
  obtain ⟨k34, hw⟩ := hw
  obtain ⟨k36, hw⟩ := hw
  refine s_putFR (v := some q28) hx hb hts hown hnm hg hC fb_5_3 k34 k36 (nv_a) (fv_a) mk_f_RX7_21 dX7_init_33 (fun h35 H locs eh35 hC => ?_)
  replace hw := hw h35 eh35
  refine lv_aload_n hx hb dX7_init_36 rfl (lo_at hl 0 rfl) ?_
  refine lv_sipush (v := 600) hx hb dX7_init_37 (by decide) ?_
  obtain ⟨k40, hw⟩ := hw
  obtain ⟨q37, k39, hw⟩ := hw
  refine s_newI (N := 600) hx hb hts mk_arc_int hg hC q37 k39 (by decide) rfl (by decide) (Nat.le_of_ble_eq_true rfl) (Nat.le_of_ble_eq_true rfl) dX7_init_40 (fun A41 h38 H eh38 hE hC => ?_)
  replace hw := hw h38 eh38
  have e42 : A32 o = A41 o := ((hE _ (k40 _ rfl)).2).symm
  try rw [e42] at hl
  try rw [e42]
  refine W.widen (k := 5) (n := 664) (Nat.le_of_ble_eq_true rfl) (Nat.le_of_ble_eq_true rfl) ?_
  obtain ⟨k43, hw⟩ := hw
  obtain ⟨k45, hw⟩ := hw
  refine s_putFR (v := some q37) hx hb hts hown hnm hg hC fb_5_4 k43 k45 (nv_a) (fv_a) mk_f_RX7_24 dX7_init_42 (fun h44 H locs eh44 hC => ?_)
  replace hw := hw h44 eh44
  refine lv_aload_n hx hb dX7_init_45 rfl (lo_at hl 0 rfl) ?_
  refine lv_bipush (v := 32) hx hb dX7_init_46 (by decide) ?_
  obtain ⟨k49, hw⟩ := hw
  obtain ⟨q46, k48, hw⟩ := hw
  refine s_newI (N := 32) hx hb hts mk_arc_int hg hC q46 k48 (by decide) rfl (by decide) (Nat.le_of_ble_eq_true rfl) (Nat.le_of_ble_eq_true rfl) dX7_init_48 (fun A50 h47 H eh47 hE hC => ?_)
  replace hw := hw h47 eh47
  have e51 : A41 o = A50 o := ((hE _ (k49 _ rfl)).2).symm
  try rw [e51] at hl
  try rw [e51]
  refine W.widen (k := 6) (n := 696) (Nat.le_of_ble_eq_true rfl) (Nat.le_of_ble_eq_true rfl) ?_
  obtain ⟨k52, hw⟩ := hw
  obtain ⟨k54, hw⟩ := hw
  refine s_putFR (v := some q46) hx hb hts hown hnm hg hC fb_5_5 k52 k54 (nv_a) (fv_a) mk_f_RX7_27 dX7_init_50 (fun h53 H locs eh53 hC => ?_)
  replace hw := hw h53 eh53
  exact ret2_va hM hC hw dX7_init_53
abbrev rm_X7_clear : Room := { frames := 0, cells := 0, slots := 0, locals := 0 }
set_option maxRecDepth 100000 in
def wp_X7_clear (o : Nat) (h : Hp) (Q : Hp → Prop) : Prop := ((hpK h o).1 = 20 + 5) ∧ (∀ h2 : Hp, h2 = stI h o 6 (0 : Int32) → (((hpK h2 o).1 = 20 + 5) ∧ (∀ h4 : Hp, h4 = stI h2 o 7 (0 : Int32) → (((hpK h4 o).1 = 20 + 5) ∧ (∀ h6 : Hp, h6 = stI h4 o 8 (0 : Int32) → (Q h6))))))
set_option maxHeartbeats 4000000 in
set_option maxRecDepth 100000 in
theorem c_X7_clear (l : Launch) (G : GG) (base : Nat) (A : Nat → Nat) (o : Nat) (h : Hp) (Q : Hp → Prop) (hw : wp_X7_clear o h Q) : Met l yX7_clear (ww yX7_clear cX7_clear 1 none) rm_X7_clear (va_Pc [.ref (A o)] (PU2 G base A h A h)) (va_Qv Q (PU2 G base A h A) (fun q => base ≤ q)) 0 0 (fun q => base ≤ q) := by
  refine met2_of (own := RX7) (nm := "clear") (by decide) rfl rfl (List.forall_mem_cons.mpr ⟨rfl, (fun _ h => absurd h List.not_mem_nil)⟩) (Nat.le_of_ble_eq_true rfl) rfl ?_
  intro p e s m args below meth c H locs ls hM hC hl
  obtain ⟨hx, hb, hr, hml, hown, hts, hg, hs, hlk, hnm⟩ := id hM
  unfold wp_X7_clear at hw
  refine lv_aload_n hx hb dX7_clear_0 rfl (lo_at hl 0 rfl) ?_
  refine lv_iconst (v := 0) hx hb dX7_clear_1 (by decide) ?_
  obtain ⟨k1, hw⟩ := hw
  refine s_putI hx hb hts hown hg hC fb_5_6 k1 rfl rfl mk_f_RX7_30 dX7_clear_2 (fun h2 H locs eh2 hC => ?_)
  replace hw := hw h2 eh2
  refine lv_aload_n hx hb dX7_clear_5 rfl (lo_at hl 0 rfl) ?_
  refine lv_iconst (v := 0) hx hb dX7_clear_6 (by decide) ?_
  obtain ⟨k3, hw⟩ := hw
  refine s_putI hx hb hts hown hg hC fb_5_7 k3 rfl rfl mk_f_RX7_34 dX7_clear_7 (fun h4 H locs eh4 hC => ?_)
  replace hw := hw h4 eh4
  refine lv_aload_n hx hb dX7_clear_10 rfl (lo_at hl 0 rfl) ?_
  refine lv_iconst (v := 0) hx hb dX7_clear_11 (by decide) ?_
  obtain ⟨k5, hw⟩ := hw
  refine s_putI hx hb hts hown hg hC fb_5_8 k5 rfl rfl mk_f_RX7_37 dX7_clear_12 (fun h6 H locs eh6 hC => ?_)
  replace hw := hw h6 eh6
  exact ret2_v hM hC hw dX7_clear_15
abbrev rm_X7_isFull : Room := { frames := 0, cells := 0, slots := 0, locals := 0 }
set_option maxRecDepth 100000 in
def wp_X7_isFull (o : Nat) (h : Hp) (Q : Int32 → Hp → Prop) : Prop := ((hpK h o).1 = 20 + 5) ∧ ((if (hpI h o 7) < (16 : Int32) then (Q (0 : Int32) h) else (Q (1 : Int32) h)))
set_option maxHeartbeats 4000000 in
set_option maxRecDepth 100000 in
theorem c_X7_isFull (l : Launch) (G : GG) (base : Nat) (A : Nat → Nat) (o : Nat) (h : Hp) (Q : Int32 → Hp → Prop) (hw : wp_X7_isFull o h Q) : Met l yX7_isFull (ww yX7_isFull cX7_isFull 1 (some .boolean)) rm_X7_isFull (va_Pc [.ref (A o)] (PU2 G base A h A h)) (va_Qi Q (PU2 G base A h A) (fun q => base ≤ q)) 0 0 (fun q => base ≤ q) := by
  refine met2_of (own := RX7) (nm := "isFull") (by decide) rfl rfl (List.forall_mem_cons.mpr ⟨rfl, (fun _ h => absurd h List.not_mem_nil)⟩) (Nat.le_of_ble_eq_true rfl) rfl ?_
  intro p e s m args below meth c H locs ls hM hC hl
  obtain ⟨hx, hb, hr, hml, hown, hts, hg, hs, hlk, hnm⟩ := id hM
  unfold wp_X7_isFull at hw
  refine lv_aload_n hx hb dX7_isFull_0 rfl (lo_at hl 0 rfl) ?_
  obtain ⟨k1, hw⟩ := hw
  refine s_getI hx hb hts hown hg hC fb_5_7 k1 mk_f_RX7_34 dX7_isFull_1 ?_
  refine lv_bipush (v := 16) hx hb dX7_isFull_4 (by decide) ?_
  refine lv_icmp_lt (tgt := 13) hx hb dX7_isFull_6 (by decide) (fun c2 => ?_) (fun c2 => ?_)
  ·
    replace hw := (if_pos c2).mp hw
    refine lv_iconst (v := 0) hx hb dX7_isFull_13 (by decide) ?_
    exact ret2_t hM hC rfl hw dX7_isFull_14
  ·
    replace hw := (if_neg c2).mp hw
    refine lv_iconst (v := 1) hx hb dX7_isFull_9 (by decide) ?_
    refine lv_goto (tgt := 14) hx hb dX7_isFull_10 (by decide) ?_
    exact ret2_t hM hC rfl hw dX7_isFull_14
abbrev rm_X7_beginLine : Room := { frames := 1, cells := 0, slots := 0, locals := 20 }
set_option maxRecDepth 100000 in
def wp_X7_beginLine (o : Nat) (x1 : Int32) (h : Hp) (Q : Hp → Prop) : Prop := ((hpK h o).1 = 20 + 5) ∧ (wp_X7_isFull o h (fun (z3 : Int32) (h2 : Hp) => (if z3 = 0 then (((hpK h2 o).1 = 20 + 5) ∧ (okA h2 (hpR h2 o 0) 1 (hpI h2 o 7) ∧ (∀ h7 : Hp, h7 = stI h2 (ad (hpR h2 o 0)) (hpI h2 o 7).toNatClampNeg x1 → (((hpK h7 o).1 = 20 + 5) ∧ (okA h7 (hpR h7 o 1) 1 (hpI h7 o 7) ∧ (∀ h10 : Hp, h10 = stI h7 (ad (hpR h7 o 1)) (hpI h7 o 7).toNatClampNeg (hpI h7 o 6) → (((hpK h10 o).1 = 20 + 5) ∧ (okA h10 (hpR h10 o 2) 1 (hpI h10 o 7) ∧ (∀ h13 : Hp, h13 = stI h10 (ad (hpR h10 o 2)) (hpI h10 o 7).toNatClampNeg (hpI h10 o 6) → (Q h13)))))))))) else (Q h2))))
set_option maxHeartbeats 4000000 in
set_option maxRecDepth 100000 in
theorem c_X7_beginLine (l : Launch) (G : GG) (base : Nat) (A : Nat → Nat) (o : Nat) (x1 : Int32) (h : Hp) (Q : Hp → Prop) (hw : wp_X7_beginLine o x1 h Q) : Met l yX7_beginLine (ww yX7_beginLine cX7_beginLine 2 none) rm_X7_beginLine (va_Pc [.ref (A o), .int x1] (PU2 G base A h A h)) (va_Qv Q (PU2 G base A h A) (fun q => base ≤ q)) 0 0 (fun q => base ≤ q) := by
  refine met2_of (own := RX7) (nm := "beginLine") (by decide) rfl rfl (List.forall_mem_cons.mpr ⟨rfl, (List.forall_mem_cons.mpr ⟨rfl, (fun _ h => absurd h List.not_mem_nil)⟩)⟩) (Nat.le_of_ble_eq_true rfl) rfl ?_
  intro p e s m args below meth c H locs ls hM hC hl
  obtain ⟨hx, hb, hr, hml, hown, hts, hg, hs, hlk, hnm⟩ := id hM
  unfold wp_X7_beginLine at hw
  refine lv_aload_n hx hb dX7_beginLine_0 rfl (lo_at hl 0 rfl) ?_
  obtain ⟨k1, hw⟩ := hw
  refine res2_i hC (run2_V (As := []) (rest := []) hM hC hl.1.1 kv_RX7_41 (c_X7_isFull l G base A o h _ hw) (hc_5) k1 rfl rfl rfl ⟨Nat.le_of_ble_eq_true rfl, Nat.le_of_ble_eq_true rfl⟩ (Nat.le_of_ble_eq_true rfl) ⟨Nat.le_of_ble_eq_true rfl, Nat.le_of_ble_eq_true rfl⟩ dX7_beginLine_1) (fun z3 h2 H locs hw hC => ?_)
  refine lv_if_ne (tgt := 43) hx hb dX7_beginLine_4 (by decide) (fun c4 => ?_) (fun c4 => ?_)
  ·
    replace hw := (if_neg c4).mp hw
    exact ret2_v hM hC hw dX7_beginLine_43
  ·
    replace hw := (if_pos c4).mp hw
    refine lv_aload_n hx hb dX7_beginLine_7 rfl (lo_at hl 0 rfl) ?_
    obtain ⟨k5, hw⟩ := hw
    refine s_getR hx hb hts hown hg hC fb_5_0 k5 mk_f_RX7_9 dX7_beginLine_8 ?_
    refine lv_aload_n hx hb dX7_beginLine_11 rfl (lo_at hl 0 rfl) ?_
    refine s_getI hx hb hts hown hg hC fb_5_7 k5 mk_f_RX7_34 dX7_beginLine_12 ?_
    refine lv_iload_n hx hb dX7_beginLine_15 rfl (lo_at hl 1 rfl) ?_
    obtain ⟨k6, hw⟩ := hw
    refine sf_3 k6.1 ?_
    refine s_iast hx hb hg hC k6.2.1 k6.2.2 dX7_beginLine_16 (fun h7 H locs eh7 hC => ?_)
    replace hw := hw h7 eh7
    refine lv_aload_n hx hb dX7_beginLine_17 rfl (lo_at hl 0 rfl) ?_
    obtain ⟨k8, hw⟩ := hw
    refine s_getR hx hb hts hown hg hC fb_5_1 k8 mk_f_RX7_15 dX7_beginLine_18 ?_
    refine lv_aload_n hx hb dX7_beginLine_21 rfl (lo_at hl 0 rfl) ?_
    refine s_getI hx hb hts hown hg hC fb_5_7 k8 mk_f_RX7_34 dX7_beginLine_22 ?_
    refine lv_aload_n hx hb dX7_beginLine_25 rfl (lo_at hl 0 rfl) ?_
    refine s_getI hx hb hts hown hg hC fb_5_6 k8 mk_f_RX7_30 dX7_beginLine_26 ?_
    obtain ⟨k9, hw⟩ := hw
    refine sf_3 k9.1 ?_
    refine s_iast hx hb hg hC k9.2.1 k9.2.2 dX7_beginLine_29 (fun h10 H locs eh10 hC => ?_)
    replace hw := hw h10 eh10
    refine lv_aload_n hx hb dX7_beginLine_30 rfl (lo_at hl 0 rfl) ?_
    obtain ⟨k11, hw⟩ := hw
    refine s_getR hx hb hts hown hg hC fb_5_2 k11 mk_f_RX7_18 dX7_beginLine_31 ?_
    refine lv_aload_n hx hb dX7_beginLine_34 rfl (lo_at hl 0 rfl) ?_
    refine s_getI hx hb hts hown hg hC fb_5_7 k11 mk_f_RX7_34 dX7_beginLine_35 ?_
    refine lv_aload_n hx hb dX7_beginLine_38 rfl (lo_at hl 0 rfl) ?_
    refine s_getI hx hb hts hown hg hC fb_5_6 k11 mk_f_RX7_30 dX7_beginLine_39 ?_
    obtain ⟨k12, hw⟩ := hw
    refine sf_3 k12.1 ?_
    refine s_iast hx hb hg hC k12.2.1 k12.2.2 dX7_beginLine_42 (fun h13 H locs eh13 hC => ?_)
    replace hw := hw h13 eh13
    exact ret2_v hM hC hw dX7_beginLine_43
abbrev rm_X7_beginClaim : Room := { frames := 1, cells := 0, slots := 0, locals := 20 }
set_option maxRecDepth 100000 in
def wp_X7_beginClaim (o : Nat) (h : Hp) (Q : Hp → Prop) : Prop := ((hpK h o).1 = 20 + 5) ∧ (wp_X7_isFull o h (fun (z3 : Int32) (h2 : Hp) => (if z3 = 0 then (((hpK h2 o).1 = 20 + 5) ∧ (okA h2 (hpR h2 o 2) 1 (hpI h2 o 7) ∧ (∀ h7 : Hp, h7 = stI h2 (ad (hpR h2 o 2)) (hpI h2 o 7).toNatClampNeg (hpI h2 o 6) → (Q h7)))) else (Q h2))))
set_option maxHeartbeats 4000000 in
set_option maxRecDepth 100000 in
theorem c_X7_beginClaim (l : Launch) (G : GG) (base : Nat) (A : Nat → Nat) (o : Nat) (h : Hp) (Q : Hp → Prop) (hw : wp_X7_beginClaim o h Q) : Met l yX7_beginClaim (ww yX7_beginClaim cX7_beginClaim 1 none) rm_X7_beginClaim (va_Pc [.ref (A o)] (PU2 G base A h A h)) (va_Qv Q (PU2 G base A h A) (fun q => base ≤ q)) 0 0 (fun q => base ≤ q) := by
  refine met2_of (own := RX7) (nm := "beginClaim") (by decide) rfl rfl (List.forall_mem_cons.mpr ⟨rfl, (fun _ h => absurd h List.not_mem_nil)⟩) (Nat.le_of_ble_eq_true rfl) rfl ?_
  intro p e s m args below meth c H locs ls hM hC hl
  obtain ⟨hx, hb, hr, hml, hown, hts, hg, hs, hlk, hnm⟩ := id hM
  unfold wp_X7_beginClaim at hw
  refine lv_aload_n hx hb dX7_beginClaim_0 rfl (lo_at hl 0 rfl) ?_
  obtain ⟨k1, hw⟩ := hw
  refine res2_i hC (run2_V (As := []) (rest := []) hM hC hl.1.1 kv_RX7_41 (c_X7_isFull l G base A o h _ hw) (hc_5) k1 rfl rfl rfl ⟨Nat.le_of_ble_eq_true rfl, Nat.le_of_ble_eq_true rfl⟩ (Nat.le_of_ble_eq_true rfl) ⟨Nat.le_of_ble_eq_true rfl, Nat.le_of_ble_eq_true rfl⟩ dX7_beginClaim_1) (fun z3 h2 H locs hw hC => ?_)
  refine lv_if_ne (tgt := 20) hx hb dX7_beginClaim_4 (by decide) (fun c4 => ?_) (fun c4 => ?_)
  ·
    replace hw := (if_neg c4).mp hw
    exact ret2_v hM hC hw dX7_beginClaim_20
  ·
    replace hw := (if_pos c4).mp hw
    refine lv_aload_n hx hb dX7_beginClaim_7 rfl (lo_at hl 0 rfl) ?_
    obtain ⟨k5, hw⟩ := hw
    refine s_getR hx hb hts hown hg hC fb_5_2 k5 mk_f_RX7_18 dX7_beginClaim_8 ?_
    refine lv_aload_n hx hb dX7_beginClaim_11 rfl (lo_at hl 0 rfl) ?_
    refine s_getI hx hb hts hown hg hC fb_5_7 k5 mk_f_RX7_34 dX7_beginClaim_12 ?_
    refine lv_aload_n hx hb dX7_beginClaim_15 rfl (lo_at hl 0 rfl) ?_
    refine s_getI hx hb hts hown hg hC fb_5_6 k5 mk_f_RX7_30 dX7_beginClaim_16 ?_
    obtain ⟨k6, hw⟩ := hw
    refine sf_3 k6.1 ?_
    refine s_iast hx hb hg hC k6.2.1 k6.2.2 dX7_beginClaim_19 (fun h7 H locs eh7 hC => ?_)
    replace hw := hw h7 eh7
    exact ret2_v hM hC hw dX7_beginClaim_20
abbrev rm_X7_finishLine : Room := { frames := 1, cells := 0, slots := 0, locals := 20 }
set_option maxRecDepth 100000 in
def wp_X7_finishLine (o : Nat) (h : Hp) (Q : Hp → Prop) : Prop := ((hpK h o).1 = 20 + 5) ∧ (wp_X7_isFull o h (fun (z3 : Int32) (h2 : Hp) => (if z3 = 0 then (((hpK h2 o).1 = 20 + 5) ∧ (okA h2 (hpR h2 o 3) 1 (hpI h2 o 7) ∧ (∀ h7 : Hp, h7 = stI h2 (ad (hpR h2 o 3)) (hpI h2 o 7).toNatClampNeg (hpI h2 o 6) → (((hpK h7 o).1 = 20 + 5) ∧ (∀ h9 : Hp, h9 = stI h7 o 7 ((hpI h7 o 7) + (1 : Int32)) → (Q h9)))))) else (Q h2))))
set_option maxHeartbeats 4000000 in
set_option maxRecDepth 100000 in
theorem c_X7_finishLine (l : Launch) (G : GG) (base : Nat) (A : Nat → Nat) (o : Nat) (h : Hp) (Q : Hp → Prop) (hw : wp_X7_finishLine o h Q) : Met l yX7_finishLine (ww yX7_finishLine cX7_finishLine 1 none) rm_X7_finishLine (va_Pc [.ref (A o)] (PU2 G base A h A h)) (va_Qv Q (PU2 G base A h A) (fun q => base ≤ q)) 0 0 (fun q => base ≤ q) := by
  refine met2_of (own := RX7) (nm := "finishLine") (by decide) rfl rfl (List.forall_mem_cons.mpr ⟨rfl, (fun _ h => absurd h List.not_mem_nil)⟩) (Nat.le_of_ble_eq_true rfl) rfl ?_
  intro p e s m args below meth c H locs ls hM hC hl
  obtain ⟨hx, hb, hr, hml, hown, hts, hg, hs, hlk, hnm⟩ := id hM
  unfold wp_X7_finishLine at hw
  refine lv_aload_n hx hb dX7_finishLine_0 rfl (lo_at hl 0 rfl) ?_
  obtain ⟨k1, hw⟩ := hw
  refine res2_i hC (run2_V (As := []) (rest := []) hM hC hl.1.1 kv_RX7_41 (c_X7_isFull l G base A o h _ hw) (hc_5) k1 rfl rfl rfl ⟨Nat.le_of_ble_eq_true rfl, Nat.le_of_ble_eq_true rfl⟩ (Nat.le_of_ble_eq_true rfl) ⟨Nat.le_of_ble_eq_true rfl, Nat.le_of_ble_eq_true rfl⟩ dX7_finishLine_1) (fun z3 h2 H locs hw hC => ?_)
  refine lv_if_ne (tgt := 30) hx hb dX7_finishLine_4 (by decide) (fun c4 => ?_) (fun c4 => ?_)
  ·
    replace hw := (if_neg c4).mp hw
    exact ret2_v hM hC hw dX7_finishLine_30
  ·
    replace hw := (if_pos c4).mp hw
    refine lv_aload_n hx hb dX7_finishLine_7 rfl (lo_at hl 0 rfl) ?_
    obtain ⟨k5, hw⟩ := hw
    refine s_getR hx hb hts hown hg hC fb_5_3 k5 mk_f_RX7_21 dX7_finishLine_8 ?_
    refine lv_aload_n hx hb dX7_finishLine_11 rfl (lo_at hl 0 rfl) ?_
    refine s_getI hx hb hts hown hg hC fb_5_7 k5 mk_f_RX7_34 dX7_finishLine_12 ?_
    refine lv_aload_n hx hb dX7_finishLine_15 rfl (lo_at hl 0 rfl) ?_
    refine s_getI hx hb hts hown hg hC fb_5_6 k5 mk_f_RX7_30 dX7_finishLine_16 ?_
    obtain ⟨k6, hw⟩ := hw
    refine sf_3 k6.1 ?_
    refine s_iast hx hb hg hC k6.2.1 k6.2.2 dX7_finishLine_19 (fun h7 H locs eh7 hC => ?_)
    replace hw := hw h7 eh7
    refine lv_aload_n hx hb dX7_finishLine_20 rfl (lo_at hl 0 rfl) ?_
    refine lv_dup hx hb dX7_finishLine_21 rfl ?_
    obtain ⟨k8, hw⟩ := hw
    refine s_getI hx hb hts hown hg hC fb_5_7 k8 mk_f_RX7_34 dX7_finishLine_22 ?_
    refine lv_iconst (v := 1) hx hb dX7_finishLine_25 (by decide) ?_
    refine lv_iadd hx hb dX7_finishLine_26 ?_
    refine s_putI hx hb hts hown hg hC fb_5_7 k8 rfl rfl mk_f_RX7_34 dX7_finishLine_27 (fun h9 H locs eh9 hC => ?_)
    replace hw := hw h9 eh9
    exact ret2_v hM hC hw dX7_finishLine_30
abbrev rm_X7_put : Room := { frames := 0, cells := 0, slots := 0, locals := 0 }
set_option maxRecDepth 100000 in
def wp_X7_put (o : Nat) (x1 : Int32) (h : Hp) (Q : Hp → Prop) : Prop := ((hpK h o).1 = 20 + 5) ∧ (okN h (hpR h o 4) 1 ∧ ((if (nI (hpK h (ad (hpR h o 4))).2) ≤ (hpI h o 6) then (Q h) else (okA h (hpR h o 4) 1 (hpI h o 6) ∧ (∀ h5 : Hp, h5 = stI h (ad (hpR h o 4)) (hpI h o 6).toNatClampNeg x1 → (((hpK h5 o).1 = 20 + 5) ∧ (∀ h7 : Hp, h7 = stI h5 o 6 ((hpI h5 o 6) + (1 : Int32)) → (((hpK h7 o).1 = 20 + 5) ∧ ((if (hpI h7 o 8) = 0 then ((if x1 = (276 : Int32) then (∀ h15 : Hp, h15 = stI h7 o 8 (1 : Int32) → (Q h15)) else (∀ h13 : Hp, h13 = stI h7 o 8 (0 : Int32) → (Q h13)))) else (∀ h10 : Hp, h10 = stI h7 o 8 (1 : Int32) → (Q h10))))))))))))
set_option maxHeartbeats 4000000 in
set_option maxRecDepth 100000 in
theorem c_X7_put (l : Launch) (G : GG) (base : Nat) (A : Nat → Nat) (o : Nat) (x1 : Int32) (h : Hp) (Q : Hp → Prop) (hw : wp_X7_put o x1 h Q) : Met l yX7_put (ww yX7_put cX7_put 2 none) rm_X7_put (va_Pc [.ref (A o), .int x1] (PU2 G base A h A h)) (va_Qv Q (PU2 G base A h A) (fun q => base ≤ q)) 0 0 (fun q => base ≤ q) := by
  refine met2_of (own := RX7) (nm := "put") (by decide) rfl rfl (List.forall_mem_cons.mpr ⟨rfl, (List.forall_mem_cons.mpr ⟨rfl, (fun _ h => absurd h List.not_mem_nil)⟩)⟩) (Nat.le_of_ble_eq_true rfl) rfl ?_
  intro p e s m args below meth c H locs ls hM hC hl
  obtain ⟨hx, hb, hr, hml, hown, hts, hg, hs, hlk, hnm⟩ := id hM
  unfold wp_X7_put at hw
  refine lv_aload_n hx hb dX7_put_0 rfl (lo_at hl 0 rfl) ?_
  obtain ⟨k1, hw⟩ := hw
  refine s_getI hx hb hts hown hg hC fb_5_6 k1 mk_f_RX7_30 dX7_put_1 ?_
  refine lv_aload_n hx hb dX7_put_4 rfl (lo_at hl 0 rfl) ?_
  refine s_getR hx hb hts hown hg hC fb_5_4 k1 mk_f_RX7_24 dX7_put_5 ?_
  obtain ⟨k2, hw⟩ := hw
  refine sf_1 k2.1 ?_
  refine s_alen hx hb hg hC k2.2 dX7_put_8 ?_
  refine lv_icmp_ge (tgt := 55) hx hb dX7_put_9 (by decide) (fun c3 => ?_) (fun c3 => ?_)
  ·
    replace hw := (if_pos c3).mp hw
    exact ret2_v hM hC hw dX7_put_55
  ·
    replace hw := (if_neg c3).mp hw
    refine lv_aload_n hx hb dX7_put_12 rfl (lo_at hl 0 rfl) ?_
    refine s_getR hx hb hts hown hg hC fb_5_4 k1 mk_f_RX7_24 dX7_put_13 ?_
    refine lv_aload_n hx hb dX7_put_16 rfl (lo_at hl 0 rfl) ?_
    refine s_getI hx hb hts hown hg hC fb_5_6 k1 mk_f_RX7_30 dX7_put_17 ?_
    refine lv_iload_n hx hb dX7_put_20 rfl (lo_at hl 1 rfl) ?_
    obtain ⟨k4, hw⟩ := hw
    refine sf_3 k4.1 ?_
    refine s_iast hx hb hg hC k4.2.1 k4.2.2 dX7_put_21 (fun h5 H locs eh5 hC => ?_)
    replace hw := hw h5 eh5
    refine lv_aload_n hx hb dX7_put_22 rfl (lo_at hl 0 rfl) ?_
    refine lv_dup hx hb dX7_put_23 rfl ?_
    obtain ⟨k6, hw⟩ := hw
    refine s_getI hx hb hts hown hg hC fb_5_6 k6 mk_f_RX7_30 dX7_put_24 ?_
    refine lv_iconst (v := 1) hx hb dX7_put_27 (by decide) ?_
    refine lv_iadd hx hb dX7_put_28 ?_
    refine s_putI hx hb hts hown hg hC fb_5_6 k6 rfl rfl mk_f_RX7_30 dX7_put_29 (fun h7 H locs eh7 hC => ?_)
    replace hw := hw h7 eh7
    refine lv_aload_n hx hb dX7_put_32 rfl (lo_at hl 0 rfl) ?_
    refine lv_aload_n hx hb dX7_put_33 rfl (lo_at hl 0 rfl) ?_
    obtain ⟨k8, hw⟩ := hw
    refine s_getI hx hb hts hown hg hC fb_5_8 k8 mk_f_RX7_37 dX7_put_34 ?_
    refine lv_if_ne (tgt := 47) hx hb dX7_put_37 (by decide) (fun c9 => ?_) (fun c9 => ?_)
    ·
      replace hw := (if_neg c9).mp hw
      refine lv_iconst (v := 1) hx hb dX7_put_47 (by decide) ?_
      refine lv_goto (tgt := 52) hx hb dX7_put_48 (by decide) ?_
      refine s_putI hx hb hts hown hg hC fb_5_8 k8 rfl rfl mk_f_RX7_37 dX7_put_52 (fun h10 H locs eh10 hC => ?_)
      replace hw := hw h10 eh10
      exact ret2_v hM hC hw dX7_put_55
    ·
      replace hw := (if_pos c9).mp hw
      refine lv_iload_n hx hb dX7_put_40 rfl (lo_at hl 1 rfl) ?_
      refine lv_sipush (v := 276) hx hb dX7_put_41 (by decide) ?_
      refine lv_icmp_ne (tgt := 51) hx hb dX7_put_44 (by decide) (fun c12 => ?_) (fun c12 => ?_)
      ·
        replace hw := (if_neg c12).mp hw
        refine lv_iconst (v := 0) hx hb dX7_put_51 (by decide) ?_
        refine s_putI hx hb hts hown hg hC fb_5_8 k8 rfl rfl mk_f_RX7_37 dX7_put_52 (fun h13 H locs eh13 hC => ?_)
        replace hw := hw h13 eh13
        exact ret2_v hM hC hw dX7_put_55
      ·
        replace hw := (if_pos c12).mp hw
        refine lv_iconst (v := 1) hx hb dX7_put_47 (by decide) ?_
        refine lv_goto (tgt := 52) hx hb dX7_put_48 (by decide) ?_
        refine s_putI hx hb hts hown hg hC fb_5_8 k8 rfl rfl mk_f_RX7_37 dX7_put_52 (fun h15 H locs eh15 hC => ?_)
        replace hw := hw h15 eh15
        exact ret2_v hM hC hw dX7_put_55
abbrev rm_X7_combined : Room := { frames := 0, cells := 0, slots := 0, locals := 0 }
set_option maxRecDepth 100000 in
def wp_X7_combined (x0 : Int32) (x1 : Int32) (x2 : Int32) (h : Hp) (Q : Int32 → Hp → Prop) : Prop := (if x0 = (42 : Int32) then (Q (x1 * x2) h) else if x0 = (43 : Int32) then (Q (x1 + x2) h) else if x0 = (45 : Int32) then (Q (x1 - x2) h) else if x0 = (47 : Int32) then ((if x2 = 0 then (Q (0 : Int32) h) else ((¬ x2 = 0) ∧ (Q (x1 / x2) h)))) else if x0 = (60 : Int32) then ((if x2 ≤ x1 then (Q (0 : Int32) h) else (Q (1 : Int32) h))) else if x0 = (61 : Int32) then ((if x1 = x2 then (Q (1 : Int32) h) else (Q (0 : Int32) h))) else if x0 = (62 : Int32) then ((if x1 ≤ x2 then (Q (0 : Int32) h) else (Q (1 : Int32) h))) else if x0 = (256 : Int32) then (Q (x1 ||| x2) h) else if x0 = (257 : Int32) then (Q (x1 &&& x2) h) else Q (0 : Int32) h)
set_option maxHeartbeats 4000000 in
set_option maxRecDepth 100000 in
theorem c_X7_combined (l : Launch) (G : GG) (base : Nat) (A : Nat → Nat) (x0 : Int32) (x1 : Int32) (x2 : Int32) (h : Hp) (Q : Int32 → Hp → Prop) (hw : wp_X7_combined x0 x1 x2 h Q) : Met l yX7_combined (ww yX7_combined cX7_combined 3 (some .int)) rm_X7_combined (va_Pc [.int x0, .int x1, .int x2] (PU2 G base A h A h)) (va_Qi Q (PU2 G base A h A) (fun q => base ≤ q)) 0 0 (fun q => base ≤ q) := by
  refine met2_of (own := RX7) (nm := "combined") (by decide) rfl rfl (List.forall_mem_cons.mpr ⟨rfl, (List.forall_mem_cons.mpr ⟨rfl, (List.forall_mem_cons.mpr ⟨rfl, (fun _ h => absurd h List.not_mem_nil)⟩)⟩)⟩) (Nat.le_of_ble_eq_true rfl) rfl ?_
  intro p e s m args below meth c H locs ls hM hC hl
  obtain ⟨hx, hb, hr, hml, hown, hts, hg, hs, hlk, hnm⟩ := id hM
  unfold wp_X7_combined at hw
  refine lv_iload_n hx hb dX7_combined_0 rfl (lo_at hl 0 rfl) ?_
  by_cases c1 : x0 = (42 : Int32)
  ·
    replace hw := (if_pos c1).mp hw
    refine lv_lookup (off := 91) (tgt := 92) hx hb dX7_combined_1 (by decide) (by rw [c1]; first | done | rfl) (by decide) ?_
    refine lv_iload_n hx hb dX7_combined_92 rfl (lo_at hl 1 rfl) ?_
    refine lv_iload_n hx hb dX7_combined_93 rfl (lo_at hl 2 rfl) ?_
    refine lv_imul hx hb dX7_combined_94 ?_
    exact ret2_i hM hC hw dX7_combined_95
  replace hw := (if_neg c1).mp hw
  by_cases c2 : x0 = (43 : Int32)
  ·
    replace hw := (if_pos c2).mp hw
    refine lv_lookup (off := 83) (tgt := 84) hx hb dX7_combined_1 (by decide) (by rw [c2]; first | done | rfl) (by decide) ?_
    refine lv_iload_n hx hb dX7_combined_84 rfl (lo_at hl 1 rfl) ?_
    refine lv_iload_n hx hb dX7_combined_85 rfl (lo_at hl 2 rfl) ?_
    refine lv_iadd hx hb dX7_combined_86 ?_
    exact ret2_i hM hC hw dX7_combined_87
  replace hw := (if_neg c2).mp hw
  by_cases c3 : x0 = (45 : Int32)
  ·
    replace hw := (if_pos c3).mp hw
    refine lv_lookup (off := 87) (tgt := 88) hx hb dX7_combined_1 (by decide) (by rw [c3]; first | done | rfl) (by decide) ?_
    refine lv_iload_n hx hb dX7_combined_88 rfl (lo_at hl 1 rfl) ?_
    refine lv_iload_n hx hb dX7_combined_89 rfl (lo_at hl 2 rfl) ?_
    refine lv_isub hx hb dX7_combined_90 ?_
    exact ret2_i hM hC hw dX7_combined_91
  replace hw := (if_neg c3).mp hw
  by_cases c4 : x0 = (47 : Int32)
  ·
    replace hw := (if_pos c4).mp hw
    refine lv_lookup (off := 95) (tgt := 96) hx hb dX7_combined_1 (by decide) (by rw [c4]; first | done | rfl) (by decide) ?_
    refine lv_iload_n hx hb dX7_combined_96 rfl (lo_at hl 2 rfl) ?_
    refine lv_if_ne (tgt := 104) hx hb dX7_combined_97 (by decide) (fun c5 => ?_) (fun c5 => ?_)
    ·
      replace hw := (if_neg c5).mp hw
      refine lv_iload_n hx hb dX7_combined_104 rfl (lo_at hl 1 rfl) ?_
      refine lv_iload_n hx hb dX7_combined_105 rfl (lo_at hl 2 rfl) ?_
      obtain ⟨k6, hw⟩ := hw
      refine lv_idiv hx hb dX7_combined_106 k6 ?_
      exact ret2_i hM hC hw dX7_combined_107
    ·
      replace hw := (if_pos c5).mp hw
      refine lv_iconst (v := 0) hx hb dX7_combined_100 (by decide) ?_
      refine lv_goto (tgt := 107) hx hb dX7_combined_101 (by decide) ?_
      exact ret2_i hM hC hw dX7_combined_107
  replace hw := (if_neg c4).mp hw
  by_cases c7 : x0 = (60 : Int32)
  ·
    replace hw := (if_pos c7).mp hw
    refine lv_lookup (off := 107) (tgt := 108) hx hb dX7_combined_1 (by decide) (by rw [c7]; first | done | rfl) (by decide) ?_
    refine lv_iload_n hx hb dX7_combined_108 rfl (lo_at hl 1 rfl) ?_
    refine lv_iload_n hx hb dX7_combined_109 rfl (lo_at hl 2 rfl) ?_
    refine lv_icmp_ge (tgt := 117) hx hb dX7_combined_110 (by decide) (fun c8 => ?_) (fun c8 => ?_)
    ·
      replace hw := (if_pos c8).mp hw
      refine lv_iconst (v := 0) hx hb dX7_combined_117 (by decide) ?_
      exact ret2_i hM hC hw dX7_combined_118
    ·
      replace hw := (if_neg c8).mp hw
      refine lv_iconst (v := 1) hx hb dX7_combined_113 (by decide) ?_
      refine lv_goto (tgt := 118) hx hb dX7_combined_114 (by decide) ?_
      exact ret2_i hM hC hw dX7_combined_118
  replace hw := (if_neg c7).mp hw
  by_cases c9 : x0 = (61 : Int32)
  ·
    replace hw := (if_pos c9).mp hw
    refine lv_lookup (off := 118) (tgt := 119) hx hb dX7_combined_1 (by decide) (by rw [c9]; first | done | rfl) (by decide) ?_
    refine lv_iload_n hx hb dX7_combined_119 rfl (lo_at hl 1 rfl) ?_
    refine lv_iload_n hx hb dX7_combined_120 rfl (lo_at hl 2 rfl) ?_
    refine lv_icmp_ne (tgt := 128) hx hb dX7_combined_121 (by decide) (fun c10 => ?_) (fun c10 => ?_)
    ·
      replace hw := (if_neg c10).mp hw
      refine lv_iconst (v := 0) hx hb dX7_combined_128 (by decide) ?_
      exact ret2_i hM hC hw dX7_combined_129
    ·
      replace hw := (if_pos c10).mp hw
      refine lv_iconst (v := 1) hx hb dX7_combined_124 (by decide) ?_
      refine lv_goto (tgt := 129) hx hb dX7_combined_125 (by decide) ?_
      exact ret2_i hM hC hw dX7_combined_129
  replace hw := (if_neg c9).mp hw
  by_cases c11 : x0 = (62 : Int32)
  ·
    replace hw := (if_pos c11).mp hw
    refine lv_lookup (off := 129) (tgt := 130) hx hb dX7_combined_1 (by decide) (by rw [c11]; first | done | rfl) (by decide) ?_
    refine lv_iload_n hx hb dX7_combined_130 rfl (lo_at hl 1 rfl) ?_
    refine lv_iload_n hx hb dX7_combined_131 rfl (lo_at hl 2 rfl) ?_
    refine lv_icmp_le (tgt := 139) hx hb dX7_combined_132 (by decide) (fun c12 => ?_) (fun c12 => ?_)
    ·
      replace hw := (if_pos c12).mp hw
      refine lv_iconst (v := 0) hx hb dX7_combined_139 (by decide) ?_
      exact ret2_i hM hC hw dX7_combined_140
    ·
      replace hw := (if_neg c12).mp hw
      refine lv_iconst (v := 1) hx hb dX7_combined_135 (by decide) ?_
      refine lv_goto (tgt := 140) hx hb dX7_combined_136 (by decide) ?_
      exact ret2_i hM hC hw dX7_combined_140
  replace hw := (if_neg c11).mp hw
  by_cases c13 : x0 = (256 : Int32)
  ·
    replace hw := (if_pos c13).mp hw
    refine lv_lookup (off := 144) (tgt := 145) hx hb dX7_combined_1 (by decide) (by rw [c13]; first | done | rfl) (by decide) ?_
    refine lv_iload_n hx hb dX7_combined_145 rfl (lo_at hl 1 rfl) ?_
    refine lv_iload_n hx hb dX7_combined_146 rfl (lo_at hl 2 rfl) ?_
    refine lv_ior hx hb dX7_combined_147 ?_
    exact ret2_i hM hC hw dX7_combined_148
  replace hw := (if_neg c13).mp hw
  by_cases c14 : x0 = (257 : Int32)
  ·
    replace hw := (if_pos c14).mp hw
    refine lv_lookup (off := 140) (tgt := 141) hx hb dX7_combined_1 (by decide) (by rw [c14]; first | done | rfl) (by decide) ?_
    refine lv_iload_n hx hb dX7_combined_141 rfl (lo_at hl 1 rfl) ?_
    refine lv_iload_n hx hb dX7_combined_142 rfl (lo_at hl 2 rfl) ?_
    refine lv_iand hx hb dX7_combined_143 ?_
    exact ret2_i hM hC hw dX7_combined_144
  replace hw := (if_neg c14).mp hw
  refine lv_lookup (off := 148) (tgt := 149) hx hb dX7_combined_1 (by decide) (by have dc1 := i_ne c1 (k := 42) rfl; have dc2 := i_ne c2 (k := 43) rfl; have dc3 := i_ne c3 (k := 45) rfl; have dc4 := i_ne c4 (k := 47) rfl; have dc7 := i_ne c7 (k := 60) rfl; have dc9 := i_ne c9 (k := 61) rfl; have dc11 := i_ne c11 (k := 62) rfl; have dc13 := i_ne c13 (k := 256) rfl; have dc14 := i_ne c14 (k := 257) rfl; simp [Op.lookupswitch.offset, Ne.symm dc1, dc1, Ne.symm dc2, dc2, Ne.symm dc3, dc3, Ne.symm dc4, dc4, Ne.symm dc7, dc7, Ne.symm dc9, dc9, Ne.symm dc11, dc11, Ne.symm dc13, dc13, Ne.symm dc14, dc14]) (by decide) ?_
  refine lv_iconst (v := 0) hx hb dX7_combined_149 (by decide) ?_
  exact ret2_i hM hC hw dX7_combined_150
abbrev rm_X8_init : Room := { frames := 1, cells := 3, slots := 1802, locals := 20 }
set_option maxRecDepth 100000 in
def wp_X8_init (o : Nat) (h : Hp) (Q : Hp → Prop) : Prop := okP h (some o) ∧ (∃ q1 : Nat, (hpK h q1).1 = 0 ∧ (∀ h2 : Hp, h2 = alc h q1 1 600 → (((hpK h2 o).1 = 20 + 6) ∧ (okP h2 (some q1) ∧ (∀ h8 : Hp, h8 = stR h2 o 0 (some q1) → (okP h8 (some o) ∧ (∃ q10 : Nat, (hpK h8 q10).1 = 0 ∧ (∀ h11 : Hp, h11 = alc h8 q10 1 601 → (((hpK h11 o).1 = 20 + 6) ∧ (okP h11 (some q10) ∧ (∀ h17 : Hp, h17 = stR h11 o 2 (some q10) → (okP h17 (some o) ∧ (∃ q19 : Nat, (hpK h17 q19).1 = 0 ∧ (∀ h20 : Hp, h20 = alc h17 q19 1 601 → (((hpK h20 o).1 = 20 + 6) ∧ (okP h20 (some q19) ∧ (∀ h26 : Hp, h26 = stR h20 o 3 (some q19) → (Q h26))))))))))))))))))
set_option maxHeartbeats 4000000 in
set_option maxRecDepth 100000 in
theorem c_X8_init (l : Launch) (G : GG) (base : Nat) (A : Nat → Nat) (o : Nat) (h : Hp) (Q : Hp → Prop) (hw : wp_X8_init o h Q) : Met l yX8_init (ww yX8_init cX8_init 1 none) rm_X8_init (va_Pc [.ref (A o)] (PU2 G base A h A h)) (va_Qv (fun (u : (Nat → Nat) × Hp) => Q u.2) (fun u t => PU2 G base A h u.1 u.2 t) (fun q => base ≤ q)) 3 1802 (fun q => base ≤ q) := by
  refine met2_of (own := RX8) (nm := "<init>") (by decide) rfl rfl (List.forall_mem_cons.mpr ⟨rfl, (fun _ h => absurd h List.not_mem_nil)⟩) (Nat.le_of_ble_eq_true rfl) rfl ?_
  intro p e s m args below meth c H locs ls hM hC hl
  obtain ⟨hx, hb, hr, hml, hown, hts, hg, hs, hlk, hnm⟩ := id hM
  unfold wp_X8_init at hw
  refine lv_aload_n hx hb dX8_init_0 rfl (lo_at hl 0 rfl) ?_
  refine r_oi hx hb hown (hts _ mk_m_RX8_3) (hts _ mk_oi_i) (hts _ mk_oi_c) (by rw [hml]; exact hl.1.1) dX8_init_1 (Nat.le_of_ble_eq_true rfl) (Nat.le_of_ble_eq_true rfl) ?_
  refine lv_aload_n hx hb dX8_init_4 rfl (lo_at hl 0 rfl) ?_
  refine lv_sipush (v := 600) hx hb dX8_init_5 (by decide) ?_
  obtain ⟨k4, hw⟩ := hw
  obtain ⟨q1, k3, hw⟩ := hw
  refine s_newI (N := 600) hx hb hts mk_arc_int hg hC q1 k3 (by decide) rfl (by decide) (Nat.le_of_ble_eq_true rfl) (Nat.le_of_ble_eq_true rfl) dX8_init_8 (fun A5 h2 H eh2 hE hC => ?_)
  replace hw := hw h2 eh2
  have e6 : A o = A5 o := ((hE _ (k4 _ rfl)).2).symm
  try rw [e6] at hl
  try rw [e6]
  refine W.widen (k := 1) (n := 600) (Nat.le_of_ble_eq_true rfl) (Nat.le_of_ble_eq_true rfl) ?_
  obtain ⟨k7, hw⟩ := hw
  obtain ⟨k9, hw⟩ := hw
  refine s_putFR (v := some q1) hx hb hts hown hnm hg hC fb_6_0 k7 k9 (nv_a) (fv_a) mk_f_RX8_9 dX8_init_10 (fun h8 H locs eh8 hC => ?_)
  replace hw := hw h8 eh8
  refine lv_aload_n hx hb dX8_init_13 rfl (lo_at hl 0 rfl) ?_
  refine lv_sipush (v := 601) hx hb dX8_init_14 (by decide) ?_
  obtain ⟨k13, hw⟩ := hw
  obtain ⟨q10, k12, hw⟩ := hw
  refine s_newI (N := 601) hx hb hts mk_arc_int hg hC q10 k12 (by decide) rfl (by decide) (Nat.le_of_ble_eq_true rfl) (Nat.le_of_ble_eq_true rfl) dX8_init_17 (fun A14 h11 H eh11 hE hC => ?_)
  replace hw := hw h11 eh11
  have e15 : A5 o = A14 o := ((hE _ (k13 _ rfl)).2).symm
  try rw [e15] at hl
  try rw [e15]
  refine W.widen (k := 2) (n := 1201) (Nat.le_of_ble_eq_true rfl) (Nat.le_of_ble_eq_true rfl) ?_
  obtain ⟨k16, hw⟩ := hw
  obtain ⟨k18, hw⟩ := hw
  refine s_putFR (v := some q10) hx hb hts hown hnm hg hC fb_6_2 k16 k18 (nv_a) (fv_a) mk_f_RX8_15 dX8_init_19 (fun h17 H locs eh17 hC => ?_)
  replace hw := hw h17 eh17
  refine lv_aload_n hx hb dX8_init_22 rfl (lo_at hl 0 rfl) ?_
  refine lv_sipush (v := 601) hx hb dX8_init_23 (by decide) ?_
  obtain ⟨k22, hw⟩ := hw
  obtain ⟨q19, k21, hw⟩ := hw
  refine s_newI (N := 601) hx hb hts mk_arc_int hg hC q19 k21 (by decide) rfl (by decide) (Nat.le_of_ble_eq_true rfl) (Nat.le_of_ble_eq_true rfl) dX8_init_26 (fun A23 h20 H eh20 hE hC => ?_)
  replace hw := hw h20 eh20
  have e24 : A14 o = A23 o := ((hE _ (k22 _ rfl)).2).symm
  try rw [e24] at hl
  try rw [e24]
  refine W.widen (k := 3) (n := 1802) (Nat.le_of_ble_eq_true rfl) (Nat.le_of_ble_eq_true rfl) ?_
  obtain ⟨k25, hw⟩ := hw
  obtain ⟨k27, hw⟩ := hw
  refine s_putFR (v := some q19) hx hb hts hown hnm hg hC fb_6_3 k25 k27 (nv_a) (fv_a) mk_f_RX8_18 dX8_init_28 (fun h26 H locs eh26 hC => ?_)
  replace hw := hw h26 eh26
  exact ret2_va hM hC hw dX8_init_31
abbrev rm_X8_put : Room := { frames := 0, cells := 0, slots := 0, locals := 0 }
set_option maxRecDepth 100000 in
def wp_X8_put_L3 (o : Nat) (x1 : Int32) (K49 : Hp → Prop) (Q : Hp → Prop) : Nat → Int32 → Hp → Prop
  | 0, _, _ => False
  | n + 1, x2, h => (if x2 < 0 then (K49 h) else (((hpK h o).1 = 20 + 6) ∧ ((if (600 : Int32) ≤ (hpI h o 1) then (∀ v4 : Int32, v4 = x2 + (-8 : Int32) → (wp_X8_put_L3 o x1 K49 Q n v4 h)) else (okA h (hpR h o 0) 1 (hpI h o 1) ∧ (∀ h6 : Hp, h6 = stI h (ad (hpR h o 0)) (hpI h o 1).toNatClampNeg ((((x1).toUInt32 >>> ((x2).toUInt32 &&& Int32.toUInt32 31)).toInt32) &&& (255 : Int32)) → (((hpK h6 o).1 = 20 + 6) ∧ (∀ h8 : Hp, h8 = stI h6 o 1 ((hpI h6 o 1) + (1 : Int32)) → (∀ v9 : Int32, v9 = x2 + (-8 : Int32) → (wp_X8_put_L3 o x1 K49 Q n v9 h8))))))))))
set_option maxRecDepth 100000 in
def wp_X8_put (o : Nat) (x1 : Int32) (h : Hp) (Q : Hp → Prop) : Prop := wp_X8_put_L3 o x1 (fun (h10 : Hp) => Q h10) Q fuel (24 : Int32) h
set_option maxHeartbeats 4000000 in
set_option maxRecDepth 100000 in
theorem t_X8_put_L3 {p : Program} {l : Launch} {e : Env} {s : State} {m : MethodId} {args : Array Value} {below : List Frame} {meth : Method} {c : Code} {G : GG} {base : Nat} {A : Nat → Nat} {g0 : Hp} (hM : Mx G base p s m args meth c cX8_put 3 none RX8 "put") (o : Nat) (x1 : Int32) (K49 : Hp → Prop) (Q : Hp → Prop) (hK49 : ∀ (h : Hp) (H : Heap) (locs : List Loc) (ls : Array Slot), Cx2 G base A g0 A h s.heap H locs → lo_has ls 3 [] → K49 h → W p l e rm_X8_put s m args below meth c H locs 0 0 (MQ below (va_Qv Q (PU2 G base A g0 A) (fun q => base ≤ q)) args s 0 0 (fun q => base ≤ q)) (F0 m 49 ls [])) : ∀ (n : Nat) (x2 : Int32) (h : Hp) (H : Heap) (locs : List Loc) (ls : Array Slot), Cx2 G base A g0 A h s.heap H locs → lo_has ls 3 [(0, .ref (A o)), (1, .int x1), (2, .int x2)] → wp_X8_put_L3 o x1 K49 Q n x2 h → W p l e rm_X8_put s m args below meth c H locs 0 0 (MQ below (va_Qv Q (PU2 G base A g0 A) (fun q => base ≤ q)) args s 0 0 (fun q => base ≤ q)) (F0 m 3 ls []) := by
  intro n
  induction n with
  | zero =>
    intro x2 h H locs ls hC hl hw
    rw [wp_X8_put_L3] at hw
    exact hw.elim
  | succ n ih =>
    intro x2 h H locs ls hC hl hw
    rw [wp_X8_put_L3] at hw
    obtain ⟨hx, hb, hr, hml, hown, hts, hg, hs, hlk, hnm⟩ := id hM
    refine lv_iload_n hx hb dX8_put_3 rfl (lo_at hl 2 rfl) ?_
    refine lv_if_lt (tgt := 49) hx hb dX8_put_4 (by decide) (fun c1 => ?_) (fun c1 => ?_)
    ·
      replace hw := (if_pos c1).mp hw
      exact hK49  h H locs ls hC (lo_sub hl [] rfl) hw
    ·
      replace hw := (if_neg c1).mp hw
      refine lv_aload_n hx hb dX8_put_7 rfl (lo_at hl 0 rfl) ?_
      obtain ⟨k2, hw⟩ := hw
      refine s_getI hx hb hts hown hg hC fb_6_1 k2 mk_f_RX8_21 dX8_put_8 ?_
      refine lv_sipush (v := 600) hx hb dX8_put_11 (by decide) ?_
      refine lv_icmp_ge (tgt := 43) hx hb dX8_put_14 (by decide) (fun c3 => ?_) (fun c3 => ?_)
      ·
        replace hw := (if_pos c3).mp hw
        obtain ⟨v4, ev4⟩ : ∃ y : Int32, y = x2 + (-8 : Int32) := ⟨_, rfl⟩
        replace hw := hw v4 ev4
        refine lo_iinc (v := v4) (lv' := [(2, .int v4), (0, .ref (A o)), (1, .int x1)]) hx hb dX8_put_43 hl (k := 2) rfl (by rw [ev4]; rfl) (by decide) rfl (fun ls hl => ?_)
        refine lv_goto (tgt := 3) hx hb dX8_put_46 (by decide) ?_
        exact ih v4 h H locs ls hC (lo_sub hl [1, 2, 0] rfl) hw
      ·
        replace hw := (if_neg c3).mp hw
        refine lv_aload_n hx hb dX8_put_17 rfl (lo_at hl 0 rfl) ?_
        refine s_getR hx hb hts hown hg hC fb_6_0 k2 mk_f_RX8_9 dX8_put_18 ?_
        refine lv_aload_n hx hb dX8_put_21 rfl (lo_at hl 0 rfl) ?_
        refine s_getI hx hb hts hown hg hC fb_6_1 k2 mk_f_RX8_21 dX8_put_22 ?_
        refine lv_iload_n hx hb dX8_put_25 rfl (lo_at hl 1 rfl) ?_
        refine lv_iload_n hx hb dX8_put_26 rfl (lo_at hl 2 rfl) ?_
        refine lv_iushr hx hb dX8_put_27 (v := ((x1).toUInt32 >>> ((x2).toUInt32 &&& Int32.toUInt32 31)).toInt32) rfl ?_
        refine lv_sipush (v := 255) hx hb dX8_put_28 (by decide) ?_
        refine lv_iand hx hb dX8_put_31 ?_
        obtain ⟨k5, hw⟩ := hw
        refine sf_3 k5.1 ?_
        refine s_iast hx hb hg hC k5.2.1 k5.2.2 dX8_put_32 (fun h6 H locs eh6 hC => ?_)
        replace hw := hw h6 eh6
        refine lv_aload_n hx hb dX8_put_33 rfl (lo_at hl 0 rfl) ?_
        refine lv_dup hx hb dX8_put_34 rfl ?_
        obtain ⟨k7, hw⟩ := hw
        refine s_getI hx hb hts hown hg hC fb_6_1 k7 mk_f_RX8_21 dX8_put_35 ?_
        refine lv_iconst (v := 1) hx hb dX8_put_38 (by decide) ?_
        refine lv_iadd hx hb dX8_put_39 ?_
        refine s_putI hx hb hts hown hg hC fb_6_1 k7 rfl rfl mk_f_RX8_21 dX8_put_40 (fun h8 H locs eh8 hC => ?_)
        replace hw := hw h8 eh8
        obtain ⟨v9, ev9⟩ : ∃ y : Int32, y = x2 + (-8 : Int32) := ⟨_, rfl⟩
        replace hw := hw v9 ev9
        refine lo_iinc (v := v9) (lv' := [(2, .int v9), (0, .ref (A o)), (1, .int x1)]) hx hb dX8_put_43 hl (k := 2) rfl (by rw [ev9]; rfl) (by decide) rfl (fun ls hl => ?_)
        refine lv_goto (tgt := 3) hx hb dX8_put_46 (by decide) ?_
        exact ih v9 h8 H locs ls hC (lo_sub hl [1, 2, 0] rfl) hw
set_option maxHeartbeats 4000000 in
set_option maxRecDepth 100000 in
theorem c_X8_put (l : Launch) (G : GG) (base : Nat) (A : Nat → Nat) (o : Nat) (x1 : Int32) (h : Hp) (Q : Hp → Prop) (hw : wp_X8_put o x1 h Q) : Met l yX8_put (ww yX8_put cX8_put 3 none) rm_X8_put (va_Pc [.ref (A o), .int x1] (PU2 G base A h A h)) (va_Qv Q (PU2 G base A h A) (fun q => base ≤ q)) 0 0 (fun q => base ≤ q) := by
  refine met2_of (own := RX8) (nm := "put") (by decide) rfl rfl (List.forall_mem_cons.mpr ⟨rfl, (List.forall_mem_cons.mpr ⟨rfl, (fun _ h => absurd h List.not_mem_nil)⟩)⟩) (Nat.le_of_ble_eq_true rfl) rfl ?_
  intro p e s m args below meth c H locs ls hM hC hl
  obtain ⟨hx, hb, hr, hml, hown, hts, hg, hs, hlk, hnm⟩ := id hM
  unfold wp_X8_put at hw
  refine lv_bipush (v := 24) hx hb dX8_put_0 (by decide) ?_
  refine lo_istore_n (lv' := [(2, .int ((24 : Int32))), (0, .ref (A o)), (1, .int x1)]) hx hb dX8_put_2 rfl hl (by decide) rfl (fun ls hl => ?_)
  refine t_X8_put_L3 hM o x1 _ Q ?_ fuel (24 : Int32) h H locs ls hC (lo_sub hl [1, 2, 0] rfl) hw
  intro  h10 H locs ls hC hl hw
  exact ret2_v hM hC hw dX8_put_49
abbrev rm_X8_sortOf : Room := { frames := 0, cells := 0, slots := 0, locals := 0 }
set_option maxRecDepth 100000 in
def wp_X8_sortOf_J40 (x0 : Int32) (Q : Int32 → Hp → Prop) (h : Hp) : Prop := (if x0 < (48 : Int32) then (Q (3 : Int32) h) else ((if (57 : Int32) < x0 then (Q (3 : Int32) h) else (Q (2 : Int32) h))))
set_option maxRecDepth 100000 in
def wp_X8_sortOf_J26 (x0 : Int32) (Q : Int32 → Hp → Prop) (h : Hp) : Prop := (if x0 < (65 : Int32) then (wp_X8_sortOf_J40 x0 Q h) else ((if (90 : Int32) < x0 then (wp_X8_sortOf_J40 x0 Q h) else (Q (1 : Int32) h))))
set_option maxRecDepth 100000 in
def wp_X8_sortOf (x0 : Int32) (h : Hp) (Q : Int32 → Hp → Prop) : Prop := (if x0 = (32 : Int32) then (Q (0 : Int32) h) else ((if x0 = (10 : Int32) then (Q (0 : Int32) h) else ((if x0 < (97 : Int32) then (wp_X8_sortOf_J26 x0 Q h) else ((if x0 ≤ (122 : Int32) then (Q (1 : Int32) h) else (wp_X8_sortOf_J26 x0 Q h))))))))
set_option maxHeartbeats 4000000 in
set_option maxRecDepth 100000 in
theorem t_X8_sortOf_J40 {p : Program} {l : Launch} {e : Env} {s : State} {m : MethodId} {args : Array Value} {below : List Frame} {meth : Method} {c : Code} {G : GG} {base : Nat} {A : Nat → Nat} {g0 : Hp} (hM : Mx G base p s m args meth c cX8_sortOf 1 (some .int) RX8 "sortOf") (x0 : Int32) (Q : Int32 → Hp → Prop) (h : Hp) (H : Heap) (locs : List Loc) (ls : Array Slot) : Cx2 G base A g0 A h s.heap H locs → lo_has ls 1 [(0, .int x0)] → wp_X8_sortOf_J40 x0 Q h → W p l e rm_X8_sortOf s m args below meth c H locs 0 0 (MQ below (va_Qi Q (PU2 G base A g0 A) (fun q => base ≤ q)) args s 0 0 (fun q => base ≤ q)) (F0 m 40 ls []) := by
  intro hC hl hw
  unfold wp_X8_sortOf_J40 at hw
  obtain ⟨hx, hb, hr, hml, hown, hts, hg, hs, hlk, hnm⟩ := id hM
  refine lv_iload_n hx hb dX8_sortOf_40 rfl (lo_at hl 0 rfl) ?_
  refine lv_bipush (v := 48) hx hb dX8_sortOf_41 (by decide) ?_
  refine lv_icmp_lt (tgt := 56) hx hb dX8_sortOf_43 (by decide) (fun c5 => ?_) (fun c5 => ?_)
  ·
    replace hw := (if_pos c5).mp hw
    refine lv_iconst (v := 3) hx hb dX8_sortOf_56 (by decide) ?_
    exact ret2_i hM hC hw dX8_sortOf_57
  ·
    replace hw := (if_neg c5).mp hw
    refine lv_iload_n hx hb dX8_sortOf_46 rfl (lo_at hl 0 rfl) ?_
    refine lv_bipush (v := 57) hx hb dX8_sortOf_47 (by decide) ?_
    refine lv_icmp_gt (tgt := 56) hx hb dX8_sortOf_49 (by decide) (fun c6 => ?_) (fun c6 => ?_)
    ·
      replace hw := (if_pos c6).mp hw
      refine lv_iconst (v := 3) hx hb dX8_sortOf_56 (by decide) ?_
      exact ret2_i hM hC hw dX8_sortOf_57
    ·
      replace hw := (if_neg c6).mp hw
      refine lv_iconst (v := 2) hx hb dX8_sortOf_52 (by decide) ?_
      refine lv_goto (tgt := 57) hx hb dX8_sortOf_53 (by decide) ?_
      exact ret2_i hM hC hw dX8_sortOf_57
set_option maxHeartbeats 4000000 in
set_option maxRecDepth 100000 in
theorem t_X8_sortOf_J26 {p : Program} {l : Launch} {e : Env} {s : State} {m : MethodId} {args : Array Value} {below : List Frame} {meth : Method} {c : Code} {G : GG} {base : Nat} {A : Nat → Nat} {g0 : Hp} (hM : Mx G base p s m args meth c cX8_sortOf 1 (some .int) RX8 "sortOf") (x0 : Int32) (Q : Int32 → Hp → Prop) (h : Hp) (H : Heap) (locs : List Loc) (ls : Array Slot) : Cx2 G base A g0 A h s.heap H locs → lo_has ls 1 [(0, .int x0)] → wp_X8_sortOf_J26 x0 Q h → W p l e rm_X8_sortOf s m args below meth c H locs 0 0 (MQ below (va_Qi Q (PU2 G base A g0 A) (fun q => base ≤ q)) args s 0 0 (fun q => base ≤ q)) (F0 m 26 ls []) := by
  intro hC hl hw
  unfold wp_X8_sortOf_J26 at hw
  obtain ⟨hx, hb, hr, hml, hown, hts, hg, hs, hlk, hnm⟩ := id hM
  refine lv_iload_n hx hb dX8_sortOf_26 rfl (lo_at hl 0 rfl) ?_
  refine lv_bipush (v := 65) hx hb dX8_sortOf_27 (by decide) ?_
  refine lv_icmp_lt (tgt := 40) hx hb dX8_sortOf_29 (by decide) (fun c4 => ?_) (fun c4 => ?_)
  ·
    replace hw := (if_pos c4).mp hw
    exact t_X8_sortOf_J40 hM x0 Q  h H locs ls hC (lo_sub hl [0] rfl) hw
  ·
    replace hw := (if_neg c4).mp hw
    refine lv_iload_n hx hb dX8_sortOf_32 rfl (lo_at hl 0 rfl) ?_
    refine lv_bipush (v := 90) hx hb dX8_sortOf_33 (by decide) ?_
    refine lv_icmp_gt (tgt := 40) hx hb dX8_sortOf_35 (by decide) (fun c7 => ?_) (fun c7 => ?_)
    ·
      replace hw := (if_pos c7).mp hw
      exact t_X8_sortOf_J40 hM x0 Q  h H locs ls hC (lo_sub hl [0] rfl) hw
    ·
      replace hw := (if_neg c7).mp hw
      refine lv_iconst (v := 1) hx hb dX8_sortOf_38 (by decide) ?_
      exact ret2_i hM hC hw dX8_sortOf_39
set_option maxHeartbeats 4000000 in
set_option maxRecDepth 100000 in
theorem c_X8_sortOf (l : Launch) (G : GG) (base : Nat) (A : Nat → Nat) (x0 : Int32) (h : Hp) (Q : Int32 → Hp → Prop) (hw : wp_X8_sortOf x0 h Q) : Met l yX8_sortOf (ww yX8_sortOf cX8_sortOf 1 (some .int)) rm_X8_sortOf (va_Pc [.int x0] (PU2 G base A h A h)) (va_Qi Q (PU2 G base A h A) (fun q => base ≤ q)) 0 0 (fun q => base ≤ q) := by
  refine met2_of (own := RX8) (nm := "sortOf") (by decide) rfl rfl (List.forall_mem_cons.mpr ⟨rfl, (fun _ h => absurd h List.not_mem_nil)⟩) (Nat.le_of_ble_eq_true rfl) rfl ?_
  intro p e s m args below meth c H locs ls hM hC hl
  obtain ⟨hx, hb, hr, hml, hown, hts, hg, hs, hlk, hnm⟩ := id hM
  unfold wp_X8_sortOf at hw
  refine lv_iload_n hx hb dX8_sortOf_0 rfl (lo_at hl 0 rfl) ?_
  refine lv_bipush (v := 32) hx hb dX8_sortOf_1 (by decide) ?_
  refine lv_icmp_eq (tgt := 12) hx hb dX8_sortOf_3 (by decide) (fun c1 => ?_) (fun c1 => ?_)
  ·
    replace hw := (if_pos c1).mp hw
    refine lv_iconst (v := 0) hx hb dX8_sortOf_12 (by decide) ?_
    exact ret2_i hM hC hw dX8_sortOf_13
  ·
    replace hw := (if_neg c1).mp hw
    refine lv_iload_n hx hb dX8_sortOf_6 rfl (lo_at hl 0 rfl) ?_
    refine lv_bipush (v := 10) hx hb dX8_sortOf_7 (by decide) ?_
    refine lv_icmp_ne (tgt := 14) hx hb dX8_sortOf_9 (by decide) (fun c2 => ?_) (fun c2 => ?_)
    ·
      replace hw := (if_neg c2).mp hw
      refine lv_iload_n hx hb dX8_sortOf_14 rfl (lo_at hl 0 rfl) ?_
      refine lv_bipush (v := 97) hx hb dX8_sortOf_15 (by decide) ?_
      refine lv_icmp_lt (tgt := 26) hx hb dX8_sortOf_17 (by decide) (fun c3 => ?_) (fun c3 => ?_)
      ·
        replace hw := (if_pos c3).mp hw
        exact t_X8_sortOf_J26 hM x0 Q  h H locs ls hC (lo_sub hl [0] rfl) hw
      ·
        replace hw := (if_neg c3).mp hw
        refine lv_iload_n hx hb dX8_sortOf_20 rfl (lo_at hl 0 rfl) ?_
        refine lv_bipush (v := 122) hx hb dX8_sortOf_21 (by decide) ?_
        refine lv_icmp_le (tgt := 38) hx hb dX8_sortOf_23 (by decide) (fun c8 => ?_) (fun c8 => ?_)
        ·
          replace hw := (if_pos c8).mp hw
          refine lv_iconst (v := 1) hx hb dX8_sortOf_38 (by decide) ?_
          exact ret2_i hM hC hw dX8_sortOf_39
        ·
          replace hw := (if_neg c8).mp hw
          exact t_X8_sortOf_J26 hM x0 Q  h H locs ls hC (lo_sub hl [0] rfl) hw
    ·
      replace hw := (if_pos c2).mp hw
      refine lv_iconst (v := 0) hx hb dX8_sortOf_12 (by decide) ?_
      exact ret2_i hM hC hw dX8_sortOf_13
abbrev rm_X8_runFrom : Room := { frames := 1, cells := 0, slots := 0, locals := 20 }
set_option maxRecDepth 100000 in
def wp_X8_runFrom_L17 (o : Nat) (x2 : Int32) (K49 : Int32 → Hp → Prop) (Q : Int32 → Hp → Prop) : Nat → Int32 → Int32 → Hp → Prop
  | 0, _, _, _ => False
  | n + 1, x3, x4, h => ((hpK h o).1 = 20 + 6) ∧ ((if (hpI h o 1) ≤ x4 then (K49 x3 h) else (okA h (hpR h o 0) 1 x4 ∧ (∀ v10 : Int32, v10 = hpI h (ad (hpR h o 0)) (x4).toNatClampNeg → (wp_X8_sortOf v10 h (fun (z12 : Int32) (h11 : Hp) => (if z12 = x2 then (∀ v14 : Int32, v14 = x3 + (1 : Int32) → (∀ v15 : Int32, v15 = x4 + (1 : Int32) → (wp_X8_runFrom_L17 o x2 K49 Q n v14 v15 h11))) else (K49 x3 h11))))))))
set_option maxRecDepth 100000 in
def wp_X8_runFrom (o : Nat) (x1 : Int32) (h : Hp) (Q : Int32 → Hp → Prop) : Prop := ((hpK h o).1 = 20 + 6) ∧ (okA h (hpR h o 0) 1 x1 ∧ (∀ v3 : Int32, v3 = hpI h (ad (hpR h o 0)) (x1).toNatClampNeg → (wp_X8_sortOf v3 h (fun (z5 : Int32) (h4 : Hp) => ∀ v6 : Int32, v6 = x1 + (1 : Int32) → (wp_X8_runFrom_L17 o z5 (fun (y17 : Int32) (h16 : Hp) => Q y17 h16) Q fuel (1 : Int32) v6 h4)))))
set_option maxHeartbeats 4000000 in
set_option maxRecDepth 100000 in
theorem t_X8_runFrom_L17 {p : Program} {l : Launch} {e : Env} {s : State} {m : MethodId} {args : Array Value} {below : List Frame} {meth : Method} {c : Code} {G : GG} {base : Nat} {A : Nat → Nat} {g0 : Hp} (hM : Mx G base p s m args meth c cX8_runFrom 5 (some .int) RX8 "runFrom") (o : Nat) (x2 : Int32) (K49 : Int32 → Hp → Prop) (Q : Int32 → Hp → Prop) (hK49 : ∀ (y3 : Int32) (h : Hp) (H : Heap) (locs : List Loc) (ls : Array Slot), Cx2 G base A g0 A h s.heap H locs → lo_has ls 5 [(3, .int y3)] → K49 y3 h → W p l e rm_X8_runFrom s m args below meth c H locs 0 0 (MQ below (va_Qi Q (PU2 G base A g0 A) (fun q => base ≤ q)) args s 0 0 (fun q => base ≤ q)) (F0 m 49 ls [])) : ∀ (n : Nat) (x3 : Int32) (x4 : Int32) (h : Hp) (H : Heap) (locs : List Loc) (ls : Array Slot), Cx2 G base A g0 A h s.heap H locs → lo_has ls 5 [(0, .ref (A o)), (2, .int x2), (3, .int x3), (4, .int x4)] → wp_X8_runFrom_L17 o x2 K49 Q n x3 x4 h → W p l e rm_X8_runFrom s m args below meth c H locs 0 0 (MQ below (va_Qi Q (PU2 G base A g0 A) (fun q => base ≤ q)) args s 0 0 (fun q => base ≤ q)) (F0 m 17 ls []) := by
  intro n
  induction n with
  | zero =>
    intro x3 x4 h H locs ls hC hl hw
    rw [wp_X8_runFrom_L17] at hw
    exact hw.elim
  | succ n ih =>
    intro x3 x4 h H locs ls hC hl hw
    rw [wp_X8_runFrom_L17] at hw
    obtain ⟨hx, hb, hr, hml, hown, hts, hg, hs, hlk, hnm⟩ := id hM
    refine lv_iload hx hb dX8_runFrom_17 (lo_at hl 3 rfl) ?_
    refine lv_aload_n hx hb dX8_runFrom_19 rfl (lo_at hl 0 rfl) ?_
    obtain ⟨k7, hw⟩ := hw
    refine s_getI hx hb hts hown hg hC fb_6_1 k7 mk_f_RX8_21 dX8_runFrom_20 ?_
    refine lv_icmp_ge (tgt := 49) hx hb dX8_runFrom_23 (by decide) (fun c8 => ?_) (fun c8 => ?_)
    ·
      replace hw := (if_pos c8).mp hw
      exact hK49 x3 h H locs ls hC (lo_sub hl [2] rfl) hw
    ·
      replace hw := (if_neg c8).mp hw
      refine lv_aload_n hx hb dX8_runFrom_26 rfl (lo_at hl 0 rfl) ?_
      refine s_getR hx hb hts hown hg hC fb_6_0 k7 mk_f_RX8_9 dX8_runFrom_27 ?_
      refine lv_iload hx hb dX8_runFrom_30 (lo_at hl 3 rfl) ?_
      obtain ⟨k9, hw⟩ := hw
      refine sf_2 k9.1 ?_
      refine s_iald hx hb hg hC k9.2.1 k9.2.2 dX8_runFrom_32 ?_
      refine lv_topi (fun v10 ev10 => ?_)
      replace hw := hw v10 ev10
      refine res2_i hC (run2_S (As := [.int v10]) (rest := []) hM hC hl.1.1 kv_RX8_36 (c_X8_sortOf l G base A v10 h _ hw) rfl rfl rfl ⟨Nat.le_of_ble_eq_true rfl, Nat.le_of_ble_eq_true rfl⟩ (Nat.le_of_ble_eq_true rfl) ⟨Nat.le_of_ble_eq_true rfl, Nat.le_of_ble_eq_true rfl⟩ dX8_runFrom_33) (fun z12 h11 H locs hw hC => ?_)
      refine lv_iload_n hx hb dX8_runFrom_36 rfl (lo_at hl 1 rfl) ?_
      refine lv_icmp_ne (tgt := 49) hx hb dX8_runFrom_37 (by decide) (fun c13 => ?_) (fun c13 => ?_)
      ·
        replace hw := (if_neg c13).mp hw
        exact hK49 x3 h11 H locs ls hC (lo_sub hl [2] rfl) hw
      ·
        replace hw := (if_pos c13).mp hw
        obtain ⟨v14, ev14⟩ : ∃ y : Int32, y = x3 + (1 : Int32) := ⟨_, rfl⟩
        replace hw := hw v14 ev14
        refine lo_iinc (v := v14) (lv' := [(3, .int v14), (0, .ref (A o)), (2, .int x2), (4, .int x4)]) hx hb dX8_runFrom_40 hl (k := 2) rfl (by rw [ev14]; rfl) (by decide) rfl (fun ls hl => ?_)
        obtain ⟨v15, ev15⟩ : ∃ y : Int32, y = x4 + (1 : Int32) := ⟨_, rfl⟩
        replace hw := hw v15 ev15
        refine lo_iinc (v := v15) (lv' := [(4, .int v15), (3, .int v14), (0, .ref (A o)), (2, .int x2)]) hx hb dX8_runFrom_43 hl (k := 3) rfl (by rw [ev15]; rfl) (by decide) rfl (fun ls hl => ?_)
        refine lv_goto (tgt := 17) hx hb dX8_runFrom_46 (by decide) ?_
        exact ih v14 v15 h11 H locs ls hC (lo_sub hl [2, 3, 1, 0] rfl) hw
set_option maxHeartbeats 4000000 in
set_option maxRecDepth 100000 in
theorem c_X8_runFrom (l : Launch) (G : GG) (base : Nat) (A : Nat → Nat) (o : Nat) (x1 : Int32) (h : Hp) (Q : Int32 → Hp → Prop) (hw : wp_X8_runFrom o x1 h Q) : Met l yX8_runFrom (ww yX8_runFrom cX8_runFrom 5 (some .int)) rm_X8_runFrom (va_Pc [.ref (A o), .int x1] (PU2 G base A h A h)) (va_Qi Q (PU2 G base A h A) (fun q => base ≤ q)) 0 0 (fun q => base ≤ q) := by
  refine met2_of (own := RX8) (nm := "runFrom") (by decide) rfl rfl (List.forall_mem_cons.mpr ⟨rfl, (List.forall_mem_cons.mpr ⟨rfl, (fun _ h => absurd h List.not_mem_nil)⟩)⟩) (Nat.le_of_ble_eq_true rfl) rfl ?_
  intro p e s m args below meth c H locs ls hM hC hl
  obtain ⟨hx, hb, hr, hml, hown, hts, hg, hs, hlk, hnm⟩ := id hM
  unfold wp_X8_runFrom at hw
  refine lv_aload_n hx hb dX8_runFrom_0 rfl (lo_at hl 0 rfl) ?_
  obtain ⟨k1, hw⟩ := hw
  refine s_getR hx hb hts hown hg hC fb_6_0 k1 mk_f_RX8_9 dX8_runFrom_1 ?_
  refine lv_iload_n hx hb dX8_runFrom_4 rfl (lo_at hl 1 rfl) ?_
  obtain ⟨k2, hw⟩ := hw
  refine sf_2 k2.1 ?_
  refine s_iald hx hb hg hC k2.2.1 k2.2.2 dX8_runFrom_5 ?_
  refine lv_topi (fun v3 ev3 => ?_)
  replace hw := hw v3 ev3
  refine res2_i hC (run2_S (As := [.int v3]) (rest := []) hM hC hl.1.1 kv_RX8_36 (c_X8_sortOf l G base A v3 h _ hw) rfl rfl rfl ⟨Nat.le_of_ble_eq_true rfl, Nat.le_of_ble_eq_true rfl⟩ (Nat.le_of_ble_eq_true rfl) ⟨Nat.le_of_ble_eq_true rfl, Nat.le_of_ble_eq_true rfl⟩ dX8_runFrom_6) (fun z5 h4 H locs hw hC => ?_)
  refine lo_istore_n (lv' := [(2, .int z5), (0, .ref (A o)), (1, .int x1)]) hx hb dX8_runFrom_9 rfl hl (by decide) rfl (fun ls hl => ?_)
  refine lv_iconst (v := 1) hx hb dX8_runFrom_10 (by decide) ?_
  refine lo_istore_n (lv' := [(3, .int ((1 : Int32))), (2, .int z5), (0, .ref (A o)), (1, .int x1)]) hx hb dX8_runFrom_11 rfl hl (by decide) rfl (fun ls hl => ?_)
  refine lv_iload_n hx hb dX8_runFrom_12 rfl (lo_at hl 3 rfl) ?_
  refine lv_iconst (v := 1) hx hb dX8_runFrom_13 (by decide) ?_
  refine lv_iadd hx hb dX8_runFrom_14 ?_
  refine lv_topi (fun v6 ev6 => ?_)
  replace hw := hw v6 ev6
  refine lo_istore (lv' := [(4, .int v6), (3, .int ((1 : Int32))), (2, .int z5), (0, .ref (A o)), (1, .int x1)]) hx hb dX8_runFrom_15 hl (by decide) rfl (fun ls hl => ?_)
  refine t_X8_runFrom_L17 hM o z5 _ Q ?_ fuel (1 : Int32) v6 h4 H locs ls hC (lo_sub hl [3, 2, 1, 0] rfl) hw
  intro y17 h16 H locs ls hC hl hw
  refine lv_iload_n hx hb dX8_runFrom_49 rfl (lo_at hl 0 rfl) ?_
  exact ret2_i hM hC hw dX8_runFrom_50
abbrev rm_X8_numberKind : Room := { frames := 0, cells := 0, slots := 0, locals := 0 }
set_option maxRecDepth 100000 in
def wp_X8_numberKind_L12 (o : Nat) (x1 : Int32) (x2 : Int32) (K42 : Int32 → Hp → Prop) (Q : Int32 → Hp → Prop) : Nat → Int32 → Int32 → Hp → Prop
  | 0, _, _, _ => False
  | n + 1, x3, x4, h => (if (x1 + x2) ≤ x4 then (K42 x3 h) else (((hpK h o).1 = 20 + 6) ∧ (okA h (hpR h o 0) 1 x4 ∧ (∀ v5 : Int32, v5 = hpI h (ad (hpR h o 0)) (x4).toNatClampNeg → (∀ v6 : Int32, v6 = ((x3 * (10 : Int32)) + v5) - (48 : Int32) → (∀ v7 : Int32, v7 = x4 + (1 : Int32) → (wp_X8_numberKind_L12 o x1 x2 K42 Q n v6 v7 h)))))))
set_option maxRecDepth 100000 in
def wp_X8_numberKind (o : Nat) (x1 : Int32) (x2 : Int32) (h : Hp) (Q : Int32 → Hp → Prop) : Prop := (if x2 ≤ (4 : Int32) then (wp_X8_numberKind_L12 o x1 x2 (fun (y9 : Int32) (h8 : Hp) => Q (y9 ^^^ (-1 : Int32)) h8) Q fuel (0 : Int32) x1 h) else (Q (1 : Int32) h))
set_option maxHeartbeats 4000000 in
set_option maxRecDepth 100000 in
theorem t_X8_numberKind_L12 {p : Program} {l : Launch} {e : Env} {s : State} {m : MethodId} {args : Array Value} {below : List Frame} {meth : Method} {c : Code} {G : GG} {base : Nat} {A : Nat → Nat} {g0 : Hp} (hM : Mx G base p s m args meth c cX8_numberKind 5 (some .int) RX8 "numberKind") (o : Nat) (x1 : Int32) (x2 : Int32) (K42 : Int32 → Hp → Prop) (Q : Int32 → Hp → Prop) (hK42 : ∀ (y3 : Int32) (h : Hp) (H : Heap) (locs : List Loc) (ls : Array Slot), Cx2 G base A g0 A h s.heap H locs → lo_has ls 5 [(3, .int y3)] → K42 y3 h → W p l e rm_X8_numberKind s m args below meth c H locs 0 0 (MQ below (va_Qi Q (PU2 G base A g0 A) (fun q => base ≤ q)) args s 0 0 (fun q => base ≤ q)) (F0 m 42 ls [])) : ∀ (n : Nat) (x3 : Int32) (x4 : Int32) (h : Hp) (H : Heap) (locs : List Loc) (ls : Array Slot), Cx2 G base A g0 A h s.heap H locs → lo_has ls 5 [(0, .ref (A o)), (1, .int x1), (2, .int x2), (3, .int x3), (4, .int x4)] → wp_X8_numberKind_L12 o x1 x2 K42 Q n x3 x4 h → W p l e rm_X8_numberKind s m args below meth c H locs 0 0 (MQ below (va_Qi Q (PU2 G base A g0 A) (fun q => base ≤ q)) args s 0 0 (fun q => base ≤ q)) (F0 m 12 ls []) := by
  intro n
  induction n with
  | zero =>
    intro x3 x4 h H locs ls hC hl hw
    rw [wp_X8_numberKind_L12] at hw
    exact hw.elim
  | succ n ih =>
    intro x3 x4 h H locs ls hC hl hw
    rw [wp_X8_numberKind_L12] at hw
    obtain ⟨hx, hb, hr, hml, hown, hts, hg, hs, hlk, hnm⟩ := id hM
    refine lv_iload hx hb dX8_numberKind_12 (lo_at hl 4 rfl) ?_
    refine lv_iload_n hx hb dX8_numberKind_14 rfl (lo_at hl 1 rfl) ?_
    refine lv_iload_n hx hb dX8_numberKind_15 rfl (lo_at hl 2 rfl) ?_
    refine lv_iadd hx hb dX8_numberKind_16 ?_
    refine lv_icmp_ge (tgt := 42) hx hb dX8_numberKind_17 (by decide) (fun c2 => ?_) (fun c2 => ?_)
    ·
      replace hw := (if_pos c2).mp hw
      exact hK42 x3 h H locs ls hC (lo_sub hl [3] rfl) hw
    ·
      replace hw := (if_neg c2).mp hw
      refine lv_iload_n hx hb dX8_numberKind_20 rfl (lo_at hl 3 rfl) ?_
      refine lv_bipush (v := 10) hx hb dX8_numberKind_21 (by decide) ?_
      refine lv_imul hx hb dX8_numberKind_23 ?_
      refine lv_aload_n hx hb dX8_numberKind_24 rfl (lo_at hl 0 rfl) ?_
      obtain ⟨k3, hw⟩ := hw
      refine s_getR hx hb hts hown hg hC fb_6_0 k3 mk_f_RX8_9 dX8_numberKind_25 ?_
      refine lv_iload hx hb dX8_numberKind_28 (lo_at hl 4 rfl) ?_
      obtain ⟨k4, hw⟩ := hw
      refine sf_2 k4.1 ?_
      refine s_iald hx hb hg hC k4.2.1 k4.2.2 dX8_numberKind_30 ?_
      refine lv_topi (fun v5 ev5 => ?_)
      replace hw := hw v5 ev5
      refine lv_iadd hx hb dX8_numberKind_31 ?_
      refine lv_bipush (v := 48) hx hb dX8_numberKind_32 (by decide) ?_
      refine lv_isub hx hb dX8_numberKind_34 ?_
      refine lv_topi (fun v6 ev6 => ?_)
      replace hw := hw v6 ev6
      refine lo_istore_n (lv' := [(3, .int v6), (0, .ref (A o)), (1, .int x1), (2, .int x2), (4, .int x4)]) hx hb dX8_numberKind_35 rfl hl (by decide) rfl (fun ls hl => ?_)
      obtain ⟨v7, ev7⟩ : ∃ y : Int32, y = x4 + (1 : Int32) := ⟨_, rfl⟩
      replace hw := hw v7 ev7
      refine lo_iinc (v := v7) (lv' := [(4, .int v7), (3, .int v6), (0, .ref (A o)), (1, .int x1), (2, .int x2)]) hx hb dX8_numberKind_36 hl (k := 4) rfl (by rw [ev7]; rfl) (by decide) rfl (fun ls hl => ?_)
      refine lv_goto (tgt := 12) hx hb dX8_numberKind_39 (by decide) ?_
      exact ih v6 v7 h H locs ls hC (lo_sub hl [2, 3, 4, 1, 0] rfl) hw
set_option maxHeartbeats 4000000 in
set_option maxRecDepth 100000 in
theorem c_X8_numberKind (l : Launch) (G : GG) (base : Nat) (A : Nat → Nat) (o : Nat) (x1 : Int32) (x2 : Int32) (h : Hp) (Q : Int32 → Hp → Prop) (hw : wp_X8_numberKind o x1 x2 h Q) : Met l yX8_numberKind (ww yX8_numberKind cX8_numberKind 5 (some .int)) rm_X8_numberKind (va_Pc [.ref (A o), .int x1, .int x2] (PU2 G base A h A h)) (va_Qi Q (PU2 G base A h A) (fun q => base ≤ q)) 0 0 (fun q => base ≤ q) := by
  refine met2_of (own := RX8) (nm := "numberKind") (by decide) rfl rfl (List.forall_mem_cons.mpr ⟨rfl, (List.forall_mem_cons.mpr ⟨rfl, (List.forall_mem_cons.mpr ⟨rfl, (fun _ h => absurd h List.not_mem_nil)⟩)⟩)⟩) (Nat.le_of_ble_eq_true rfl) rfl ?_
  intro p e s m args below meth c H locs ls hM hC hl
  obtain ⟨hx, hb, hr, hml, hown, hts, hg, hs, hlk, hnm⟩ := id hM
  unfold wp_X8_numberKind at hw
  refine lv_iload_n hx hb dX8_numberKind_0 rfl (lo_at hl 2 rfl) ?_
  refine lv_iconst (v := 4) hx hb dX8_numberKind_1 (by decide) ?_
  refine lv_icmp_le (tgt := 7) hx hb dX8_numberKind_2 (by decide) (fun c1 => ?_) (fun c1 => ?_)
  ·
    replace hw := (if_pos c1).mp hw
    refine lv_iconst (v := 0) hx hb dX8_numberKind_7 (by decide) ?_
    refine lo_istore_n (lv' := [(3, .int ((0 : Int32))), (0, .ref (A o)), (1, .int x1), (2, .int x2)]) hx hb dX8_numberKind_8 rfl hl (by decide) rfl (fun ls hl => ?_)
    refine lv_iload_n hx hb dX8_numberKind_9 rfl (lo_at hl 2 rfl) ?_
    refine lo_istore (lv' := [(4, .int x1), (3, .int ((0 : Int32))), (0, .ref (A o)), (1, .int x1), (2, .int x2)]) hx hb dX8_numberKind_10 hl (by decide) rfl (fun ls hl => ?_)
    refine t_X8_numberKind_L12 hM o x1 x2 _ Q ?_ fuel (0 : Int32) x1 h H locs ls hC (lo_sub hl [2, 3, 4, 1, 0] rfl) hw
    intro y9 h8 H locs ls hC hl hw
    refine lv_iload_n hx hb dX8_numberKind_42 rfl (lo_at hl 0 rfl) ?_
    refine lv_iconst (v := -1) hx hb dX8_numberKind_43 (by decide) ?_
    refine lv_ixor hx hb dX8_numberKind_44 ?_
    exact ret2_i hM hC hw dX8_numberKind_45
  ·
    replace hw := (if_neg c1).mp hw
    refine lv_iconst (v := 1) hx hb dX8_numberKind_5 (by decide) ?_
    exact ret2_i hM hC hw dX8_numberKind_6
abbrev rm_X10_init : Room := { frames := 1, cells := 6, slots := 224, locals := 20 }
set_option maxRecDepth 100000 in
def wp_X10_init (o : Nat) (h : Hp) (Q : Hp → Prop) : Prop := okP h (some o) ∧ (∃ q1 : Nat, (hpK h q1).1 = 0 ∧ (∀ h2 : Hp, h2 = alc h q1 1 14 → (((hpK h2 o).1 = 20 + 8) ∧ (okP h2 (some q1) ∧ (∀ h8 : Hp, h8 = stR h2 o 0 (some q1) → (okP h8 (some o) ∧ (∃ q10 : Nat, (hpK h8 q10).1 = 0 ∧ (∀ h11 : Hp, h11 = alc h8 q10 1 32 → (((hpK h11 o).1 = 20 + 8) ∧ (okP h11 (some q10) ∧ (∀ h17 : Hp, h17 = stR h11 o 1 (some q10) → (okP h17 (some o) ∧ (∃ q19 : Nat, (hpK h17 q19).1 = 0 ∧ (∀ h20 : Hp, h20 = alc h17 q19 1 32 → (((hpK h20 o).1 = 20 + 8) ∧ (okP h20 (some q19) ∧ (∀ h26 : Hp, h26 = stR h20 o 2 (some q19) → (okP h26 (some o) ∧ (∃ q28 : Nat, (hpK h26 q28).1 = 0 ∧ (∀ h29 : Hp, h29 = alc h26 q28 1 128 → (((hpK h29 o).1 = 20 + 8) ∧ (okP h29 (some q28) ∧ (∀ h35 : Hp, h35 = stR h29 o 3 (some q28) → (okP h35 (some o) ∧ (∃ q37 : Nat, (hpK h35 q37).1 = 0 ∧ (∀ h38 : Hp, h38 = alc h35 q37 1 10 → (((hpK h38 o).1 = 20 + 8) ∧ (okP h38 (some q37) ∧ (∀ h44 : Hp, h44 = stR h38 o 4 (some q37) → (okP h44 (some o) ∧ (∃ q46 : Nat, (hpK h44 q46).1 = 0 ∧ (∀ h47 : Hp, h47 = alc h44 q46 1 8 → (((hpK h47 o).1 = 20 + 8) ∧ (okP h47 (some q46) ∧ (∀ h53 : Hp, h53 = stR h47 o 5 (some q46) → (Q h53))))))))))))))))))))))))))))))))))))
set_option maxHeartbeats 4000000 in
set_option maxRecDepth 100000 in
theorem c_X10_init (l : Launch) (G : GG) (base : Nat) (A : Nat → Nat) (o : Nat) (h : Hp) (Q : Hp → Prop) (hw : wp_X10_init o h Q) : Met l yX10_init (ww yX10_init cX10_init 1 none) rm_X10_init (va_Pc [.ref (A o)] (PU2 G base A h A h)) (va_Qv (fun (u : (Nat → Nat) × Hp) => Q u.2) (fun u t => PU2 G base A h u.1 u.2 t) (fun q => base ≤ q)) 6 224 (fun q => base ≤ q) := by
  refine met2_of (own := RX10) (nm := "<init>") (by decide) rfl rfl (List.forall_mem_cons.mpr ⟨rfl, (fun _ h => absurd h List.not_mem_nil)⟩) (Nat.le_of_ble_eq_true rfl) rfl ?_
  intro p e s m args below meth c H locs ls hM hC hl
  obtain ⟨hx, hb, hr, hml, hown, hts, hg, hs, hlk, hnm⟩ := id hM
  unfold wp_X10_init at hw
  refine lv_aload_n hx hb dX10_init_0 rfl (lo_at hl 0 rfl) ?_
  refine r_oi hx hb hown (hts _ mk_m_RX10_3) (hts _ mk_oi_i) (hts _ mk_oi_c) (by rw [hml]; exact hl.1.1) dX10_init_1 (Nat.le_of_ble_eq_true rfl) (Nat.le_of_ble_eq_true rfl) ?_
  refine lv_aload_n hx hb dX10_init_4 rfl (lo_at hl 0 rfl) ?_
  refine lv_bipush (v := 14) hx hb dX10_init_5 (by decide) ?_
  obtain ⟨k4, hw⟩ := hw
  obtain ⟨q1, k3, hw⟩ := hw
  refine s_newI (N := 14) hx hb hts mk_arc_int hg hC q1 k3 (by decide) rfl (by decide) (Nat.le_of_ble_eq_true rfl) (Nat.le_of_ble_eq_true rfl) dX10_init_7 (fun A5 h2 H eh2 hE hC => ?_)
  replace hw := hw h2 eh2
  have e6 : A o = A5 o := ((hE _ (k4 _ rfl)).2).symm
  try rw [e6] at hl
  try rw [e6]
  refine W.widen (k := 1) (n := 14) (Nat.le_of_ble_eq_true rfl) (Nat.le_of_ble_eq_true rfl) ?_
  obtain ⟨k7, hw⟩ := hw
  obtain ⟨k9, hw⟩ := hw
  refine s_putFR (v := some q1) hx hb hts hown hnm hg hC fb_8_0 k7 k9 (nv_a) (fv_a) mk_f_RX10_9 dX10_init_9 (fun h8 H locs eh8 hC => ?_)
  replace hw := hw h8 eh8
  refine lv_aload_n hx hb dX10_init_12 rfl (lo_at hl 0 rfl) ?_
  refine lv_bipush (v := 32) hx hb dX10_init_13 (by decide) ?_
  obtain ⟨k13, hw⟩ := hw
  obtain ⟨q10, k12, hw⟩ := hw
  refine s_newI (N := 32) hx hb hts mk_arc_int hg hC q10 k12 (by decide) rfl (by decide) (Nat.le_of_ble_eq_true rfl) (Nat.le_of_ble_eq_true rfl) dX10_init_15 (fun A14 h11 H eh11 hE hC => ?_)
  replace hw := hw h11 eh11
  have e15 : A5 o = A14 o := ((hE _ (k13 _ rfl)).2).symm
  try rw [e15] at hl
  try rw [e15]
  refine W.widen (k := 2) (n := 46) (Nat.le_of_ble_eq_true rfl) (Nat.le_of_ble_eq_true rfl) ?_
  obtain ⟨k16, hw⟩ := hw
  obtain ⟨k18, hw⟩ := hw
  refine s_putFR (v := some q10) hx hb hts hown hnm hg hC fb_8_1 k16 k18 (nv_a) (fv_a) mk_f_RX10_15 dX10_init_17 (fun h17 H locs eh17 hC => ?_)
  replace hw := hw h17 eh17
  refine lv_aload_n hx hb dX10_init_20 rfl (lo_at hl 0 rfl) ?_
  refine lv_bipush (v := 32) hx hb dX10_init_21 (by decide) ?_
  obtain ⟨k22, hw⟩ := hw
  obtain ⟨q19, k21, hw⟩ := hw
  refine s_newI (N := 32) hx hb hts mk_arc_int hg hC q19 k21 (by decide) rfl (by decide) (Nat.le_of_ble_eq_true rfl) (Nat.le_of_ble_eq_true rfl) dX10_init_23 (fun A23 h20 H eh20 hE hC => ?_)
  replace hw := hw h20 eh20
  have e24 : A14 o = A23 o := ((hE _ (k22 _ rfl)).2).symm
  try rw [e24] at hl
  try rw [e24]
  refine W.widen (k := 3) (n := 78) (Nat.le_of_ble_eq_true rfl) (Nat.le_of_ble_eq_true rfl) ?_
  obtain ⟨k25, hw⟩ := hw
  obtain ⟨k27, hw⟩ := hw
  refine s_putFR (v := some q19) hx hb hts hown hnm hg hC fb_8_2 k25 k27 (nv_a) (fv_a) mk_f_RX10_18 dX10_init_25 (fun h26 H locs eh26 hC => ?_)
  replace hw := hw h26 eh26
  refine lv_aload_n hx hb dX10_init_28 rfl (lo_at hl 0 rfl) ?_
  refine lv_sipush (v := 128) hx hb dX10_init_29 (by decide) ?_
  obtain ⟨k31, hw⟩ := hw
  obtain ⟨q28, k30, hw⟩ := hw
  refine s_newI (N := 128) hx hb hts mk_arc_int hg hC q28 k30 (by decide) rfl (by decide) (Nat.le_of_ble_eq_true rfl) (Nat.le_of_ble_eq_true rfl) dX10_init_32 (fun A32 h29 H eh29 hE hC => ?_)
  replace hw := hw h29 eh29
  have e33 : A23 o = A32 o := ((hE _ (k31 _ rfl)).2).symm
  try rw [e33] at hl
  try rw [e33]
  refine W.widen (k := 4) (n := 206) (Nat.le_of_ble_eq_true rfl) (Nat.le_of_ble_eq_true rfl) ?_
  obtain ⟨k34, hw⟩ := hw
  obtain ⟨k36, hw⟩ := hw
  refine s_putFR (v := some q28) hx hb hts hown hnm hg hC fb_8_3 k34 k36 (nv_a) (fv_a) mk_f_RX10_21 dX10_init_34 (fun h35 H locs eh35 hC => ?_)
  replace hw := hw h35 eh35
  refine lv_aload_n hx hb dX10_init_37 rfl (lo_at hl 0 rfl) ?_
  refine lv_bipush (v := 10) hx hb dX10_init_38 (by decide) ?_
  obtain ⟨k40, hw⟩ := hw
  obtain ⟨q37, k39, hw⟩ := hw
  refine s_newI (N := 10) hx hb hts mk_arc_int hg hC q37 k39 (by decide) rfl (by decide) (Nat.le_of_ble_eq_true rfl) (Nat.le_of_ble_eq_true rfl) dX10_init_40 (fun A41 h38 H eh38 hE hC => ?_)
  replace hw := hw h38 eh38
  have e42 : A32 o = A41 o := ((hE _ (k40 _ rfl)).2).symm
  try rw [e42] at hl
  try rw [e42]
  refine W.widen (k := 5) (n := 216) (Nat.le_of_ble_eq_true rfl) (Nat.le_of_ble_eq_true rfl) ?_
  obtain ⟨k43, hw⟩ := hw
  obtain ⟨k45, hw⟩ := hw
  refine s_putFR (v := some q37) hx hb hts hown hnm hg hC fb_8_4 k43 k45 (nv_a) (fv_a) mk_f_RX10_24 dX10_init_42 (fun h44 H locs eh44 hC => ?_)
  replace hw := hw h44 eh44
  refine lv_aload_n hx hb dX10_init_45 rfl (lo_at hl 0 rfl) ?_
  refine lv_bipush (v := 8) hx hb dX10_init_46 (by decide) ?_
  obtain ⟨k49, hw⟩ := hw
  obtain ⟨q46, k48, hw⟩ := hw
  refine s_newI (N := 8) hx hb hts mk_arc_int hg hC q46 k48 (by decide) rfl (by decide) (Nat.le_of_ble_eq_true rfl) (Nat.le_of_ble_eq_true rfl) dX10_init_48 (fun A50 h47 H eh47 hE hC => ?_)
  replace hw := hw h47 eh47
  have e51 : A41 o = A50 o := ((hE _ (k49 _ rfl)).2).symm
  try rw [e51] at hl
  try rw [e51]
  refine W.widen (k := 6) (n := 224) (Nat.le_of_ble_eq_true rfl) (Nat.le_of_ble_eq_true rfl) ?_
  obtain ⟨k52, hw⟩ := hw
  obtain ⟨k54, hw⟩ := hw
  refine s_putFR (v := some q46) hx hb hts hown hnm hg hC fb_8_5 k52 k54 (nv_a) (fv_a) mk_f_RX10_27 dX10_init_50 (fun h53 H locs eh53 hC => ?_)
  replace hw := hw h53 eh53
  exact ret2_va hM hC hw dX10_init_53
abbrev rm_X10_tellShot : Room := { frames := 0, cells := 0, slots := 0, locals := 0 }
set_option maxRecDepth 100000 in
def wp_X10_tellShot (o : Nat) (x1 : Int32) (x2 : Int32) (x3 : Int32) (h : Hp) (Q : Hp → Prop) : Prop := ((hpK h o).1 = 20 + 8) ∧ (okA h (hpR h o 0) 1 (5 : Int32) ∧ (∀ h3 : Hp, h3 = stI h (ad (hpR h o 0)) ((5 : Int32)).toNatClampNeg x1 → (((hpK h3 o).1 = 20 + 8) ∧ (okA h3 (hpR h3 o 0) 1 (6 : Int32) ∧ (∀ h6 : Hp, h6 = stI h3 (ad (hpR h3 o 0)) ((6 : Int32)).toNatClampNeg x2 → (((hpK h6 o).1 = 20 + 8) ∧ (okA h6 (hpR h6 o 0) 1 (7 : Int32) ∧ (∀ h9 : Hp, h9 = stI h6 (ad (hpR h6 o 0)) ((7 : Int32)).toNatClampNeg x3 → (Q h9)))))))))
set_option maxHeartbeats 4000000 in
set_option maxRecDepth 100000 in
theorem c_X10_tellShot (l : Launch) (G : GG) (base : Nat) (A : Nat → Nat) (o : Nat) (x1 : Int32) (x2 : Int32) (x3 : Int32) (h : Hp) (Q : Hp → Prop) (hw : wp_X10_tellShot o x1 x2 x3 h Q) : Met l yX10_tellShot (ww yX10_tellShot cX10_tellShot 4 none) rm_X10_tellShot (va_Pc [.ref (A o), .int x1, .int x2, .int x3] (PU2 G base A h A h)) (va_Qv Q (PU2 G base A h A) (fun q => base ≤ q)) 0 0 (fun q => base ≤ q) := by
  refine met2_of (own := RX10) (nm := "tellShot") (by decide) rfl rfl (List.forall_mem_cons.mpr ⟨rfl, (List.forall_mem_cons.mpr ⟨rfl, (List.forall_mem_cons.mpr ⟨rfl, (List.forall_mem_cons.mpr ⟨rfl, (fun _ h => absurd h List.not_mem_nil)⟩)⟩)⟩)⟩) (Nat.le_of_ble_eq_true rfl) rfl ?_
  intro p e s m args below meth c H locs ls hM hC hl
  obtain ⟨hx, hb, hr, hml, hown, hts, hg, hs, hlk, hnm⟩ := id hM
  unfold wp_X10_tellShot at hw
  refine lv_aload_n hx hb dX10_tellShot_0 rfl (lo_at hl 0 rfl) ?_
  obtain ⟨k1, hw⟩ := hw
  refine s_getR hx hb hts hown hg hC fb_8_0 k1 mk_f_RX10_9 dX10_tellShot_1 ?_
  refine lv_iconst (v := 5) hx hb dX10_tellShot_4 (by decide) ?_
  refine lv_iload_n hx hb dX10_tellShot_5 rfl (lo_at hl 1 rfl) ?_
  obtain ⟨k2, hw⟩ := hw
  refine sf_3 k2.1 ?_
  refine s_iast hx hb hg hC k2.2.1 k2.2.2 dX10_tellShot_6 (fun h3 H locs eh3 hC => ?_)
  replace hw := hw h3 eh3
  refine lv_aload_n hx hb dX10_tellShot_7 rfl (lo_at hl 0 rfl) ?_
  obtain ⟨k4, hw⟩ := hw
  refine s_getR hx hb hts hown hg hC fb_8_0 k4 mk_f_RX10_9 dX10_tellShot_8 ?_
  refine lv_bipush (v := 6) hx hb dX10_tellShot_11 (by decide) ?_
  refine lv_iload_n hx hb dX10_tellShot_13 rfl (lo_at hl 2 rfl) ?_
  obtain ⟨k5, hw⟩ := hw
  refine sf_3 k5.1 ?_
  refine s_iast hx hb hg hC k5.2.1 k5.2.2 dX10_tellShot_14 (fun h6 H locs eh6 hC => ?_)
  replace hw := hw h6 eh6
  refine lv_aload_n hx hb dX10_tellShot_15 rfl (lo_at hl 0 rfl) ?_
  obtain ⟨k7, hw⟩ := hw
  refine s_getR hx hb hts hown hg hC fb_8_0 k7 mk_f_RX10_9 dX10_tellShot_16 ?_
  refine lv_bipush (v := 7) hx hb dX10_tellShot_19 (by decide) ?_
  refine lv_iload_n hx hb dX10_tellShot_21 rfl (lo_at hl 3 rfl) ?_
  obtain ⟨k8, hw⟩ := hw
  refine sf_3 k8.1 ?_
  refine s_iast hx hb hg hC k8.2.1 k8.2.2 dX10_tellShot_22 (fun h9 H locs eh9 hC => ?_)
  replace hw := hw h9 eh9
  exact ret2_v hM hC hw dX10_tellShot_23
abbrev rm_X10_tellHair : Room := { frames := 0, cells := 0, slots := 0, locals := 0 }
set_option maxRecDepth 100000 in
def wp_X10_tellHair (o : Nat) (x1 : Int32) (x2 : Int32) (h : Hp) (Q : Hp → Prop) : Prop := ((hpK h o).1 = 20 + 8) ∧ (okA h (hpR h o 0) 1 (0 : Int32) ∧ (∀ h3 : Hp, h3 = stI h (ad (hpR h o 0)) ((0 : Int32)).toNatClampNeg x1 → (((hpK h3 o).1 = 20 + 8) ∧ (okA h3 (hpR h3 o 1) 1 (x1 &&& (31 : Int32)) ∧ (∀ v6 : Int32, v6 = hpI h3 (ad (hpR h3 o 1)) (x1 &&& (31 : Int32)).toNatClampNeg → (okA h3 (hpR h3 o 0) 1 (1 : Int32) ∧ (∀ h8 : Hp, h8 = stI h3 (ad (hpR h3 o 0)) ((1 : Int32)).toNatClampNeg v6 → (((hpK h8 o).1 = 20 + 8) ∧ (okA h8 (hpR h8 o 1) 1 ((x1 - (1 : Int32)) &&& (31 : Int32)) ∧ (∀ v11 : Int32, v11 = hpI h8 (ad (hpR h8 o 1)) ((x1 - (1 : Int32)) &&& (31 : Int32)).toNatClampNeg → (okA h8 (hpR h8 o 0) 1 (2 : Int32) ∧ (∀ h13 : Hp, h13 = stI h8 (ad (hpR h8 o 0)) ((2 : Int32)).toNatClampNeg v11 → (((hpK h13 o).1 = 20 + 8) ∧ (okA h13 (hpR h13 o 1) 1 ((x1 + (1 : Int32)) &&& (31 : Int32)) ∧ (∀ v16 : Int32, v16 = hpI h13 (ad (hpR h13 o 1)) ((x1 + (1 : Int32)) &&& (31 : Int32)).toNatClampNeg → (okA h13 (hpR h13 o 0) 1 (3 : Int32) ∧ (∀ h18 : Hp, h18 = stI h13 (ad (hpR h13 o 0)) ((3 : Int32)).toNatClampNeg v16 → (((hpK h18 o).1 = 20 + 8) ∧ (okA h18 (hpR h18 o 0) 1 (4 : Int32) ∧ (∀ h21 : Hp, h21 = stI h18 (ad (hpR h18 o 0)) ((4 : Int32)).toNatClampNeg x2 → (Q h21)))))))))))))))))))))
set_option maxHeartbeats 4000000 in
set_option maxRecDepth 100000 in
theorem c_X10_tellHair (l : Launch) (G : GG) (base : Nat) (A : Nat → Nat) (o : Nat) (x1 : Int32) (x2 : Int32) (h : Hp) (Q : Hp → Prop) (hw : wp_X10_tellHair o x1 x2 h Q) : Met l yX10_tellHair (ww yX10_tellHair cX10_tellHair 3 none) rm_X10_tellHair (va_Pc [.ref (A o), .int x1, .int x2] (PU2 G base A h A h)) (va_Qv Q (PU2 G base A h A) (fun q => base ≤ q)) 0 0 (fun q => base ≤ q) := by
  refine met2_of (own := RX10) (nm := "tellHair") (by decide) rfl rfl (List.forall_mem_cons.mpr ⟨rfl, (List.forall_mem_cons.mpr ⟨rfl, (List.forall_mem_cons.mpr ⟨rfl, (fun _ h => absurd h List.not_mem_nil)⟩)⟩)⟩) (Nat.le_of_ble_eq_true rfl) rfl ?_
  intro p e s m args below meth c H locs ls hM hC hl
  obtain ⟨hx, hb, hr, hml, hown, hts, hg, hs, hlk, hnm⟩ := id hM
  unfold wp_X10_tellHair at hw
  refine lv_aload_n hx hb dX10_tellHair_0 rfl (lo_at hl 0 rfl) ?_
  obtain ⟨k1, hw⟩ := hw
  refine s_getR hx hb hts hown hg hC fb_8_0 k1 mk_f_RX10_9 dX10_tellHair_1 ?_
  refine lv_iconst (v := 0) hx hb dX10_tellHair_4 (by decide) ?_
  refine lv_iload_n hx hb dX10_tellHair_5 rfl (lo_at hl 1 rfl) ?_
  obtain ⟨k2, hw⟩ := hw
  refine sf_3 k2.1 ?_
  refine s_iast hx hb hg hC k2.2.1 k2.2.2 dX10_tellHair_6 (fun h3 H locs eh3 hC => ?_)
  replace hw := hw h3 eh3
  refine lv_aload_n hx hb dX10_tellHair_7 rfl (lo_at hl 0 rfl) ?_
  obtain ⟨k4, hw⟩ := hw
  refine s_getR hx hb hts hown hg hC fb_8_0 k4 mk_f_RX10_9 dX10_tellHair_8 ?_
  refine lv_iconst (v := 1) hx hb dX10_tellHair_11 (by decide) ?_
  refine lv_aload_n hx hb dX10_tellHair_12 rfl (lo_at hl 0 rfl) ?_
  refine s_getR hx hb hts hown hg hC fb_8_1 k4 mk_f_RX10_15 dX10_tellHair_13 ?_
  refine lv_iload_n hx hb dX10_tellHair_16 rfl (lo_at hl 1 rfl) ?_
  refine lv_bipush (v := 31) hx hb dX10_tellHair_17 (by decide) ?_
  refine lv_iand hx hb dX10_tellHair_19 ?_
  obtain ⟨k5, hw⟩ := hw
  refine sf_2 k5.1 ?_
  refine s_iald hx hb hg hC k5.2.1 k5.2.2 dX10_tellHair_20 ?_
  refine lv_topi (fun v6 ev6 => ?_)
  replace hw := hw v6 ev6
  obtain ⟨k7, hw⟩ := hw
  refine sf_3 k7.1 ?_
  refine s_iast hx hb hg hC k7.2.1 k7.2.2 dX10_tellHair_21 (fun h8 H locs eh8 hC => ?_)
  replace hw := hw h8 eh8
  refine lv_aload_n hx hb dX10_tellHair_22 rfl (lo_at hl 0 rfl) ?_
  obtain ⟨k9, hw⟩ := hw
  refine s_getR hx hb hts hown hg hC fb_8_0 k9 mk_f_RX10_9 dX10_tellHair_23 ?_
  refine lv_iconst (v := 2) hx hb dX10_tellHair_26 (by decide) ?_
  refine lv_aload_n hx hb dX10_tellHair_27 rfl (lo_at hl 0 rfl) ?_
  refine s_getR hx hb hts hown hg hC fb_8_1 k9 mk_f_RX10_15 dX10_tellHair_28 ?_
  refine lv_iload_n hx hb dX10_tellHair_31 rfl (lo_at hl 1 rfl) ?_
  refine lv_iconst (v := 1) hx hb dX10_tellHair_32 (by decide) ?_
  refine lv_isub hx hb dX10_tellHair_33 ?_
  refine lv_bipush (v := 31) hx hb dX10_tellHair_34 (by decide) ?_
  refine lv_iand hx hb dX10_tellHair_36 ?_
  obtain ⟨k10, hw⟩ := hw
  refine sf_2 k10.1 ?_
  refine s_iald hx hb hg hC k10.2.1 k10.2.2 dX10_tellHair_37 ?_
  refine lv_topi (fun v11 ev11 => ?_)
  replace hw := hw v11 ev11
  obtain ⟨k12, hw⟩ := hw
  refine sf_3 k12.1 ?_
  refine s_iast hx hb hg hC k12.2.1 k12.2.2 dX10_tellHair_38 (fun h13 H locs eh13 hC => ?_)
  replace hw := hw h13 eh13
  refine lv_aload_n hx hb dX10_tellHair_39 rfl (lo_at hl 0 rfl) ?_
  obtain ⟨k14, hw⟩ := hw
  refine s_getR hx hb hts hown hg hC fb_8_0 k14 mk_f_RX10_9 dX10_tellHair_40 ?_
  refine lv_iconst (v := 3) hx hb dX10_tellHair_43 (by decide) ?_
  refine lv_aload_n hx hb dX10_tellHair_44 rfl (lo_at hl 0 rfl) ?_
  refine s_getR hx hb hts hown hg hC fb_8_1 k14 mk_f_RX10_15 dX10_tellHair_45 ?_
  refine lv_iload_n hx hb dX10_tellHair_48 rfl (lo_at hl 1 rfl) ?_
  refine lv_iconst (v := 1) hx hb dX10_tellHair_49 (by decide) ?_
  refine lv_iadd hx hb dX10_tellHair_50 ?_
  refine lv_bipush (v := 31) hx hb dX10_tellHair_51 (by decide) ?_
  refine lv_iand hx hb dX10_tellHair_53 ?_
  obtain ⟨k15, hw⟩ := hw
  refine sf_2 k15.1 ?_
  refine s_iald hx hb hg hC k15.2.1 k15.2.2 dX10_tellHair_54 ?_
  refine lv_topi (fun v16 ev16 => ?_)
  replace hw := hw v16 ev16
  obtain ⟨k17, hw⟩ := hw
  refine sf_3 k17.1 ?_
  refine s_iast hx hb hg hC k17.2.1 k17.2.2 dX10_tellHair_55 (fun h18 H locs eh18 hC => ?_)
  replace hw := hw h18 eh18
  refine lv_aload_n hx hb dX10_tellHair_56 rfl (lo_at hl 0 rfl) ?_
  obtain ⟨k19, hw⟩ := hw
  refine s_getR hx hb hts hown hg hC fb_8_0 k19 mk_f_RX10_9 dX10_tellHair_57 ?_
  refine lv_iconst (v := 4) hx hb dX10_tellHair_60 (by decide) ?_
  refine lv_iload_n hx hb dX10_tellHair_61 rfl (lo_at hl 2 rfl) ?_
  obtain ⟨k20, hw⟩ := hw
  refine sf_3 k20.1 ?_
  refine s_iast hx hb hg hC k20.2.1 k20.2.2 dX10_tellHair_62 (fun h21 H locs eh21 hC => ?_)
  replace hw := hw h21 eh21
  exact ret2_v hM hC hw dX10_tellHair_63
abbrev rm_X10_uniteGroups : Room := { frames := 1, cells := 0, slots := 0, locals := 40 }
set_option maxRecDepth 100000 in
def wp_X10_uniteGroups_J38 (o : Nat) (x1 : Int32) (x2 : Int32) (x3 : Int32) (x4 : Int32) (KH : Int32 → Hp → Prop) (K52 : Hp → Prop) (Q : Hp → Prop) (h : Hp) : Prop := ((hpK h o).1 = 20 + 8) ∧ (okA h (hpR h o 5) 1 x4 ∧ (∀ h9 : Hp, h9 = stI h (ad (hpR h o 5)) (x4).toNatClampNeg x3 → (∀ v10 : Int32, v10 = x4 + (1 : Int32) → (KH v10 h9))))
set_option maxRecDepth 100000 in
def wp_X10_uniteGroups_L9 (o : Nat) (x1 : Int32) (x2 : Int32) (x3 : Int32) (K52 : Hp → Prop) (Q : Hp → Prop) : Nat → Int32 → Hp → Prop
  | 0, _, _ => False
  | n + 1, x4, h => (if (8 : Int32) ≤ x4 then (K52 h) else (((hpK h o).1 = 20 + 8) ∧ (okA h (hpR h o 5) 1 x4 ∧ (∀ v5 : Int32, v5 = hpI h (ad (hpR h o 5)) (x4).toNatClampNeg → ((if v5 = x1 then (wp_X10_uniteGroups_J38 o x1 x2 x3 x4 (wp_X10_uniteGroups_L9 o x1 x2 x3 K52 Q n) K52 Q h) else (okA h (hpR h o 5) 1 x4 ∧ (∀ v12 : Int32, v12 = hpI h (ad (hpR h o 5)) (x4).toNatClampNeg → ((if v12 = x2 then (wp_X10_uniteGroups_J38 o x1 x2 x3 x4 (wp_X10_uniteGroups_L9 o x1 x2 x3 K52 Q n) K52 Q h) else (∀ v14 : Int32, v14 = x4 + (1 : Int32) → (wp_X10_uniteGroups_L9 o x1 x2 x3 K52 Q n v14 h))))))))))))
set_option maxRecDepth 100000 in
def wp_X10_uniteGroups (o : Nat) (x1 : Int32) (x2 : Int32) (h : Hp) (Q : Hp → Prop) : Prop := ∀ v1 : Int32, v1 = (if x2 < x1 then x2 else x1) → (wp_X10_uniteGroups_L9 o x1 x2 v1 (fun (h15 : Hp) => Q h15) Q fuel (0 : Int32) h)
set_option maxHeartbeats 4000000 in
set_option maxRecDepth 100000 in
theorem t_X10_uniteGroups_J38 {p : Program} {l : Launch} {e : Env} {s : State} {m : MethodId} {args : Array Value} {below : List Frame} {meth : Method} {c : Code} {G : GG} {base : Nat} {A : Nat → Nat} {g0 : Hp} (hM : Mx G base p s m args meth c cX10_uniteGroups 5 none RX10 "uniteGroups") (o : Nat) (x1 : Int32) (x2 : Int32) (x3 : Int32) (x4 : Int32) (KH : Int32 → Hp → Prop) (K52 : Hp → Prop) (Q : Hp → Prop) (hKH : ∀ (y4 : Int32) (h : Hp) (H : Heap) (locs : List Loc) (ls : Array Slot), Cx2 G base A g0 A h s.heap H locs → lo_has ls 5 [(0, .ref (A o)), (1, .int x1), (2, .int x2), (3, .int x3), (4, .int y4)] → KH y4 h → W p l e rm_X10_uniteGroups s m args below meth c H locs 0 0 (MQ below (va_Qv Q (PU2 G base A g0 A) (fun q => base ≤ q)) args s 0 0 (fun q => base ≤ q)) (F0 m 9 ls [])) (hK52 : ∀ (h : Hp) (H : Heap) (locs : List Loc) (ls : Array Slot), Cx2 G base A g0 A h s.heap H locs → lo_has ls 5 [] → K52 h → W p l e rm_X10_uniteGroups s m args below meth c H locs 0 0 (MQ below (va_Qv Q (PU2 G base A g0 A) (fun q => base ≤ q)) args s 0 0 (fun q => base ≤ q)) (F0 m 52 ls [])) (h : Hp) (H : Heap) (locs : List Loc) (ls : Array Slot) : Cx2 G base A g0 A h s.heap H locs → lo_has ls 5 [(0, .ref (A o)), (1, .int x1), (2, .int x2), (3, .int x3), (4, .int x4)] → wp_X10_uniteGroups_J38 o x1 x2 x3 x4 KH K52 Q h → W p l e rm_X10_uniteGroups s m args below meth c H locs 0 0 (MQ below (va_Qv Q (PU2 G base A g0 A) (fun q => base ≤ q)) args s 0 0 (fun q => base ≤ q)) (F0 m 38 ls []) := by
  intro hC hl hw
  unfold wp_X10_uniteGroups_J38 at hw
  obtain ⟨hx, hb, hr, hml, hown, hts, hg, hs, hlk, hnm⟩ := id hM
  refine lv_aload_n hx hb dX10_uniteGroups_38 rfl (lo_at hl 0 rfl) ?_
  obtain ⟨k7, hw⟩ := hw
  refine s_getR hx hb hts hown hg hC fb_8_5 k7 mk_f_RX10_27 dX10_uniteGroups_39 ?_
  refine lv_iload hx hb dX10_uniteGroups_42 (lo_at hl 4 rfl) ?_
  refine lv_iload_n hx hb dX10_uniteGroups_44 rfl (lo_at hl 3 rfl) ?_
  obtain ⟨k8, hw⟩ := hw
  refine sf_3 k8.1 ?_
  refine s_iast hx hb hg hC k8.2.1 k8.2.2 dX10_uniteGroups_45 (fun h9 H locs eh9 hC => ?_)
  replace hw := hw h9 eh9
  obtain ⟨v10, ev10⟩ : ∃ y : Int32, y = x4 + (1 : Int32) := ⟨_, rfl⟩
  replace hw := hw v10 ev10
  refine lo_iinc (v := v10) (lv' := [(4, .int v10), (0, .ref (A o)), (1, .int x1), (2, .int x2), (3, .int x3)]) hx hb dX10_uniteGroups_46 hl (k := 4) rfl (by rw [ev10]; rfl) (by decide) rfl (fun ls hl => ?_)
  refine lv_goto (tgt := 9) hx hb dX10_uniteGroups_49 (by decide) ?_
  exact hKH v10 h9 H locs ls hC (lo_sub hl [1, 2, 3, 4, 0] rfl) hw
set_option maxHeartbeats 4000000 in
set_option maxRecDepth 100000 in
theorem t_X10_uniteGroups_L9 {p : Program} {l : Launch} {e : Env} {s : State} {m : MethodId} {args : Array Value} {below : List Frame} {meth : Method} {c : Code} {G : GG} {base : Nat} {A : Nat → Nat} {g0 : Hp} (hM : Mx G base p s m args meth c cX10_uniteGroups 5 none RX10 "uniteGroups") (o : Nat) (x1 : Int32) (x2 : Int32) (x3 : Int32) (K52 : Hp → Prop) (Q : Hp → Prop) (hK52 : ∀ (h : Hp) (H : Heap) (locs : List Loc) (ls : Array Slot), Cx2 G base A g0 A h s.heap H locs → lo_has ls 5 [] → K52 h → W p l e rm_X10_uniteGroups s m args below meth c H locs 0 0 (MQ below (va_Qv Q (PU2 G base A g0 A) (fun q => base ≤ q)) args s 0 0 (fun q => base ≤ q)) (F0 m 52 ls [])) : ∀ (n : Nat) (x4 : Int32) (h : Hp) (H : Heap) (locs : List Loc) (ls : Array Slot), Cx2 G base A g0 A h s.heap H locs → lo_has ls 5 [(0, .ref (A o)), (1, .int x1), (2, .int x2), (3, .int x3), (4, .int x4)] → wp_X10_uniteGroups_L9 o x1 x2 x3 K52 Q n x4 h → W p l e rm_X10_uniteGroups s m args below meth c H locs 0 0 (MQ below (va_Qv Q (PU2 G base A g0 A) (fun q => base ≤ q)) args s 0 0 (fun q => base ≤ q)) (F0 m 9 ls []) := by
  intro n
  induction n with
  | zero =>
    intro x4 h H locs ls hC hl hw
    rw [wp_X10_uniteGroups_L9] at hw
    exact hw.elim
  | succ n ih =>
    intro x4 h H locs ls hC hl hw
    rw [wp_X10_uniteGroups_L9] at hw
    obtain ⟨hx, hb, hr, hml, hown, hts, hg, hs, hlk, hnm⟩ := id hM
    refine lv_iload hx hb dX10_uniteGroups_9 (lo_at hl 4 rfl) ?_
    refine lv_bipush (v := 8) hx hb dX10_uniteGroups_11 (by decide) ?_
    refine lv_icmp_ge (tgt := 52) hx hb dX10_uniteGroups_13 (by decide) (fun c2 => ?_) (fun c2 => ?_)
    ·
      replace hw := (if_pos c2).mp hw
      exact hK52  h H locs ls hC (lo_sub hl [] rfl) hw
    ·
      replace hw := (if_neg c2).mp hw
      refine lv_aload_n hx hb dX10_uniteGroups_16 rfl (lo_at hl 0 rfl) ?_
      obtain ⟨k3, hw⟩ := hw
      refine s_getR hx hb hts hown hg hC fb_8_5 k3 mk_f_RX10_27 dX10_uniteGroups_17 ?_
      refine lv_iload hx hb dX10_uniteGroups_20 (lo_at hl 4 rfl) ?_
      obtain ⟨k4, hw⟩ := hw
      refine sf_2 k4.1 ?_
      refine s_iald hx hb hg hC k4.2.1 k4.2.2 dX10_uniteGroups_22 ?_
      refine lv_topi (fun v5 ev5 => ?_)
      replace hw := hw v5 ev5
      refine lv_iload_n hx hb dX10_uniteGroups_23 rfl (lo_at hl 1 rfl) ?_
      refine lv_icmp_eq (tgt := 38) hx hb dX10_uniteGroups_24 (by decide) (fun c6 => ?_) (fun c6 => ?_)
      ·
        replace hw := (if_pos c6).mp hw
        exact t_X10_uniteGroups_J38 hM o x1 x2 x3 x4 (wp_X10_uniteGroups_L9 o x1 x2 x3 K52 Q n) K52 Q ih hK52 h H locs ls hC (lo_sub hl [0, 1, 2, 3, 4] rfl) hw
      ·
        replace hw := (if_neg c6).mp hw
        refine lv_aload_n hx hb dX10_uniteGroups_27 rfl (lo_at hl 0 rfl) ?_
        refine s_getR hx hb hts hown hg hC fb_8_5 k3 mk_f_RX10_27 dX10_uniteGroups_28 ?_
        refine lv_iload hx hb dX10_uniteGroups_31 (lo_at hl 4 rfl) ?_
        obtain ⟨k11, hw⟩ := hw
        refine sf_2 k11.1 ?_
        refine s_iald hx hb hg hC k11.2.1 k11.2.2 dX10_uniteGroups_33 ?_
        refine lv_topi (fun v12 ev12 => ?_)
        replace hw := hw v12 ev12
        refine lv_iload_n hx hb dX10_uniteGroups_34 rfl (lo_at hl 2 rfl) ?_
        refine lv_icmp_ne (tgt := 46) hx hb dX10_uniteGroups_35 (by decide) (fun c13 => ?_) (fun c13 => ?_)
        ·
          replace hw := (if_neg c13).mp hw
          obtain ⟨v14, ev14⟩ : ∃ y : Int32, y = x4 + (1 : Int32) := ⟨_, rfl⟩
          replace hw := hw v14 ev14
          refine lo_iinc (v := v14) (lv' := [(4, .int v14), (0, .ref (A o)), (1, .int x1), (2, .int x2), (3, .int x3)]) hx hb dX10_uniteGroups_46 hl (k := 4) rfl (by rw [ev14]; rfl) (by decide) rfl (fun ls hl => ?_)
          refine lv_goto (tgt := 9) hx hb dX10_uniteGroups_49 (by decide) ?_
          exact ih v14 h H locs ls hC (lo_sub hl [1, 2, 3, 4, 0] rfl) hw
        ·
          replace hw := (if_pos c13).mp hw
          exact t_X10_uniteGroups_J38 hM o x1 x2 x3 x4 (wp_X10_uniteGroups_L9 o x1 x2 x3 K52 Q n) K52 Q ih hK52 h H locs ls hC (lo_sub hl [0, 1, 2, 3, 4] rfl) hw
set_option maxHeartbeats 4000000 in
set_option maxRecDepth 100000 in
theorem c_X10_uniteGroups (l : Launch) (G : GG) (base : Nat) (A : Nat → Nat) (o : Nat) (x1 : Int32) (x2 : Int32) (h : Hp) (Q : Hp → Prop) (hw : wp_X10_uniteGroups o x1 x2 h Q) : Met l yX10_uniteGroups (ww yX10_uniteGroups cX10_uniteGroups 5 none) rm_X10_uniteGroups (va_Pc [.ref (A o), .int x1, .int x2] (PU2 G base A h A h)) (va_Qv Q (PU2 G base A h A) (fun q => base ≤ q)) 0 0 (fun q => base ≤ q) := by
  refine met2_of (own := RX10) (nm := "uniteGroups") (by decide) rfl rfl (List.forall_mem_cons.mpr ⟨rfl, (List.forall_mem_cons.mpr ⟨rfl, (List.forall_mem_cons.mpr ⟨rfl, (fun _ h => absurd h List.not_mem_nil)⟩)⟩)⟩) (Nat.le_of_ble_eq_true rfl) rfl ?_
  intro p e s m args below meth c H locs ls hM hC hl
  obtain ⟨hx, hb, hr, hml, hown, hts, hg, hs, hlk, hnm⟩ := id hM
  unfold wp_X10_uniteGroups at hw
  refine lv_iload_n hx hb dX10_uniteGroups_0 rfl (lo_at hl 1 rfl) ?_
  refine lv_iload_n hx hb dX10_uniteGroups_1 rfl (lo_at hl 2 rfl) ?_
  refine va_mmin hx hb (by rw [hml]; exact hl.1.1.symm) hown (hts _ mk_m_RX10_30) (hts _ mk_math_s_min) (hts _ mk_ini_math) (hts _ mk_math_c_min) (Nat.le_of_ble_eq_true rfl) (Nat.le_of_ble_eq_true rfl) (Nat.le_of_ble_eq_true rfl) (Nat.le_of_ble_eq_true rfl) dX10_uniteGroups_2 ?_
  refine lv_topi (fun v1 ev1 => ?_)
  replace hw := hw v1 ev1
  refine lo_istore_n (lv' := [(3, .int v1), (0, .ref (A o)), (1, .int x1), (2, .int x2)]) hx hb dX10_uniteGroups_5 rfl hl (by decide) rfl (fun ls hl => ?_)
  refine lv_iconst (v := 0) hx hb dX10_uniteGroups_6 (by decide) ?_
  refine lo_istore (lv' := [(4, .int ((0 : Int32))), (3, .int v1), (0, .ref (A o)), (1, .int x1), (2, .int x2)]) hx hb dX10_uniteGroups_7 hl (by decide) rfl (fun ls hl => ?_)
  refine t_X10_uniteGroups_L9 hM o x1 x2 v1 _ Q ?_ fuel (0 : Int32) h H locs ls hC (lo_sub hl [2, 3, 4, 1, 0] rfl) hw
  intro  h15 H locs ls hC hl hw
  exact ret2_v hM hC hw dX10_uniteGroups_52
