abbrev rm_X0_init : Room := { frames := 1, cells := 1, slots := 32, locals := 80 }
set_option maxRecDepth 100000 in
def wp_X0_init_J27 (o : Nat) (r2 : Option Nat) (x3 : Int32) (s0 : Int32) (s1 : Option Nat) (Q : Hp → Prop) (h : Hp) : Prop := okO h s1 0 ∧ (∀ h9 : Hp, h9 = stI h (ad s1) 2 s0 → (((hpK h9 o).1 = 20 + 0) ∧ (∀ h11 : Hp, h11 = stI h9 o 3 x3 → ((if r2 = none then (okP h11 (some o) ∧ (okP h11 r2 ∧ (∃ q27 : Nat, (hpK h11 q27).1 = 0 ∧ (∀ h28 : Hp, h28 = alc h11 q27 1 32 → (((hpK h28 o).1 = 20 + 0) ∧ (okP h28 (some q27) ∧ (∀ h36 : Hp, h36 = stR h28 o 4 (some q27) → (Q h36)))))))) else (okO h11 r2 1 ∧ ((okN h11 (hpR h11 (ad r2) 3) 1 ∧ (hpK h11 (ad (hpR h11 (ad r2) 3))).2 = 32) ∧ (okP h11 (some o) ∧ (okP h11 r2 ∧ (∃ q15 : Nat, (hpK h11 q15).1 = 0 ∧ (∀ h16 : Hp, h16 = clI h11 q15 (ad (hpR h11 (ad r2) 3)) → (((hpK h16 q15).1 = 1) ∧ (((hpK h16 o).1 = 20 + 0) ∧ (okP h16 (some q15) ∧ (∀ h25 : Hp, h25 = stR h16 o 4 (some q15) → (Q h25))))))))))))))))
set_option maxRecDepth 100000 in
def wp_X0_init (o : Nat) (x1 : Int32) (r2 : Option Nat) (x3 : Int32) (h : Hp) (Q : Hp → Prop) : Prop := ((hpK h o).1 = 20 + 0) ∧ (∀ h2 : Hp, h2 = stI h o 0 x1 → (((hpK h2 o).1 = 20 + 0) ∧ (okP h2 r2 ∧ (∀ h4 : Hp, h4 = stR h2 o 1 r2 → ((if r2 = none then (wp_X0_init_J27 o r2 x3 (-1 : Int32) (some o) Q h4) else (okO h4 r2 1 ∧ (wp_X0_init_J27 o r2 x3 (hpI h4 (ad r2) 5) (some o) Q h4))))))))
set_option maxHeartbeats 4000000 in
set_option maxRecDepth 100000 in
theorem t_X0_init_J27 {p : Program} {l : Launch} {e : Env} {s : State} {m : MethodId} {args : Array Value} {below : List Frame} {meth : Method} {c : Code} {G : GG} {base : Nat} {A0 : Nat → Nat} {g0 : Hp} (hM : Mx G base p s m args meth c cX0_init 4 none RX0 "<init>") (o : Nat) (r2 : Option Nat) (x3 : Int32) (s0 : Int32) (s1 : Option Nat) (Q : Hp → Prop) (A : Nat → Nat) (h : Hp) (H : Heap) (locs : List Loc) (ls : Array Slot) : Cx2 G base A0 g0 A h s.heap H locs → lo_has ls 4 [(0, .ref (A o)), (2, va_rf (Option.map A r2)), (3, .int x3)] → wp_X0_init_J27 o r2 x3 s0 s1 Q h → W p l e rm_X0_init s m args below meth c H locs 0 0 (MQ below (va_Qv (fun (u : (Nat → Nat) × Hp) => Q u.2) (fun u t => PU2 G base A0 g0 u.1 u.2 t) (fun q => base ≤ q)) args s 1 32 (fun q => base ≤ q)) (F0 m 27 ls [.int s0, va_rf (Option.map A s1)]) := by
  intro hC hl hw
  unfold wp_X0_init_J27 at hw
  obtain ⟨hx, hb, hr, hml, hown, hts, hg, hs, hlk, hnm⟩ := id hM
  obtain ⟨k8, hw⟩ := hw
  refine sf_2 k8.1 ?_
  refine s_putFI hx hb hts hown hnm hg hC fb_0_2 k8.2 rfl rfl mk_f_RX0_24 dX0_init_27 (fun h9 H locs eh9 hC => ?_)
  replace hw := hw h9 eh9
  refine lv_aload_n hx hb dX0_init_30 rfl (lo_at hl 0 rfl) ?_
  refine lv_iload_n hx hb dX0_init_31 rfl (lo_at hl 2 rfl) ?_
  obtain ⟨k10, hw⟩ := hw
  refine s_putFI hx hb hts hown hnm hg hC fb_0_3 k10 rfl rfl mk_f_RX0_27 dX0_init_32 (fun h11 H locs eh11 hC => ?_)
  replace hw := hw h11 eh11
  refine lv_aload_n hx hb dX0_init_35 rfl (lo_at hl 0 rfl) ?_
  refine lo_aload_n (r := Option.map A r2) hx hb dX0_init_36 rfl (lo_at hl 1 rfl) ?_
  refine s_ifnonnull (r := r2) (A := A) (tgt := 47) hx hb dX0_init_37 (by decide) (fun c12 => ?_) (fun c12 => ?_)
  ·
    replace hw := (if_neg c12).mp hw
    refine lo_aload_n (r := Option.map A r2) hx hb dX0_init_47 rfl (lo_at hl 1 rfl) ?_
    obtain ⟨k13, hw⟩ := hw
    refine sf_1 k13.1 ?_
    refine s_getR hx hb hts hown hg hC fb_1_3 k13.2 mk_f_RX0_30 dX0_init_48 ?_
    obtain ⟨k14, hw⟩ := hw
    refine sf_1 k14.1.1 ?_
    obtain ⟨k18, hw⟩ := hw
    obtain ⟨k19, hw⟩ := hw
    obtain ⟨q15, k17, hw⟩ := hw
    refine s_clone hM hC (by rw [hml]; exact hl.1.1.symm) mk_m_RX0_34 q15 k17 k14.1.2 k14.2 (Nat.le_of_ble_eq_true rfl) (Nat.le_of_ble_eq_true rfl) (Nat.le_of_ble_eq_true rfl) (Nat.le_of_ble_eq_true rfl) dX0_init_51 (fun A20 h16 H eh16 hE hC => ?_)
    replace hw := hw h16 eh16
    have e21 : A o = A20 o := ((hE _ (k18 _ rfl)).2).symm
    try rw [e21] at hl
    try rw [e21]
    have e22 : Option.map A r2 = Option.map A20 r2 := hE.map k19
    try rw [e22] at hl
    try rw [e22]
    refine W.widen (k := 1) (n := 32) (Nat.le_of_ble_eq_true rfl) (Nat.le_of_ble_eq_true rfl) ?_
    obtain ⟨k23, hw⟩ := hw
    refine s_cast hx hb hown (hts _ mk_c_RX0_35) hg hC k23 dX0_init_54 ?_
    obtain ⟨k24, hw⟩ := hw
    obtain ⟨k26, hw⟩ := hw
    refine s_putFR (v := some q15) hx hb hts hown hnm hg hC fb_0_4 k24 k26 (nv_a) (fv_a) mk_f_RX0_39 dX0_init_57 (fun h25 H locs eh25 hC => ?_)
    replace hw := hw h25 eh25
    exact ret2_va hM hC hw dX0_init_60
  ·
    replace hw := (if_pos c12).mp hw
    refine lv_bipush (v := 32) hx hb dX0_init_40 (by decide) ?_
    obtain ⟨k30, hw⟩ := hw
    obtain ⟨k31, hw⟩ := hw
    obtain ⟨q27, k29, hw⟩ := hw
    refine s_newI (N := 32) hx hb hts mk_arc_int hg hC q27 k29 (by decide) rfl (by decide) (Nat.le_of_ble_eq_true rfl) (Nat.le_of_ble_eq_true rfl) dX0_init_42 (fun A32 h28 H eh28 hE hC => ?_)
    replace hw := hw h28 eh28
    have e33 : A o = A32 o := ((hE _ (k30 _ rfl)).2).symm
    try rw [e33] at hl
    try rw [e33]
    have e34 : Option.map A r2 = Option.map A32 r2 := hE.map k31
    try rw [e34] at hl
    try rw [e34]
    refine W.widen (k := 1) (n := 32) (Nat.le_of_ble_eq_true rfl) (Nat.le_of_ble_eq_true rfl) ?_
    refine lv_goto (tgt := 57) hx hb dX0_init_44 (by decide) ?_
    obtain ⟨k35, hw⟩ := hw
    obtain ⟨k37, hw⟩ := hw
    refine s_putFR (v := some q27) hx hb hts hown hnm hg hC fb_0_4 k35 k37 (nv_a) (fv_a) mk_f_RX0_39 dX0_init_57 (fun h36 H locs eh36 hC => ?_)
    replace hw := hw h36 eh36
    exact ret2_va hM hC hw dX0_init_60
set_option maxHeartbeats 4000000 in
set_option maxRecDepth 100000 in
theorem c_X0_init (l : Launch) (G : GG) (base : Nat) (A : Nat → Nat) (o : Nat) (x1 : Int32) (r2 : Option Nat) (x3 : Int32) (h : Hp) (Q : Hp → Prop) (hw : wp_X0_init o x1 r2 x3 h Q) : Met l yX0_init (ww yX0_init cX0_init 4 none) rm_X0_init (va_Pc [.ref (A o), .int x1, va_rf (Option.map A r2), .int x3] (PU2 G base A h A h)) (va_Qv (fun (u : (Nat → Nat) × Hp) => Q u.2) (fun u t => PU2 G base A h u.1 u.2 t) (fun q => base ≤ q)) 1 32 (fun q => base ≤ q) := by
  refine met2_of (own := RX0) (nm := "<init>") (by decide) rfl rfl (List.forall_mem_cons.mpr ⟨rfl, (List.forall_mem_cons.mpr ⟨rfl, (List.forall_mem_cons.mpr ⟨va_rf_cat _, (List.forall_mem_cons.mpr ⟨rfl, (fun _ h => absurd h List.not_mem_nil)⟩)⟩)⟩)⟩) (Nat.le_of_ble_eq_true rfl) rfl ?_
  intro p e s m args below meth c H locs ls hM hC hl
  obtain ⟨hx, hb, hr, hml, hown, hts, hg, hs, hlk, hnm⟩ := id hM
  unfold wp_X0_init at hw
  refine lv_aload_n hx hb dX0_init_0 rfl (lo_at hl 0 rfl) ?_
  refine r_oi hx hb hown (hts _ mk_m_RX0_3) (hts _ mk_oi_i) (hts _ mk_oi_c) (by rw [hml]; exact hl.1.1) dX0_init_1 (Nat.le_of_ble_eq_true rfl) (Nat.le_of_ble_eq_true rfl) ?_
  refine lv_aload_n hx hb dX0_init_4 rfl (lo_at hl 0 rfl) ?_
  refine lv_iload_n hx hb dX0_init_5 rfl (lo_at hl 1 rfl) ?_
  obtain ⟨k1, hw⟩ := hw
  refine s_putFI hx hb hts hown hnm hg hC fb_0_0 k1 rfl rfl mk_f_RX0_9 dX0_init_6 (fun h2 H locs eh2 hC => ?_)
  replace hw := hw h2 eh2
  refine lv_aload_n hx hb dX0_init_9 rfl (lo_at hl 0 rfl) ?_
  refine lo_aload_n (r := Option.map A r2) hx hb dX0_init_10 rfl (lo_at hl 2 rfl) ?_
  obtain ⟨k3, hw⟩ := hw
  obtain ⟨k5, hw⟩ := hw
  refine s_putFR (v := r2) hx hb hts hown hnm hg hC fb_0_1 k3 k5 (nv_o) (fv_o) mk_f_RX0_15 dX0_init_11 (fun h4 H locs eh4 hC => ?_)
  replace hw := hw h4 eh4
  refine lv_aload_n hx hb dX0_init_14 rfl (lo_at hl 0 rfl) ?_
  refine lo_aload_n (r := Option.map A r2) hx hb dX0_init_15 rfl (lo_at hl 2 rfl) ?_
  refine s_ifnonnull (r := r2) (A := A) (tgt := 23) hx hb dX0_init_16 (by decide) (fun c6 => ?_) (fun c6 => ?_)
  ·
    replace hw := (if_neg c6).mp hw
    refine lo_aload_n (r := Option.map A r2) hx hb dX0_init_23 rfl (lo_at hl 2 rfl) ?_
    obtain ⟨k7, hw⟩ := hw
    refine sf_1 k7.1 ?_
    refine s_getI hx hb hts hown hg hC fb_1_5 k7.2 mk_f_RX0_19 dX0_init_24 ?_
    exact t_X0_init_J27 hM o r2 x3 (hpI h4 (ad r2) 5) (some o) Q  A h4 H locs ls hC (lo_sub hl [0, 2, 3] rfl) hw
  ·
    replace hw := (if_pos c6).mp hw
    refine lv_iconst (v := -1) hx hb dX0_init_19 (by decide) ?_
    refine lv_goto (tgt := 27) hx hb dX0_init_20 (by decide) ?_
    exact t_X0_init_J27 hM o r2 x3 (-1 : Int32) (some o) Q  A h4 H locs ls hC (lo_sub hl [0, 2, 3] rfl) hw
abbrev rm_X0_missing : Room := { frames := 0, cells := 0, slots := 0, locals := 0 }
set_option maxRecDepth 100000 in
def wp_X0_missing_L4 (o : Nat) (K29 : Int32 → Hp → Prop) (Q : Int32 → Hp → Prop) : Nat → Int32 → Int32 → Hp → Prop
  | 0, _, _, _ => False
  | n + 1, x1, x2, h => (if (32 : Int32) ≤ x2 then (K29 x1 h) else (((hpK h o).1 = 20 + 0) ∧ (okA h (hpR h o 4) 1 x2 ∧ (∀ v4 : Int32, v4 = hpI h (ad (hpR h o 4)) (x2).toNatClampNeg → ((if v4 = (-1 : Int32) then (∀ v7 : Int32, v7 = x1 + (1 : Int32) → (∀ v8 : Int32, v8 = x2 + (1 : Int32) → (wp_X0_missing_L4 o K29 Q n v7 v8 h))) else (∀ v6 : Int32, v6 = x2 + (1 : Int32) → (wp_X0_missing_L4 o K29 Q n x1 v6 h))))))))
set_option maxRecDepth 100000 in
def wp_X0_missing (o : Nat) (h : Hp) (Q : Int32 → Hp → Prop) : Prop := wp_X0_missing_L4 o (fun (y10 : Int32) (h9 : Hp) => Q y10 h9) Q fuel (0 : Int32) (0 : Int32) h
set_option maxHeartbeats 4000000 in
set_option maxRecDepth 100000 in
theorem t_X0_missing_L4 {p : Program} {l : Launch} {e : Env} {s : State} {m : MethodId} {args : Array Value} {below : List Frame} {meth : Method} {c : Code} {G : GG} {base : Nat} {A : Nat → Nat} {g0 : Hp} (hM : Mx G base p s m args meth c cX0_missing 3 (some .int) RX0 "missing") (o : Nat) (K29 : Int32 → Hp → Prop) (Q : Int32 → Hp → Prop) (hK29 : ∀ (y1 : Int32) (h : Hp) (H : Heap) (locs : List Loc) (ls : Array Slot), Cx2 G base A g0 A h s.heap H locs → lo_has ls 3 [(1, .int y1)] → K29 y1 h → W p l e rm_X0_missing s m args below meth c H locs 0 0 (MQ below (va_Qi Q (PU2 G base A g0 A) (fun q => base ≤ q)) args s 0 0 (fun q => base ≤ q)) (F0 m 29 ls [])) : ∀ (n : Nat) (x1 : Int32) (x2 : Int32) (h : Hp) (H : Heap) (locs : List Loc) (ls : Array Slot), Cx2 G base A g0 A h s.heap H locs → lo_has ls 3 [(0, .ref (A o)), (1, .int x1), (2, .int x2)] → wp_X0_missing_L4 o K29 Q n x1 x2 h → W p l e rm_X0_missing s m args below meth c H locs 0 0 (MQ below (va_Qi Q (PU2 G base A g0 A) (fun q => base ≤ q)) args s 0 0 (fun q => base ≤ q)) (F0 m 4 ls []) := by
  intro n
  induction n with
  | zero =>
    intro x1 x2 h H locs ls hC hl hw
    rw [wp_X0_missing_L4] at hw
    exact hw.elim
  | succ n ih =>
    intro x1 x2 h H locs ls hC hl hw
    rw [wp_X0_missing_L4] at hw
    obtain ⟨hx, hb, hr, hml, hown, hts, hg, hs, hlk, hnm⟩ := id hM
    refine lv_iload_n hx hb dX0_missing_4 rfl (lo_at hl 2 rfl) ?_
    refine lv_bipush (v := 32) hx hb dX0_missing_5 (by decide) ?_
    refine lv_icmp_ge (tgt := 29) hx hb dX0_missing_7 (by decide) (fun c1 => ?_) (fun c1 => ?_)
    ·
      replace hw := (if_pos c1).mp hw
      exact hK29 x1 h H locs ls hC (lo_sub hl [1] rfl) hw
    ·
      replace hw := (if_neg c1).mp hw
      refine lv_aload_n hx hb dX0_missing_10 rfl (lo_at hl 0 rfl) ?_
      obtain ⟨k2, hw⟩ := hw
      refine s_getR hx hb hts hown hg hC fb_0_4 k2 mk_f_RX0_39 dX0_missing_11 ?_
      refine lv_iload_n hx hb dX0_missing_14 rfl (lo_at hl 2 rfl) ?_
      obtain ⟨k3, hw⟩ := hw
      refine sf_2 k3.1 ?_
      refine s_iald hx hb hg hC k3.2.1 k3.2.2 dX0_missing_15 ?_
      refine lv_topi (fun v4 ev4 => ?_)
      replace hw := hw v4 ev4
      refine lv_iconst (v := -1) hx hb dX0_missing_16 (by decide) ?_
      refine lv_icmp_ne (tgt := 23) hx hb dX0_missing_17 (by decide) (fun c5 => ?_) (fun c5 => ?_)
      ·
        replace hw := (if_neg c5).mp hw
        obtain ⟨v6, ev6⟩ : ∃ y : Int32, y = x2 + (1 : Int32) := ⟨_, rfl⟩
        replace hw := hw v6 ev6
        refine lo_iinc (v := v6) (lv' := [(2, .int v6), (0, .ref (A o)), (1, .int x1)]) hx hb dX0_missing_23 hl (k := 2) rfl (by rw [ev6]; rfl) (by decide) rfl (fun ls hl => ?_)
        refine lv_goto (tgt := 4) hx hb dX0_missing_26 (by decide) ?_
        exact ih x1 v6 h H locs ls hC (lo_sub hl [1, 2, 0] rfl) hw
      ·
        replace hw := (if_pos c5).mp hw
        obtain ⟨v7, ev7⟩ : ∃ y : Int32, y = x1 + (1 : Int32) := ⟨_, rfl⟩
        replace hw := hw v7 ev7
        refine lo_iinc (v := v7) (lv' := [(1, .int v7), (0, .ref (A o)), (2, .int x2)]) hx hb dX0_missing_20 hl (k := 1) rfl (by rw [ev7]; rfl) (by decide) rfl (fun ls hl => ?_)
        obtain ⟨v8, ev8⟩ : ∃ y : Int32, y = x2 + (1 : Int32) := ⟨_, rfl⟩
        replace hw := hw v8 ev8
        refine lo_iinc (v := v8) (lv' := [(2, .int v8), (1, .int v7), (0, .ref (A o))]) hx hb dX0_missing_23 hl (k := 2) rfl (by rw [ev8]; rfl) (by decide) rfl (fun ls hl => ?_)
        refine lv_goto (tgt := 4) hx hb dX0_missing_26 (by decide) ?_
        exact ih v7 v8 h H locs ls hC (lo_sub hl [2, 1, 0] rfl) hw
set_option maxHeartbeats 4000000 in
set_option maxRecDepth 100000 in
theorem c_X0_missing (l : Launch) (G : GG) (base : Nat) (A : Nat → Nat) (o : Nat) (h : Hp) (Q : Int32 → Hp → Prop) (hw : wp_X0_missing o h Q) : Met l yX0_missing (ww yX0_missing cX0_missing 3 (some .int)) rm_X0_missing (va_Pc [.ref (A o)] (PU2 G base A h A h)) (va_Qi Q (PU2 G base A h A) (fun q => base ≤ q)) 0 0 (fun q => base ≤ q) := by
  refine met2_of (own := RX0) (nm := "missing") (by decide) rfl rfl (List.forall_mem_cons.mpr ⟨rfl, (fun _ h => absurd h List.not_mem_nil)⟩) (Nat.le_of_ble_eq_true rfl) rfl ?_
  intro p e s m args below meth c H locs ls hM hC hl
  obtain ⟨hx, hb, hr, hml, hown, hts, hg, hs, hlk, hnm⟩ := id hM
  unfold wp_X0_missing at hw
  refine lv_iconst (v := 0) hx hb dX0_missing_0 (by decide) ?_
  refine lo_istore_n (lv' := [(1, .int ((0 : Int32))), (0, .ref (A o))]) hx hb dX0_missing_1 rfl hl (by decide) rfl (fun ls hl => ?_)
  refine lv_iconst (v := 0) hx hb dX0_missing_2 (by decide) ?_
  refine lo_istore_n (lv' := [(2, .int ((0 : Int32))), (1, .int ((0 : Int32))), (0, .ref (A o))]) hx hb dX0_missing_3 rfl hl (by decide) rfl (fun ls hl => ?_)
  refine t_X0_missing_L4 hM o _ Q ?_ fuel (0 : Int32) (0 : Int32) h H locs ls hC (lo_sub hl [2, 1, 0] rfl) hw
  intro y10 h9 H locs ls hC hl hw
  refine lv_iload_n hx hb dX0_missing_29 rfl (lo_at hl 0 rfl) ?_
  exact ret2_i hM hC hw dX0_missing_30
abbrev rm_X1_init : Room := { frames := 1, cells := 1, slots := 32, locals := 80 }
set_option maxRecDepth 100000 in
def wp_X1_init (o : Nat) (x1 : Int32) (x2 : Int32) (r3 : Option Nat) (h : Hp) (Q : Hp → Prop) : Prop := ((hpK h o).1 = 20 + 1) ∧ (∀ h2 : Hp, h2 = stI h o 0 x1 → (((hpK h2 o).1 = 20 + 1) ∧ (∀ h4 : Hp, h4 = stI h2 o 1 x2 → (okO h4 r3 7 ∧ (((hpK h4 o).1 = 20 + 1) ∧ (∀ h7 : Hp, h7 = stI h4 o 2 (hpI h4 (ad r3) 2) → (okO h7 r3 7 ∧ ((okN h7 (hpR h7 (ad r3) 0) 1 ∧ (hpK h7 (ad (hpR h7 (ad r3) 0))).2 = 32) ∧ (okP h7 (some o) ∧ (okP h7 r3 ∧ (∃ q10 : Nat, (hpK h7 q10).1 = 0 ∧ (∀ h11 : Hp, h11 = clI h7 q10 (ad (hpR h7 (ad r3) 0)) → (((hpK h11 q10).1 = 1) ∧ (((hpK h11 o).1 = 20 + 1) ∧ (okP h11 (some q10) ∧ (∀ h20 : Hp, h20 = stR h11 o 3 (some q10) → (okO h20 r3 7 ∧ (((hpK h20 o).1 = 20 + 1) ∧ (∀ h24 : Hp, h24 = stI h20 o 4 (hpI h20 (ad r3) 1) → (Q h24))))))))))))))))))))
set_option maxHeartbeats 4000000 in
set_option maxRecDepth 100000 in
theorem c_X1_init (l : Launch) (G : GG) (base : Nat) (A : Nat → Nat) (o : Nat) (x1 : Int32) (x2 : Int32) (r3 : Option Nat) (h : Hp) (Q : Hp → Prop) (hw : wp_X1_init o x1 x2 r3 h Q) : Met l yX1_init (ww yX1_init cX1_init 4 none) rm_X1_init (va_Pc [.ref (A o), .int x1, .int x2, va_rf (Option.map A r3)] (PU2 G base A h A h)) (va_Qv (fun (u : (Nat → Nat) × Hp) => Q u.2) (fun u t => PU2 G base A h u.1 u.2 t) (fun q => base ≤ q)) 1 32 (fun q => base ≤ q) := by
  refine met2_of (own := RX1) (nm := "<init>") (by decide) rfl rfl (List.forall_mem_cons.mpr ⟨rfl, (List.forall_mem_cons.mpr ⟨rfl, (List.forall_mem_cons.mpr ⟨rfl, (List.forall_mem_cons.mpr ⟨va_rf_cat _, (fun _ h => absurd h List.not_mem_nil)⟩)⟩)⟩)⟩) (Nat.le_of_ble_eq_true rfl) rfl ?_
  intro p e s m args below meth c H locs ls hM hC hl
  obtain ⟨hx, hb, hr, hml, hown, hts, hg, hs, hlk, hnm⟩ := id hM
  unfold wp_X1_init at hw
  refine lv_aload_n hx hb dX1_init_0 rfl (lo_at hl 0 rfl) ?_
  refine r_oi hx hb hown (hts _ mk_m_RX1_1) (hts _ mk_oi_i) (hts _ mk_oi_c) (by rw [hml]; exact hl.1.1) dX1_init_1 (Nat.le_of_ble_eq_true rfl) (Nat.le_of_ble_eq_true rfl) ?_
  refine lv_aload_n hx hb dX1_init_4 rfl (lo_at hl 0 rfl) ?_
  refine lv_iload_n hx hb dX1_init_5 rfl (lo_at hl 1 rfl) ?_
  obtain ⟨k1, hw⟩ := hw
  refine s_putFI hx hb hts hown hnm hg hC fb_1_0 k1 rfl rfl mk_f_RX1_7 dX1_init_6 (fun h2 H locs eh2 hC => ?_)
  replace hw := hw h2 eh2
  refine lv_aload_n hx hb dX1_init_9 rfl (lo_at hl 0 rfl) ?_
  refine lv_iload_n hx hb dX1_init_10 rfl (lo_at hl 2 rfl) ?_
  obtain ⟨k3, hw⟩ := hw
  refine s_putFI hx hb hts hown hnm hg hC fb_1_1 k3 rfl rfl mk_f_RX1_13 dX1_init_11 (fun h4 H locs eh4 hC => ?_)
  replace hw := hw h4 eh4
  refine lv_aload_n hx hb dX1_init_14 rfl (lo_at hl 0 rfl) ?_
  refine lo_aload_n (r := Option.map A r3) hx hb dX1_init_15 rfl (lo_at hl 3 rfl) ?_
  obtain ⟨k5, hw⟩ := hw
  refine sf_1 k5.1 ?_
  refine s_getI hx hb hts hown hg hC fb_7_2 k5.2 mk_f_RX1_16 dX1_init_16 ?_
  obtain ⟨k6, hw⟩ := hw
  refine s_putFI hx hb hts hown hnm hg hC fb_1_2 k6 rfl rfl mk_f_RX1_21 dX1_init_19 (fun h7 H locs eh7 hC => ?_)
  replace hw := hw h7 eh7
  refine lv_aload_n hx hb dX1_init_22 rfl (lo_at hl 0 rfl) ?_
  refine lo_aload_n (r := Option.map A r3) hx hb dX1_init_23 rfl (lo_at hl 3 rfl) ?_
  obtain ⟨k8, hw⟩ := hw
  refine sf_1 k8.1 ?_
  refine s_getR hx hb hts hown hg hC fb_7_0 k8.2 mk_f_RX1_24 dX1_init_24 ?_
  obtain ⟨k9, hw⟩ := hw
  refine sf_1 k9.1.1 ?_
  obtain ⟨k13, hw⟩ := hw
  obtain ⟨k14, hw⟩ := hw
  obtain ⟨q10, k12, hw⟩ := hw
  refine s_clone hM hC (by rw [hml]; exact hl.1.1.symm) mk_m_RX1_28 q10 k12 k9.1.2 k9.2 (Nat.le_of_ble_eq_true rfl) (Nat.le_of_ble_eq_true rfl) (Nat.le_of_ble_eq_true rfl) (Nat.le_of_ble_eq_true rfl) dX1_init_27 (fun A15 h11 H eh11 hE hC => ?_)
  replace hw := hw h11 eh11
  have e16 : A o = A15 o := ((hE _ (k13 _ rfl)).2).symm
  try rw [e16] at hl
  try rw [e16]
  have e17 : Option.map A r3 = Option.map A15 r3 := hE.map k14
  try rw [e17] at hl
  try rw [e17]
  refine W.widen (k := 1) (n := 32) (Nat.le_of_ble_eq_true rfl) (Nat.le_of_ble_eq_true rfl) ?_
  obtain ⟨k18, hw⟩ := hw
  refine s_cast hx hb hown (hts _ mk_c_RX1_29) hg hC k18 dX1_init_30 ?_
  obtain ⟨k19, hw⟩ := hw
  obtain ⟨k21, hw⟩ := hw
  refine s_putFR (v := some q10) hx hb hts hown hnm hg hC fb_1_3 k19 k21 (nv_a) (fv_a) mk_f_RX1_33 dX1_init_33 (fun h20 H locs eh20 hC => ?_)
  replace hw := hw h20 eh20
  refine lv_aload_n hx hb dX1_init_36 rfl (lo_at hl 0 rfl) ?_
  refine lo_aload_n (r := Option.map A15 r3) hx hb dX1_init_37 rfl (lo_at hl 3 rfl) ?_
  obtain ⟨k22, hw⟩ := hw
  refine sf_1 k22.1 ?_
  refine s_getI hx hb hts hown hg hC fb_7_1 k22.2 mk_f_RX1_34 dX1_init_38 ?_
  obtain ⟨k23, hw⟩ := hw
  refine s_putI hx hb hts hown hg hC fb_1_4 k23 rfl rfl mk_f_RX1_37 dX1_init_41 (fun h24 H locs eh24 hC => ?_)
  replace hw := hw h24 eh24
  exact ret2_va hM hC hw dX1_init_44
abbrev rm_X2_pack : Room := { frames := 0, cells := 0, slots := 0, locals := 0 }
set_option maxRecDepth 100000 in
def wp_X2_pack (x0 : Int32) (x1 : Int32) (x2 : Int32) (h : Hp) (Q : Int32 → Hp → Prop) : Prop := Q ((x0 ||| (x1 <<< ((6 : Int32) &&& 31))) ||| (x2 <<< ((11 : Int32) &&& 31))) h
set_option maxHeartbeats 4000000 in
set_option maxRecDepth 100000 in
theorem c_X2_pack (l : Launch) (G : GG) (base : Nat) (A : Nat → Nat) (x0 : Int32) (x1 : Int32) (x2 : Int32) (h : Hp) (Q : Int32 → Hp → Prop) (hw : wp_X2_pack x0 x1 x2 h Q) : Met l yX2_pack (ww yX2_pack cX2_pack 3 (some .int)) rm_X2_pack (va_Pc [.int x0, .int x1, .int x2] (PU2 G base A h A h)) (va_Qi Q (PU2 G base A h A) (fun q => base ≤ q)) 0 0 (fun q => base ≤ q) := by
  refine met2_of (own := RX2) (nm := "pack") (by decide) rfl rfl (List.forall_mem_cons.mpr ⟨rfl, (List.forall_mem_cons.mpr ⟨rfl, (List.forall_mem_cons.mpr ⟨rfl, (fun _ h => absurd h List.not_mem_nil)⟩)⟩)⟩) (Nat.le_of_ble_eq_true rfl) rfl ?_
  intro p e s m args below meth c H locs ls hM hC hl
  obtain ⟨hx, hb, hr, hml, hown, hts, hg, hs, hlk, hnm⟩ := id hM
  unfold wp_X2_pack at hw
  refine lv_iload_n hx hb dX2_pack_0 rfl (lo_at hl 0 rfl) ?_
  refine lv_iload_n hx hb dX2_pack_1 rfl (lo_at hl 1 rfl) ?_
  refine lv_bipush (v := 6) hx hb dX2_pack_2 (by decide) ?_
  refine lv_ishl hx hb dX2_pack_4 ?_
  refine lv_ior hx hb dX2_pack_5 ?_
  refine lv_iload_n hx hb dX2_pack_6 rfl (lo_at hl 2 rfl) ?_
  refine lv_bipush (v := 11) hx hb dX2_pack_7 (by decide) ?_
  refine lv_ishl hx hb dX2_pack_9 ?_
  refine lv_ior hx hb dX2_pack_10 ?_
  exact ret2_i hM hC hw dX2_pack_11
abbrev rm_X2_many : Room := { frames := 0, cells := 0, slots := 0, locals := 0 }
set_option maxRecDepth 100000 in
def wp_X2_many (x0 : Int32) (h : Hp) (Q : Int32 → Hp → Prop) : Prop := Q (x0 &&& (63 : Int32)) h
set_option maxHeartbeats 4000000 in
set_option maxRecDepth 100000 in
theorem c_X2_many (l : Launch) (G : GG) (base : Nat) (A : Nat → Nat) (x0 : Int32) (h : Hp) (Q : Int32 → Hp → Prop) (hw : wp_X2_many x0 h Q) : Met l yX2_many (ww yX2_many cX2_many 1 (some .int)) rm_X2_many (va_Pc [.int x0] (PU2 G base A h A h)) (va_Qi Q (PU2 G base A h A) (fun q => base ≤ q)) 0 0 (fun q => base ≤ q) := by
  refine met2_of (own := RX2) (nm := "many") (by decide) rfl rfl (List.forall_mem_cons.mpr ⟨rfl, (fun _ h => absurd h List.not_mem_nil)⟩) (Nat.le_of_ble_eq_true rfl) rfl ?_
  intro p e s m args below meth c H locs ls hM hC hl
  obtain ⟨hx, hb, hr, hml, hown, hts, hg, hs, hlk, hnm⟩ := id hM
  unfold wp_X2_many at hw
  refine lv_iload_n hx hb dX2_many_0 rfl (lo_at hl 0 rfl) ?_
  refine lv_bipush (v := 63) hx hb dX2_many_1 (by decide) ?_
  refine lv_iand hx hb dX2_many_3 ?_
  exact ret2_i hM hC hw dX2_many_4
abbrev rm_X2_slide : Room := { frames := 0, cells := 0, slots := 0, locals := 0 }
set_option maxRecDepth 100000 in
def wp_X2_slide (x0 : Int32) (h : Hp) (Q : Int32 → Hp → Prop) : Prop := Q ((((x0).toUInt32 >>> (((6 : Int32)).toUInt32 &&& Int32.toUInt32 31)).toInt32) &&& (31 : Int32)) h
set_option maxHeartbeats 4000000 in
set_option maxRecDepth 100000 in
theorem c_X2_slide (l : Launch) (G : GG) (base : Nat) (A : Nat → Nat) (x0 : Int32) (h : Hp) (Q : Int32 → Hp → Prop) (hw : wp_X2_slide x0 h Q) : Met l yX2_slide (ww yX2_slide cX2_slide 1 (some .int)) rm_X2_slide (va_Pc [.int x0] (PU2 G base A h A h)) (va_Qi Q (PU2 G base A h A) (fun q => base ≤ q)) 0 0 (fun q => base ≤ q) := by
  refine met2_of (own := RX2) (nm := "slide") (by decide) rfl rfl (List.forall_mem_cons.mpr ⟨rfl, (fun _ h => absurd h List.not_mem_nil)⟩) (Nat.le_of_ble_eq_true rfl) rfl ?_
  intro p e s m args below meth c H locs ls hM hC hl
  obtain ⟨hx, hb, hr, hml, hown, hts, hg, hs, hlk, hnm⟩ := id hM
  unfold wp_X2_slide at hw
  refine lv_iload_n hx hb dX2_slide_0 rfl (lo_at hl 0 rfl) ?_
  refine lv_bipush (v := 6) hx hb dX2_slide_1 (by decide) ?_
  refine lv_iushr hx hb dX2_slide_3 (v := ((x0).toUInt32 >>> (((6 : Int32)).toUInt32 &&& Int32.toUInt32 31)).toInt32) rfl ?_
  refine lv_bipush (v := 31) hx hb dX2_slide_4 (by decide) ?_
  refine lv_iand hx hb dX2_slide_6 ?_
  exact ret2_i hM hC hw dX2_slide_7
abbrev rm_X2_longest : Room := { frames := 0, cells := 0, slots := 0, locals := 0 }
set_option maxRecDepth 100000 in
def wp_X2_longest (x0 : Int32) (h : Hp) (Q : Int32 → Hp → Prop) : Prop := Q ((((x0).toUInt32 >>> (((11 : Int32)).toUInt32 &&& Int32.toUInt32 31)).toInt32) &&& (63 : Int32)) h
set_option maxHeartbeats 4000000 in
set_option maxRecDepth 100000 in
theorem c_X2_longest (l : Launch) (G : GG) (base : Nat) (A : Nat → Nat) (x0 : Int32) (h : Hp) (Q : Int32 → Hp → Prop) (hw : wp_X2_longest x0 h Q) : Met l yX2_longest (ww yX2_longest cX2_longest 1 (some .int)) rm_X2_longest (va_Pc [.int x0] (PU2 G base A h A h)) (va_Qi Q (PU2 G base A h A) (fun q => base ≤ q)) 0 0 (fun q => base ≤ q) := by
  refine met2_of (own := RX2) (nm := "longest") (by decide) rfl rfl (List.forall_mem_cons.mpr ⟨rfl, (fun _ h => absurd h List.not_mem_nil)⟩) (Nat.le_of_ble_eq_true rfl) rfl ?_
  intro p e s m args below meth c H locs ls hM hC hl
  obtain ⟨hx, hb, hr, hml, hown, hts, hg, hs, hlk, hnm⟩ := id hM
  unfold wp_X2_longest at hw
  refine lv_iload_n hx hb dX2_longest_0 rfl (lo_at hl 0 rfl) ?_
  refine lv_bipush (v := 11) hx hb dX2_longest_1 (by decide) ?_
  refine lv_iushr hx hb dX2_longest_3 (v := ((x0).toUInt32 >>> (((11 : Int32)).toUInt32 &&& Int32.toUInt32 31)).toInt32) rfl ?_
  refine lv_bipush (v := 63) hx hb dX2_longest_4 (by decide) ?_
  refine lv_iand hx hb dX2_longest_6 ?_
  exact ret2_i hM hC hw dX2_longest_7
abbrev rm_X2_likeness : Room := { frames := 1, cells := 0, slots := 0, locals := 20 }
set_option maxRecDepth 100000 in
def wp_X2_likeness (x0 : Int32) (x1 : Int32) (h : Hp) (Q : Int32 → Hp → Prop) : Prop := wp_X2_many x0 h (fun (z2 : Int32) (h1 : Hp) => wp_X2_longest x0 h1 (fun (z4 : Int32) (h3 : Hp) => Q ((((z2 * (64 : Int32)) + z4) * (64 : Int32)) + ((63 : Int32) - x1)) h3))
set_option maxHeartbeats 4000000 in
set_option maxRecDepth 100000 in
theorem c_X2_likeness (l : Launch) (G : GG) (base : Nat) (A : Nat → Nat) (x0 : Int32) (x1 : Int32) (h : Hp) (Q : Int32 → Hp → Prop) (hw : wp_X2_likeness x0 x1 h Q) : Met l yX2_likeness (ww yX2_likeness cX2_likeness 2 (some .int)) rm_X2_likeness (va_Pc [.int x0, .int x1] (PU2 G base A h A h)) (va_Qi Q (PU2 G base A h A) (fun q => base ≤ q)) 0 0 (fun q => base ≤ q) := by
  refine met2_of (own := RX2) (nm := "likeness") (by decide) rfl rfl (List.forall_mem_cons.mpr ⟨rfl, (List.forall_mem_cons.mpr ⟨rfl, (fun _ h => absurd h List.not_mem_nil)⟩)⟩) (Nat.le_of_ble_eq_true rfl) rfl ?_
  intro p e s m args below meth c H locs ls hM hC hl
  obtain ⟨hx, hb, hr, hml, hown, hts, hg, hs, hlk, hnm⟩ := id hM
  unfold wp_X2_likeness at hw
  refine lv_iload_n hx hb dX2_likeness_0 rfl (lo_at hl 0 rfl) ?_
  refine res2_i hC (run2_S (As := [.int x0]) (rest := []) hM hC hl.1.1 kv_RX2_9 (c_X2_many l G base A x0 h _ hw) rfl rfl rfl ⟨Nat.le_of_ble_eq_true rfl, Nat.le_of_ble_eq_true rfl⟩ (Nat.le_of_ble_eq_true rfl) ⟨Nat.le_of_ble_eq_true rfl, Nat.le_of_ble_eq_true rfl⟩ dX2_likeness_1) (fun z2 h1 H locs hw hC => ?_)
  refine lv_bipush (v := 64) hx hb dX2_likeness_4 (by decide) ?_
  refine lv_imul hx hb dX2_likeness_6 ?_
  refine lv_iload_n hx hb dX2_likeness_7 rfl (lo_at hl 0 rfl) ?_
  refine res2_i hC (run2_S (As := [.int x0]) (rest := [.int (z2 * (64 : Int32))]) hM hC hl.1.1 kv_RX2_13 (c_X2_longest l G base A x0 h1 _ hw) rfl rfl rfl ⟨Nat.le_of_ble_eq_true rfl, Nat.le_of_ble_eq_true rfl⟩ (Nat.le_of_ble_eq_true rfl) ⟨Nat.le_of_ble_eq_true rfl, Nat.le_of_ble_eq_true rfl⟩ dX2_likeness_8) (fun z4 h3 H locs hw hC => ?_)
  refine lv_iadd hx hb dX2_likeness_11 ?_
  refine lv_bipush (v := 64) hx hb dX2_likeness_12 (by decide) ?_
  refine lv_imul hx hb dX2_likeness_14 ?_
  refine lv_bipush (v := 63) hx hb dX2_likeness_15 (by decide) ?_
  refine lv_iload_n hx hb dX2_likeness_17 rfl (lo_at hl 1 rfl) ?_
  refine lv_isub hx hb dX2_likeness_18 ?_
  refine lv_iadd hx hb dX2_likeness_19 ?_
  exact ret2_i hM hC hw dX2_likeness_20
abbrev rm_X2_likenessBall : Room := { frames := 0, cells := 0, slots := 0, locals := 0 }
set_option maxRecDepth 100000 in
def wp_X2_likenessBall (x0 : Int32) (h : Hp) (Q : Int32 → Hp → Prop) : Prop := Q ((63 : Int32) - (x0 - x0 / (64 : Int32) * (64 : Int32))) h
set_option maxHeartbeats 4000000 in
set_option maxRecDepth 100000 in
theorem c_X2_likenessBall (l : Launch) (G : GG) (base : Nat) (A : Nat → Nat) (x0 : Int32) (h : Hp) (Q : Int32 → Hp → Prop) (hw : wp_X2_likenessBall x0 h Q) : Met l yX2_likenessBall (ww yX2_likenessBall cX2_likenessBall 1 (some .int)) rm_X2_likenessBall (va_Pc [.int x0] (PU2 G base A h A h)) (va_Qi Q (PU2 G base A h A) (fun q => base ≤ q)) 0 0 (fun q => base ≤ q) := by
  refine met2_of (own := RX2) (nm := "likenessBall") (by decide) rfl rfl (List.forall_mem_cons.mpr ⟨rfl, (fun _ h => absurd h List.not_mem_nil)⟩) (Nat.le_of_ble_eq_true rfl) rfl ?_
  intro p e s m args below meth c H locs ls hM hC hl
  obtain ⟨hx, hb, hr, hml, hown, hts, hg, hs, hlk, hnm⟩ := id hM
  unfold wp_X2_likenessBall at hw
  refine lv_bipush (v := 63) hx hb dX2_likenessBall_0 (by decide) ?_
  refine lv_iload_n hx hb dX2_likenessBall_2 rfl (lo_at hl 0 rfl) ?_
  refine lv_bipush (v := 64) hx hb dX2_likenessBall_3 (by decide) ?_
  refine lv_irem hx hb dX2_likenessBall_5 (by decide) ?_
  refine lv_isub hx hb dX2_likenessBall_6 ?_
  exact ret2_i hM hC hw dX2_likenessBall_7
abbrev rm_X3_forgetBall : Room := { frames := 0, cells := 0, slots := 0, locals := 0 }
set_option maxRecDepth 100000 in
def wp_X3_forgetBall_L2 (o : Nat) (x1 : Int32) (K38 : Hp → Prop) (Q : Hp → Prop) : Nat → Int32 → Hp → Prop
  | 0, _, _ => False
  | n + 1, x2, h => (if (40 : Int32) ≤ x2 then (K38 h) else (((hpK h o).1 = 20 + 2) ∧ (okA h (hpR h o 2) 1 ((x1 * (40 : Int32)) + x2) ∧ (∀ h4 : Hp, h4 = stI h (ad (hpR h o 2)) ((x1 * (40 : Int32)) + x2).toNatClampNeg (0 : Int32) → (((hpK h4 o).1 = 20 + 2) ∧ (okA h4 (hpR h4 o 2) 1 ((x2 * (40 : Int32)) + x1) ∧ (∀ h7 : Hp, h7 = stI h4 (ad (hpR h4 o 2)) ((x2 * (40 : Int32)) + x1).toNatClampNeg (0 : Int32) → (∀ v8 : Int32, v8 = x2 + (1 : Int32) → (wp_X3_forgetBall_L2 o x1 K38 Q n v8 h7)))))))))
set_option maxRecDepth 100000 in
def wp_X3_forgetBall (o : Nat) (x1 : Int32) (h : Hp) (Q : Hp → Prop) : Prop := wp_X3_forgetBall_L2 o x1 (fun (h9 : Hp) => Q h9) Q fuel (0 : Int32) h
set_option maxHeartbeats 4000000 in
set_option maxRecDepth 100000 in
theorem t_X3_forgetBall_L2 {p : Program} {l : Launch} {e : Env} {s : State} {m : MethodId} {args : Array Value} {below : List Frame} {meth : Method} {c : Code} {G : GG} {base : Nat} {A : Nat → Nat} {g0 : Hp} (hM : Mx G base p s m args meth c cX3_forgetBall 3 none RX3 "forgetBall") (o : Nat) (x1 : Int32) (K38 : Hp → Prop) (Q : Hp → Prop) (hK38 : ∀ (h : Hp) (H : Heap) (locs : List Loc) (ls : Array Slot), Cx2 G base A g0 A h s.heap H locs → lo_has ls 3 [] → K38 h → W p l e rm_X3_forgetBall s m args below meth c H locs 0 0 (MQ below (va_Qv Q (PU2 G base A g0 A) (fun q => base ≤ q)) args s 0 0 (fun q => base ≤ q)) (F0 m 38 ls [])) : ∀ (n : Nat) (x2 : Int32) (h : Hp) (H : Heap) (locs : List Loc) (ls : Array Slot), Cx2 G base A g0 A h s.heap H locs → lo_has ls 3 [(0, .ref (A o)), (1, .int x1), (2, .int x2)] → wp_X3_forgetBall_L2 o x1 K38 Q n x2 h → W p l e rm_X3_forgetBall s m args below meth c H locs 0 0 (MQ below (va_Qv Q (PU2 G base A g0 A) (fun q => base ≤ q)) args s 0 0 (fun q => base ≤ q)) (F0 m 2 ls []) := by
  intro n
  induction n with
  | zero =>
    intro x2 h H locs ls hC hl hw
    rw [wp_X3_forgetBall_L2] at hw
    exact hw.elim
  | succ n ih =>
    intro x2 h H locs ls hC hl hw
    rw [wp_X3_forgetBall_L2] at hw
    obtain ⟨hx, hb, hr, hml, hown, hts, hg, hs, hlk, hnm⟩ := id hM
    refine lv_iload_n hx hb dX3_forgetBall_2 rfl (lo_at hl 2 rfl) ?_
    refine lv_bipush (v := 40) hx hb dX3_forgetBall_3 (by decide) ?_
    refine lv_icmp_ge (tgt := 38) hx hb dX3_forgetBall_5 (by decide) (fun c1 => ?_) (fun c1 => ?_)
    ·
      replace hw := (if_pos c1).mp hw
      exact hK38  h H locs ls hC (lo_sub hl [] rfl) hw
    ·
      replace hw := (if_neg c1).mp hw
      refine lv_aload_n hx hb dX3_forgetBall_8 rfl (lo_at hl 0 rfl) ?_
      obtain ⟨k2, hw⟩ := hw
      refine s_getR hx hb hts hown hg hC fb_2_2 k2 mk_f_RX3_18 dX3_forgetBall_9 ?_
      refine lv_iload_n hx hb dX3_forgetBall_12 rfl (lo_at hl 1 rfl) ?_
      refine lv_bipush (v := 40) hx hb dX3_forgetBall_13 (by decide) ?_
      refine lv_imul hx hb dX3_forgetBall_15 ?_
      refine lv_iload_n hx hb dX3_forgetBall_16 rfl (lo_at hl 2 rfl) ?_
      refine lv_iadd hx hb dX3_forgetBall_17 ?_
      refine lv_iconst (v := 0) hx hb dX3_forgetBall_18 (by decide) ?_
      obtain ⟨k3, hw⟩ := hw
      refine sf_3 k3.1 ?_
      refine s_iast hx hb hg hC k3.2.1 k3.2.2 dX3_forgetBall_19 (fun h4 H locs eh4 hC => ?_)
      replace hw := hw h4 eh4
      refine lv_aload_n hx hb dX3_forgetBall_20 rfl (lo_at hl 0 rfl) ?_
      obtain ⟨k5, hw⟩ := hw
      refine s_getR hx hb hts hown hg hC fb_2_2 k5 mk_f_RX3_18 dX3_forgetBall_21 ?_
      refine lv_iload_n hx hb dX3_forgetBall_24 rfl (lo_at hl 2 rfl) ?_
      refine lv_bipush (v := 40) hx hb dX3_forgetBall_25 (by decide) ?_
      refine lv_imul hx hb dX3_forgetBall_27 ?_
      refine lv_iload_n hx hb dX3_forgetBall_28 rfl (lo_at hl 1 rfl) ?_
      refine lv_iadd hx hb dX3_forgetBall_29 ?_
      refine lv_iconst (v := 0) hx hb dX3_forgetBall_30 (by decide) ?_
      obtain ⟨k6, hw⟩ := hw
      refine sf_3 k6.1 ?_
      refine s_iast hx hb hg hC k6.2.1 k6.2.2 dX3_forgetBall_31 (fun h7 H locs eh7 hC => ?_)
      replace hw := hw h7 eh7
      obtain ⟨v8, ev8⟩ : ∃ y : Int32, y = x2 + (1 : Int32) := ⟨_, rfl⟩
      replace hw := hw v8 ev8
      refine lo_iinc (v := v8) (lv' := [(2, .int v8), (0, .ref (A o)), (1, .int x1)]) hx hb dX3_forgetBall_32 hl (k := 2) rfl (by rw [ev8]; rfl) (by decide) rfl (fun ls hl => ?_)
      refine lv_goto (tgt := 2) hx hb dX3_forgetBall_35 (by decide) ?_
      exact ih v8 h7 H locs ls hC (lo_sub hl [1, 2, 0] rfl) hw
set_option maxHeartbeats 4000000 in
set_option maxRecDepth 100000 in
theorem c_X3_forgetBall (l : Launch) (G : GG) (base : Nat) (A : Nat → Nat) (o : Nat) (x1 : Int32) (h : Hp) (Q : Hp → Prop) (hw : wp_X3_forgetBall o x1 h Q) : Met l yX3_forgetBall (ww yX3_forgetBall cX3_forgetBall 3 none) rm_X3_forgetBall (va_Pc [.ref (A o), .int x1] (PU2 G base A h A h)) (va_Qv Q (PU2 G base A h A) (fun q => base ≤ q)) 0 0 (fun q => base ≤ q) := by
  refine met2_of (own := RX3) (nm := "forgetBall") (by decide) rfl rfl (List.forall_mem_cons.mpr ⟨rfl, (List.forall_mem_cons.mpr ⟨rfl, (fun _ h => absurd h List.not_mem_nil)⟩)⟩) (Nat.le_of_ble_eq_true rfl) rfl ?_
  intro p e s m args below meth c H locs ls hM hC hl
  obtain ⟨hx, hb, hr, hml, hown, hts, hg, hs, hlk, hnm⟩ := id hM
  unfold wp_X3_forgetBall at hw
  refine lv_iconst (v := 0) hx hb dX3_forgetBall_0 (by decide) ?_
  refine lo_istore_n (lv' := [(2, .int ((0 : Int32))), (0, .ref (A o)), (1, .int x1)]) hx hb dX3_forgetBall_1 rfl hl (by decide) rfl (fun ls hl => ?_)
  refine t_X3_forgetBall_L2 hM o x1 _ Q ?_ fuel (0 : Int32) h H locs ls hC (lo_sub hl [1, 2, 0] rfl) hw
  intro  h9 H locs ls hC hl hw
  exact ret2_v hM hC hw dX3_forgetBall_38
abbrev rm_X3_forgetSaid : Room := { frames := 0, cells := 0, slots := 0, locals := 0 }
set_option maxRecDepth 100000 in
def wp_X3_forgetSaid_L2 (o : Nat) (K28 : Hp → Prop) (Q : Hp → Prop) : Nat → Int32 → Hp → Prop
  | 0, _, _ => False
  | n + 1, x1, h => ((hpK h o).1 = 20 + 2) ∧ (okN h (hpR h o 2) 1 ∧ ((if (nI (hpK h (ad (hpR h o 2))).2) ≤ x1 then (K28 h) else (okA h (hpR h o 2) 1 x1 ∧ (∀ v5 : Int32, v5 = hpI h (ad (hpR h o 2)) (x1).toNatClampNeg → (okA h (hpR h o 2) 1 x1 ∧ (∀ h7 : Hp, h7 = stI h (ad (hpR h o 2)) (x1).toNatClampNeg (v5 &&& (33554431 : Int32)) → (∀ v8 : Int32, v8 = x1 + (1 : Int32) → (wp_X3_forgetSaid_L2 o K28 Q n v8 h7)))))))))
set_option maxRecDepth 100000 in
def wp_X3_forgetSaid (o : Nat) (h : Hp) (Q : Hp → Prop) : Prop := wp_X3_forgetSaid_L2 o (fun (h9 : Hp) => Q h9) Q fuel (0 : Int32) h
set_option maxHeartbeats 4000000 in
set_option maxRecDepth 100000 in
theorem t_X3_forgetSaid_L2 {p : Program} {l : Launch} {e : Env} {s : State} {m : MethodId} {args : Array Value} {below : List Frame} {meth : Method} {c : Code} {G : GG} {base : Nat} {A : Nat → Nat} {g0 : Hp} (hM : Mx G base p s m args meth c cX3_forgetSaid 2 none RX3 "forgetSaid") (o : Nat) (K28 : Hp → Prop) (Q : Hp → Prop) (hK28 : ∀ (h : Hp) (H : Heap) (locs : List Loc) (ls : Array Slot), Cx2 G base A g0 A h s.heap H locs → lo_has ls 2 [] → K28 h → W p l e rm_X3_forgetSaid s m args below meth c H locs 0 0 (MQ below (va_Qv Q (PU2 G base A g0 A) (fun q => base ≤ q)) args s 0 0 (fun q => base ≤ q)) (F0 m 28 ls [])) : ∀ (n : Nat) (x1 : Int32) (h : Hp) (H : Heap) (locs : List Loc) (ls : Array Slot), Cx2 G base A g0 A h s.heap H locs → lo_has ls 2 [(0, .ref (A o)), (1, .int x1)] → wp_X3_forgetSaid_L2 o K28 Q n x1 h → W p l e rm_X3_forgetSaid s m args below meth c H locs 0 0 (MQ below (va_Qv Q (PU2 G base A g0 A) (fun q => base ≤ q)) args s 0 0 (fun q => base ≤ q)) (F0 m 2 ls []) := by
  intro n
  induction n with
  | zero =>
    intro x1 h H locs ls hC hl hw
    rw [wp_X3_forgetSaid_L2] at hw
    exact hw.elim
  | succ n ih =>
    intro x1 h H locs ls hC hl hw
    rw [wp_X3_forgetSaid_L2] at hw
    obtain ⟨hx, hb, hr, hml, hown, hts, hg, hs, hlk, hnm⟩ := id hM
    refine lv_iload_n hx hb dX3_forgetSaid_2 rfl (lo_at hl 1 rfl) ?_
    refine lv_aload_n hx hb dX3_forgetSaid_3 rfl (lo_at hl 0 rfl) ?_
    obtain ⟨k1, hw⟩ := hw
    refine s_getR hx hb hts hown hg hC fb_2_2 k1 mk_f_RX3_18 dX3_forgetSaid_4 ?_
    obtain ⟨k2, hw⟩ := hw
    refine sf_1 k2.1 ?_
    refine s_alen hx hb hg hC k2.2 dX3_forgetSaid_7 ?_
    refine lv_icmp_ge (tgt := 28) hx hb dX3_forgetSaid_8 (by decide) (fun c3 => ?_) (fun c3 => ?_)
    ·
      replace hw := (if_pos c3).mp hw
      exact hK28  h H locs ls hC (lo_sub hl [] rfl) hw
    ·
      replace hw := (if_neg c3).mp hw
      refine lv_aload_n hx hb dX3_forgetSaid_11 rfl (lo_at hl 0 rfl) ?_
      refine s_getR hx hb hts hown hg hC fb_2_2 k1 mk_f_RX3_18 dX3_forgetSaid_12 ?_
      refine lv_iload_n hx hb dX3_forgetSaid_15 rfl (lo_at hl 1 rfl) ?_
      refine lv_dup2_11 hx hb dX3_forgetSaid_16 rfl (va_rf_cat _) ?_
      obtain ⟨k4, hw⟩ := hw
      refine sf_2 k4.1 ?_
      refine s_iald hx hb hg hC k4.2.1 k4.2.2 dX3_forgetSaid_17 ?_
      refine lv_topi (fun v5 ev5 => ?_)
      replace hw := hw v5 ev5
      refine lv_ldc (v := 33554431) hx hb hown (hts _ mk_k_RX3_28) dX3_forgetSaid_18 ?_
      refine lv_iand hx hb dX3_forgetSaid_20 ?_
      obtain ⟨k6, hw⟩ := hw
      refine sf_3 k6.1 ?_
      refine s_iast hx hb hg hC k6.2.1 k6.2.2 dX3_forgetSaid_21 (fun h7 H locs eh7 hC => ?_)
      replace hw := hw h7 eh7
      obtain ⟨v8, ev8⟩ : ∃ y : Int32, y = x1 + (1 : Int32) := ⟨_, rfl⟩
      replace hw := hw v8 ev8
      refine lo_iinc (v := v8) (lv' := [(1, .int v8), (0, .ref (A o))]) hx hb dX3_forgetSaid_22 hl (k := 1) rfl (by rw [ev8]; rfl) (by decide) rfl (fun ls hl => ?_)
      refine lv_goto (tgt := 2) hx hb dX3_forgetSaid_25 (by decide) ?_
      exact ih v8 h7 H locs ls hC (lo_sub hl [1, 0] rfl) hw
set_option maxHeartbeats 4000000 in
set_option maxRecDepth 100000 in
theorem c_X3_forgetSaid (l : Launch) (G : GG) (base : Nat) (A : Nat → Nat) (o : Nat) (h : Hp) (Q : Hp → Prop) (hw : wp_X3_forgetSaid o h Q) : Met l yX3_forgetSaid (ww yX3_forgetSaid cX3_forgetSaid 2 none) rm_X3_forgetSaid (va_Pc [.ref (A o)] (PU2 G base A h A h)) (va_Qv Q (PU2 G base A h A) (fun q => base ≤ q)) 0 0 (fun q => base ≤ q) := by
  refine met2_of (own := RX3) (nm := "forgetSaid") (by decide) rfl rfl (List.forall_mem_cons.mpr ⟨rfl, (fun _ h => absurd h List.not_mem_nil)⟩) (Nat.le_of_ble_eq_true rfl) rfl ?_
  intro p e s m args below meth c H locs ls hM hC hl
  obtain ⟨hx, hb, hr, hml, hown, hts, hg, hs, hlk, hnm⟩ := id hM
  unfold wp_X3_forgetSaid at hw
  refine lv_iconst (v := 0) hx hb dX3_forgetSaid_0 (by decide) ?_
  refine lo_istore_n (lv' := [(1, .int ((0 : Int32))), (0, .ref (A o))]) hx hb dX3_forgetSaid_1 rfl hl (by decide) rfl (fun ls hl => ?_)
  refine t_X3_forgetSaid_L2 hM o _ Q ?_ fuel (0 : Int32) h H locs ls hC (lo_sub hl [1, 0] rfl) hw
  intro  h9 H locs ls hC hl hw
  exact ret2_v hM hC hw dX3_forgetSaid_28
abbrev rm_X4_init : Room := { frames := 1, cells := 0, slots := 0, locals := 20 }
set_option maxRecDepth 100000 in
def wp_X4_init (o : Nat) (r1 : Option Nat) (r2 : Option Nat) (x3 : Int32) (h : Hp) (Q : Hp → Prop) : Prop := ((hpK h o).1 = 20 + 3) ∧ (okP h r1 ∧ (∀ h2 : Hp, h2 = stR h o 0 r1 → (((hpK h2 o).1 = 20 + 3) ∧ (okP h2 r2 ∧ (∀ h5 : Hp, h5 = stR h2 o 1 r2 → (((hpK h5 o).1 = 20 + 3) ∧ (∀ h8 : Hp, h8 = stI h5 o 2 x3 → (Q h8))))))))
set_option maxHeartbeats 4000000 in
set_option maxRecDepth 100000 in
theorem c_X4_init (l : Launch) (G : GG) (base : Nat) (A : Nat → Nat) (o : Nat) (r1 : Option Nat) (r2 : Option Nat) (x3 : Int32) (h : Hp) (Q : Hp → Prop) (hw : wp_X4_init o r1 r2 x3 h Q) : Met l yX4_init (ww yX4_init cX4_init 4 none) rm_X4_init (va_Pc [.ref (A o), va_rf (Option.map A r1), va_rf (Option.map A r2), .int x3] (PU2 G base A h A h)) (va_Qv Q (PU2 G base A h A) (fun q => base ≤ q)) 0 0 (fun q => base ≤ q) := by
  refine met2_of (own := RX4) (nm := "<init>") (by decide) rfl rfl (List.forall_mem_cons.mpr ⟨rfl, (List.forall_mem_cons.mpr ⟨va_rf_cat _, (List.forall_mem_cons.mpr ⟨va_rf_cat _, (List.forall_mem_cons.mpr ⟨rfl, (fun _ h => absurd h List.not_mem_nil)⟩)⟩)⟩)⟩) (Nat.le_of_ble_eq_true rfl) rfl ?_
  intro p e s m args below meth c H locs ls hM hC hl
  obtain ⟨hx, hb, hr, hml, hown, hts, hg, hs, hlk, hnm⟩ := id hM
  unfold wp_X4_init at hw
  refine lv_aload_n hx hb dX4_init_0 rfl (lo_at hl 0 rfl) ?_
  refine r_oi hx hb hown (hts _ mk_m_RX4_1) (hts _ mk_oi_i) (hts _ mk_oi_c) (by rw [hml]; exact hl.1.1) dX4_init_1 (Nat.le_of_ble_eq_true rfl) (Nat.le_of_ble_eq_true rfl) ?_
  refine lv_aload_n hx hb dX4_init_4 rfl (lo_at hl 0 rfl) ?_
  refine lo_aload_n (r := Option.map A r1) hx hb dX4_init_5 rfl (lo_at hl 1 rfl) ?_
  obtain ⟨k1, hw⟩ := hw
  obtain ⟨k3, hw⟩ := hw
  refine s_putFR (v := r1) hx hb hts hown hnm hg hC fb_3_0 k1 k3 (nv_o) (fv_o) mk_f_RX4_7 dX4_init_6 (fun h2 H locs eh2 hC => ?_)
  replace hw := hw h2 eh2
  refine lv_aload_n hx hb dX4_init_9 rfl (lo_at hl 0 rfl) ?_
  refine lo_aload_n (r := Option.map A r2) hx hb dX4_init_10 rfl (lo_at hl 2 rfl) ?_
  obtain ⟨k4, hw⟩ := hw
  obtain ⟨k6, hw⟩ := hw
  refine s_putFR (v := r2) hx hb hts hown hnm hg hC fb_3_1 k4 k6 (nv_o) (fv_o) mk_f_RX4_13 dX4_init_11 (fun h5 H locs eh5 hC => ?_)
  replace hw := hw h5 eh5
  refine lv_aload_n hx hb dX4_init_14 rfl (lo_at hl 0 rfl) ?_
  refine lv_iload_n hx hb dX4_init_15 rfl (lo_at hl 3 rfl) ?_
  obtain ⟨k7, hw⟩ := hw
  refine s_putFI hx hb hts hown hnm hg hC fb_3_2 k7 rfl rfl mk_f_RX4_16 dX4_init_16 (fun h8 H locs eh8 hC => ?_)
  replace hw := hw h8 eh8
  exact ret2_v hM hC hw dX4_init_19
abbrev rm_X5_pass : Room := { frames := 0, cells := 0, slots := 0, locals := 0 }
set_option maxRecDepth 100000 in
def wp_X5_pass (o : Nat) (h : Hp) (Q : Hp → Prop) : Prop := ((hpK h o).1 = 20 + 4) ∧ (∀ h2 : Hp, h2 = stI h o 0 (0 : Int32) → (((hpK h2 o).1 = 20 + 4) ∧ (∀ h4 : Hp, h4 = stI h2 o 1 (-1 : Int32) → (((hpK h4 o).1 = 20 + 4) ∧ (okO h4 (hpR h4 o 2) 6 ∧ (∀ h7 : Hp, h7 = stI h4 (ad (hpR h4 o 2)) 1 (0 : Int32) → (Q h7)))))))
set_option maxHeartbeats 4000000 in
set_option maxRecDepth 100000 in
theorem c_X5_pass (l : Launch) (G : GG) (base : Nat) (A : Nat → Nat) (o : Nat) (h : Hp) (Q : Hp → Prop) (hw : wp_X5_pass o h Q) : Met l yX5_pass (ww yX5_pass cX5_pass 1 none) rm_X5_pass (va_Pc [.ref (A o)] (PU2 G base A h A h)) (va_Qv Q (PU2 G base A h A) (fun q => base ≤ q)) 0 0 (fun q => base ≤ q) := by
  refine met2_of (own := RX5) (nm := "pass") (by decide) rfl rfl (List.forall_mem_cons.mpr ⟨rfl, (fun _ h => absurd h List.not_mem_nil)⟩) (Nat.le_of_ble_eq_true rfl) rfl ?_
  intro p e s m args below meth c H locs ls hM hC hl
  obtain ⟨hx, hb, hr, hml, hown, hts, hg, hs, hlk, hnm⟩ := id hM
  unfold wp_X5_pass at hw
  refine lv_aload_n hx hb dX5_pass_0 rfl (lo_at hl 0 rfl) ?_
  refine lv_iconst (v := 0) hx hb dX5_pass_1 (by decide) ?_
  obtain ⟨k1, hw⟩ := hw
  refine s_putI hx hb hts hown hg hC fb_4_0 k1 rfl rfl mk_f_RX5_33 dX5_pass_2 (fun h2 H locs eh2 hC => ?_)
  replace hw := hw h2 eh2
  refine lv_aload_n hx hb dX5_pass_5 rfl (lo_at hl 0 rfl) ?_
  refine lv_iconst (v := -1) hx hb dX5_pass_6 (by decide) ?_
  obtain ⟨k3, hw⟩ := hw
  refine s_putI hx hb hts hown hg hC fb_4_1 k3 rfl rfl mk_f_RX5_9 dX5_pass_7 (fun h4 H locs eh4 hC => ?_)
  replace hw := hw h4 eh4
  refine lv_aload_n hx hb dX5_pass_10 rfl (lo_at hl 0 rfl) ?_
  obtain ⟨k5, hw⟩ := hw
  refine s_getR hx hb hts hown hg hC fb_4_2 k5 mk_f_RX5_22 dX5_pass_11 ?_
  refine lv_iconst (v := 0) hx hb dX5_pass_14 (by decide) ?_
  obtain ⟨k6, hw⟩ := hw
  refine sf_2 k6.1 ?_
  refine s_putI hx hb hts hown hg hC fb_6_1 k6.2 rfl rfl mk_f_RX5_51 dX5_pass_15 (fun h7 H locs eh7 hC => ?_)
  replace hw := hw h7 eh7
  exact ret2_v hM hC hw dX5_pass_18
abbrev rm_X5_exchange : Room := { frames := 0, cells := 0, slots := 0, locals := 0 }
set_option maxRecDepth 100000 in
def wp_X5_exchange (o : Nat) (r1 : Option Nat) (h : Hp) (Q : Option Nat → Hp → Prop) : Prop := ((hpK h o).1 = 20 + 4) ∧ (okP h r1 ∧ (∀ h2 : Hp, h2 = stR h o 3 r1 → (Q (hpR h o 3) h2)))
set_option maxHeartbeats 4000000 in
set_option maxRecDepth 100000 in
theorem c_X5_exchange (l : Launch) (G : GG) (base : Nat) (A : Nat → Nat) (o : Nat) (r1 : Option Nat) (h : Hp) (Q : Option Nat → Hp → Prop) (hw : wp_X5_exchange o r1 h Q) : Met l yX5_exchange (ww yX5_exchange cX5_exchange 3 (some (.object "OneBarrel$Text"))) rm_X5_exchange (va_Pc [.ref (A o), va_rf (Option.map A r1)] (PU2 G base A h A h)) (va_Qq (fun ra u => ∃ r, ra = Option.map A r ∧ Q r u) (PU2 G base A h A) (fun q => base ≤ q)) 0 0 (fun q => base ≤ q) := by
  refine met2_of (own := RX5) (nm := "exchange") (by decide) rfl rfl (List.forall_mem_cons.mpr ⟨rfl, (List.forall_mem_cons.mpr ⟨va_rf_cat _, (fun _ h => absurd h List.not_mem_nil)⟩)⟩) (Nat.le_of_ble_eq_true rfl) rfl ?_
  intro p e s m args below meth c H locs ls hM hC hl
  obtain ⟨hx, hb, hr, hml, hown, hts, hg, hs, hlk, hnm⟩ := id hM
  unfold wp_X5_exchange at hw
  refine lv_aload_n hx hb dX5_exchange_0 rfl (lo_at hl 0 rfl) ?_
  obtain ⟨k1, hw⟩ := hw
  refine s_getR hx hb hts hown hg hC fb_4_3 k1 mk_f_RX5_18 dX5_exchange_1 ?_
  refine lo_astore_n (r := Option.map A (hpR h o 3)) (lv' := [(2, va_rf (Option.map A (hpR h o 3))), (0, .ref (A o)), (1, va_rf (Option.map A r1))]) hx hb dX5_exchange_4 rfl hl (by decide) rfl (fun ls hl => ?_)
  refine lv_aload_n hx hb dX5_exchange_5 rfl (lo_at hl 1 rfl) ?_
  refine lo_aload_n (r := Option.map A r1) hx hb dX5_exchange_6 rfl (lo_at hl 2 rfl) ?_
  obtain ⟨k3, hw⟩ := hw
  refine s_putR (v := r1) hx hb hts hown hg hC fb_4_3 k1 k3 (nv_o) (fv_o) mk_f_RX5_18 dX5_exchange_7 (fun h2 H locs eh2 hC => ?_)
  replace hw := hw h2 eh2
  refine lo_aload_n (r := Option.map A (hpR h o 3)) hx hb dX5_exchange_10 rfl (lo_at hl 0 rfl) ?_
  exact ret2_q (r := hpR h o 3) (Or.inl ⟨_, rfl⟩) hM hC hw dX5_exchange_11
abbrev rm_X5_kind : Room := { frames := 0, cells := 0, slots := 0, locals := 0 }
set_option maxRecDepth 100000 in
def wp_X5_kind (o : Nat) (h : Hp) (Q : Int32 → Hp → Prop) : Prop := ((hpK h o).1 = 20 + 4) ∧ ((if (hpI h o 0) = 0 then (okO h (hpR h o 2) 6 ∧ (okN h (hpR h (ad (hpR h o 2)) 2) 1 ∧ ((if (nI (hpK h (ad (hpR h (ad (hpR h o 2)) 2))).2) ≤ (hpI h o 5) then (Q (1 : Int32) h) else (okA h (hpR h (ad (hpR h o 2)) 2) 1 (hpI h o 5) ∧ (∀ v7 : Int32, v7 = hpI h (ad (hpR h (ad (hpR h o 2)) 2)) (hpI h o 5).toNatClampNeg → (Q v7 h))))))) else (Q (1 : Int32) h)))
set_option maxHeartbeats 4000000 in
set_option maxRecDepth 100000 in
theorem c_X5_kind (l : Launch) (G : GG) (base : Nat) (A : Nat → Nat) (o : Nat) (h : Hp) (Q : Int32 → Hp → Prop) (hw : wp_X5_kind o h Q) : Met l yX5_kind (ww yX5_kind cX5_kind 1 (some .int)) rm_X5_kind (va_Pc [.ref (A o)] (PU2 G base A h A h)) (va_Qi Q (PU2 G base A h A) (fun q => base ≤ q)) 0 0 (fun q => base ≤ q) := by
  refine met2_of (own := RX5) (nm := "kind") (by decide) rfl rfl (List.forall_mem_cons.mpr ⟨rfl, (fun _ h => absurd h List.not_mem_nil)⟩) (Nat.le_of_ble_eq_true rfl) rfl ?_
  intro p e s m args below meth c H locs ls hM hC hl
  obtain ⟨hx, hb, hr, hml, hown, hts, hg, hs, hlk, hnm⟩ := id hM
  unfold wp_X5_kind at hw
  refine lv_aload_n hx hb dX5_kind_0 rfl (lo_at hl 0 rfl) ?_
  obtain ⟨k1, hw⟩ := hw
  refine s_getI hx hb hts hown hg hC fb_4_0 k1 mk_f_RX5_33 dX5_kind_1 ?_
  refine lv_if_ne (tgt := 37) hx hb dX5_kind_4 (by decide) (fun c2 => ?_) (fun c2 => ?_)
  ·
    replace hw := (if_neg c2).mp hw
    refine lv_iconst (v := 1) hx hb dX5_kind_37 (by decide) ?_
    exact ret2_i hM hC hw dX5_kind_38
  ·
    replace hw := (if_pos c2).mp hw
    refine lv_aload_n hx hb dX5_kind_7 rfl (lo_at hl 0 rfl) ?_
    refine s_getI hx hb hts hown hg hC fb_4_5 k1 mk_f_RX5_30 dX5_kind_8 ?_
    refine lv_aload_n hx hb dX5_kind_11 rfl (lo_at hl 0 rfl) ?_
    refine s_getR hx hb hts hown hg hC fb_4_2 k1 mk_f_RX5_22 dX5_kind_12 ?_
    obtain ⟨k3, hw⟩ := hw
    refine sf_1 k3.1 ?_
    refine s_getR hx hb hts hown hg hC fb_6_2 k3.2 mk_f_RX5_54 dX5_kind_15 ?_
    obtain ⟨k4, hw⟩ := hw
    refine sf_1 k4.1 ?_
    refine s_alen hx hb hg hC k4.2 dX5_kind_18 ?_
    refine lv_icmp_ge (tgt := 37) hx hb dX5_kind_19 (by decide) (fun c5 => ?_) (fun c5 => ?_)
    ·
      replace hw := (if_pos c5).mp hw
      refine lv_iconst (v := 1) hx hb dX5_kind_37 (by decide) ?_
      exact ret2_i hM hC hw dX5_kind_38
    ·
      replace hw := (if_neg c5).mp hw
      refine lv_aload_n hx hb dX5_kind_22 rfl (lo_at hl 0 rfl) ?_
      refine s_getR hx hb hts hown hg hC fb_4_2 k1 mk_f_RX5_22 dX5_kind_23 ?_
      refine sf_1 k3.1 ?_
      refine s_getR hx hb hts hown hg hC fb_6_2 k3.2 mk_f_RX5_54 dX5_kind_26 ?_
      refine lv_aload_n hx hb dX5_kind_29 rfl (lo_at hl 0 rfl) ?_
      refine s_getI hx hb hts hown hg hC fb_4_5 k1 mk_f_RX5_30 dX5_kind_30 ?_
      obtain ⟨k6, hw⟩ := hw
      refine sf_2 k6.1 ?_
      refine s_iald hx hb hg hC k6.2.1 k6.2.2 dX5_kind_33 ?_
      refine lv_topi (fun v7 ev7 => ?_)
      replace hw := hw v7 ev7
      refine lv_goto (tgt := 38) hx hb dX5_kind_34 (by decide) ?_
      exact ret2_i hM hC hw dX5_kind_38
abbrev rm_X5_refuse : Room := { frames := 0, cells := 0, slots := 0, locals := 0 }
set_option maxRecDepth 100000 in
def wp_X5_refuse (o : Nat) (x1 : Int32) (h : Hp) (Q : Hp → Prop) : Prop := ((hpK h o).1 = 20 + 4) ∧ ((if (hpI h o 0) = 0 then (okO h (hpR h o 2) 6 ∧ (okN h (hpR h (ad (hpR h o 2)) 3) 1 ∧ ((if (nI (hpK h (ad (hpR h (ad (hpR h o 2)) 3))).2) ≤ (hpI h o 5) then (Q h) else (∀ h6 : Hp, h6 = stI h o 0 x1 → (((hpK h6 o).1 = 20 + 4) ∧ (okO h6 (hpR h6 o 2) 6 ∧ (okA h6 (hpR h6 (ad (hpR h6 o 2)) 3) 1 (hpI h6 o 5) ∧ (∀ v10 : Int32, v10 = hpI h6 (ad (hpR h6 (ad (hpR h6 o 2)) 3)) (hpI h6 o 5).toNatClampNeg → (∀ h11 : Hp, h11 = stI h6 o 1 v10 → (Q h11))))))))))) else (Q h)))
set_option maxHeartbeats 4000000 in
set_option maxRecDepth 100000 in
theorem c_X5_refuse (l : Launch) (G : GG) (base : Nat) (A : Nat → Nat) (o : Nat) (x1 : Int32) (h : Hp) (Q : Hp → Prop) (hw : wp_X5_refuse o x1 h Q) : Met l yX5_refuse (ww yX5_refuse cX5_refuse 2 none) rm_X5_refuse (va_Pc [.ref (A o), .int x1] (PU2 G base A h A h)) (va_Qv Q (PU2 G base A h A) (fun q => base ≤ q)) 0 0 (fun q => base ≤ q) := by
  refine met2_of (own := RX5) (nm := "refuse") (by decide) rfl rfl (List.forall_mem_cons.mpr ⟨rfl, (List.forall_mem_cons.mpr ⟨rfl, (fun _ h => absurd h List.not_mem_nil)⟩)⟩) (Nat.le_of_ble_eq_true rfl) rfl ?_
  intro p e s m args below meth c H locs ls hM hC hl
  obtain ⟨hx, hb, hr, hml, hown, hts, hg, hs, hlk, hnm⟩ := id hM
  unfold wp_X5_refuse at hw
  refine lv_aload_n hx hb dX5_refuse_0 rfl (lo_at hl 0 rfl) ?_
  obtain ⟨k1, hw⟩ := hw
  refine s_getI hx hb hts hown hg hC fb_4_0 k1 mk_f_RX5_33 dX5_refuse_1 ?_
  refine lv_if_ne (tgt := 43) hx hb dX5_refuse_4 (by decide) (fun c2 => ?_) (fun c2 => ?_)
  ·
    replace hw := (if_neg c2).mp hw
    exact ret2_v hM hC hw dX5_refuse_43
  ·
    replace hw := (if_pos c2).mp hw
    refine lv_aload_n hx hb dX5_refuse_7 rfl (lo_at hl 0 rfl) ?_
    refine s_getI hx hb hts hown hg hC fb_4_5 k1 mk_f_RX5_30 dX5_refuse_8 ?_
    refine lv_aload_n hx hb dX5_refuse_11 rfl (lo_at hl 0 rfl) ?_
    refine s_getR hx hb hts hown hg hC fb_4_2 k1 mk_f_RX5_22 dX5_refuse_12 ?_
    obtain ⟨k3, hw⟩ := hw
    refine sf_1 k3.1 ?_
    refine s_getR hx hb hts hown hg hC fb_6_3 k3.2 mk_f_RX5_58 dX5_refuse_15 ?_
    obtain ⟨k4, hw⟩ := hw
    refine sf_1 k4.1 ?_
    refine s_alen hx hb hg hC k4.2 dX5_refuse_18 ?_
    refine lv_icmp_ge (tgt := 43) hx hb dX5_refuse_19 (by decide) (fun c5 => ?_) (fun c5 => ?_)
    ·
      replace hw := (if_pos c5).mp hw
      exact ret2_v hM hC hw dX5_refuse_43
    ·
      replace hw := (if_neg c5).mp hw
      refine lv_aload_n hx hb dX5_refuse_22 rfl (lo_at hl 0 rfl) ?_
      refine lv_iload_n hx hb dX5_refuse_23 rfl (lo_at hl 1 rfl) ?_
      refine s_putI hx hb hts hown hg hC fb_4_0 k1 rfl rfl mk_f_RX5_33 dX5_refuse_24 (fun h6 H locs eh6 hC => ?_)
      replace hw := hw h6 eh6
      refine lv_aload_n hx hb dX5_refuse_27 rfl (lo_at hl 0 rfl) ?_
      refine lv_aload_n hx hb dX5_refuse_28 rfl (lo_at hl 0 rfl) ?_
      obtain ⟨k7, hw⟩ := hw
      refine s_getR hx hb hts hown hg hC fb_4_2 k7 mk_f_RX5_22 dX5_refuse_29 ?_
      obtain ⟨k8, hw⟩ := hw
      refine sf_1 k8.1 ?_
      refine s_getR hx hb hts hown hg hC fb_6_3 k8.2 mk_f_RX5_58 dX5_refuse_32 ?_
      refine lv_aload_n hx hb dX5_refuse_35 rfl (lo_at hl 0 rfl) ?_
      refine s_getI hx hb hts hown hg hC fb_4_5 k7 mk_f_RX5_30 dX5_refuse_36 ?_
      obtain ⟨k9, hw⟩ := hw
      refine sf_2 k9.1 ?_
      refine s_iald hx hb hg hC k9.2.1 k9.2.2 dX5_refuse_39 ?_
      refine lv_topi (fun v10 ev10 => ?_)
      replace hw := hw v10 ev10
      refine s_putI hx hb hts hown hg hC fb_4_1 k7 rfl rfl mk_f_RX5_9 dX5_refuse_40 (fun h11 H locs eh11 hC => ?_)
      replace hw := hw h11 eh11
      exact ret2_v hM hC hw dX5_refuse_43
abbrev rm_X5_expect : Room := { frames := 1, cells := 0, slots := 0, locals := 21 }
set_option maxRecDepth 100000 in
def wp_X5_expect (o : Nat) (x1 : Int32) (h : Hp) (Q : Hp → Prop) : Prop := ((hpK h o).1 = 20 + 4) ∧ (wp_X5_kind o h (fun (z3 : Int32) (h2 : Hp) => (if z3 = x1 then (((hpK h2 o).1 = 20 + 4) ∧ (∀ h9 : Hp, h9 = stI h2 o 5 ((hpI h2 o 5) + (1 : Int32)) → (Q h9))) else (((hpK h2 o).1 = 20 + 4) ∧ (wp_X5_refuse o (1 : Int32) h2 (fun (h6 : Hp) => Q h6))))))
set_option maxHeartbeats 4000000 in
set_option maxRecDepth 100000 in
theorem c_X5_expect (l : Launch) (G : GG) (base : Nat) (A : Nat → Nat) (o : Nat) (x1 : Int32) (h : Hp) (Q : Hp → Prop) (hw : wp_X5_expect o x1 h Q) : Met l yX5_expect (ww yX5_expect cX5_expect 2 none) rm_X5_expect (va_Pc [.ref (A o), .int x1] (PU2 G base A h A h)) (va_Qv Q (PU2 G base A h A) (fun q => base ≤ q)) 0 0 (fun q => base ≤ q) := by
  refine met2_of (own := RX5) (nm := "expect") (by decide) rfl rfl (List.forall_mem_cons.mpr ⟨rfl, (List.forall_mem_cons.mpr ⟨rfl, (fun _ h => absurd h List.not_mem_nil)⟩)⟩) (Nat.le_of_ble_eq_true rfl) rfl ?_
  intro p e s m args below meth c H locs ls hM hC hl
  obtain ⟨hx, hb, hr, hml, hown, hts, hg, hs, hlk, hnm⟩ := id hM
  unfold wp_X5_expect at hw
  refine lv_aload_n hx hb dX5_expect_0 rfl (lo_at hl 0 rfl) ?_
  obtain ⟨k1, hw⟩ := hw
  refine res2_i hC (run2_V (As := []) (rest := []) hM hC hl.1.1 kv_RX5_44 (c_X5_kind l G base A o h _ hw) (hc_4) k1 rfl rfl rfl ⟨Nat.le_of_ble_eq_true rfl, Nat.le_of_ble_eq_true rfl⟩ (Nat.le_of_ble_eq_true rfl) ⟨Nat.le_of_ble_eq_true rfl, Nat.le_of_ble_eq_true rfl⟩ dX5_expect_1) (fun z3 h2 H locs hw hC => ?_)
  refine lv_iload_n hx hb dX5_expect_4 rfl (lo_at hl 1 rfl) ?_
  refine lv_icmp_ne (tgt := 21) hx hb dX5_expect_5 (by decide) (fun c4 => ?_) (fun c4 => ?_)
  ·
    replace hw := (if_neg c4).mp hw
    refine lv_aload_n hx hb dX5_expect_21 rfl (lo_at hl 0 rfl) ?_
    refine lv_iconst (v := 1) hx hb dX5_expect_22 (by decide) ?_
    obtain ⟨k5, hw⟩ := hw
    refine res2_v hC (run2_V (As := [.int ((1 : Int32))]) (rest := []) hM hC hl.1.1 kv_RX5_61 (c_X5_refuse l G base A o (1 : Int32) h2 _ hw) (hc_4) k5 rfl rfl rfl ⟨Nat.le_of_ble_eq_true rfl, Nat.le_of_ble_eq_true rfl⟩ (Nat.le_of_ble_eq_true rfl) ⟨Nat.le_of_ble_eq_true rfl, Nat.le_of_ble_eq_true rfl⟩ dX5_expect_23) (fun h6 H locs hw hC => ?_)
    exact ret2_v hM hC hw dX5_expect_26
  ·
    replace hw := (if_pos c4).mp hw
    refine lv_aload_n hx hb dX5_expect_8 rfl (lo_at hl 0 rfl) ?_
    refine lv_dup hx hb dX5_expect_9 rfl ?_
    obtain ⟨k8, hw⟩ := hw
    refine s_getI hx hb hts hown hg hC fb_4_5 k8 mk_f_RX5_30 dX5_expect_10 ?_
    refine lv_iconst (v := 1) hx hb dX5_expect_13 (by decide) ?_
    refine lv_iadd hx hb dX5_expect_14 ?_
    refine s_putI hx hb hts hown hg hC fb_4_5 k8 rfl rfl mk_f_RX5_30 dX5_expect_15 (fun h9 H locs eh9 hC => ?_)
    replace hw := hw h9 eh9
    refine lv_goto (tgt := 26) hx hb dX5_expect_18 (by decide) ?_
    exact ret2_v hM hC hw dX5_expect_26
abbrev rm_X5_isHead : Room := { frames := 0, cells := 0, slots := 0, locals := 0 }
set_option maxRecDepth 100000 in
def wp_X5_isHead (o : Nat) (x1 : Int32) (h : Hp) (Q : Int32 → Hp → Prop) : Prop := ((hpK h o).1 = 20 + 4) ∧ ((if (hpI h o 4) = 0 then ((if x1 = (263 : Int32) then (Q (1 : Int32) h) else ((if x1 = (264 : Int32) then (Q (1 : Int32) h) else (Q (0 : Int32) h))))) else ((if x1 < (260 : Int32) then (Q (0 : Int32) h) else ((if (262 : Int32) < x1 then (Q (0 : Int32) h) else (Q (1 : Int32) h)))))))
set_option maxHeartbeats 4000000 in
set_option maxRecDepth 100000 in
theorem c_X5_isHead (l : Launch) (G : GG) (base : Nat) (A : Nat → Nat) (o : Nat) (x1 : Int32) (h : Hp) (Q : Int32 → Hp → Prop) (hw : wp_X5_isHead o x1 h Q) : Met l yX5_isHead (ww yX5_isHead cX5_isHead 2 (some .boolean)) rm_X5_isHead (va_Pc [.ref (A o), .int x1] (PU2 G base A h A h)) (va_Qi Q (PU2 G base A h A) (fun q => base ≤ q)) 0 0 (fun q => base ≤ q) := by
  refine met2_of (own := RX5) (nm := "isHead") (by decide) rfl rfl (List.forall_mem_cons.mpr ⟨rfl, (List.forall_mem_cons.mpr ⟨rfl, (fun _ h => absurd h List.not_mem_nil)⟩)⟩) (Nat.le_of_ble_eq_true rfl) rfl ?_
  intro p e s m args below meth c H locs ls hM hC hl
  obtain ⟨hx, hb, hr, hml, hown, hts, hg, hs, hlk, hnm⟩ := id hM
  unfold wp_X5_isHead at hw
  refine lv_aload_n hx hb dX5_isHead_0 rfl (lo_at hl 0 rfl) ?_
  obtain ⟨k1, hw⟩ := hw
  refine s_getI hx hb hts hown hg hC fb_4_4 k1 mk_f_RX5_26 dX5_isHead_1 ?_
  refine lv_if_eq (tgt := 29) hx hb dX5_isHead_4 (by decide) (fun c2 => ?_) (fun c2 => ?_)
  ·
    replace hw := (if_pos c2).mp hw
    refine lv_iload_n hx hb dX5_isHead_29 rfl (lo_at hl 1 rfl) ?_
    refine lv_sipush (v := 263) hx hb dX5_isHead_30 (by decide) ?_
    refine lv_icmp_eq (tgt := 43) hx hb dX5_isHead_33 (by decide) (fun c3 => ?_) (fun c3 => ?_)
    ·
      replace hw := (if_pos c3).mp hw
      refine lv_iconst (v := 1) hx hb dX5_isHead_43 (by decide) ?_
      refine lv_goto (tgt := 48) hx hb dX5_isHead_44 (by decide) ?_
      exact ret2_t hM hC rfl hw dX5_isHead_48
    ·
      replace hw := (if_neg c3).mp hw
      refine lv_iload_n hx hb dX5_isHead_36 rfl (lo_at hl 1 rfl) ?_
      refine lv_sipush (v := 264) hx hb dX5_isHead_37 (by decide) ?_
      refine lv_icmp_ne (tgt := 47) hx hb dX5_isHead_40 (by decide) (fun c4 => ?_) (fun c4 => ?_)
      ·
        replace hw := (if_neg c4).mp hw
        refine lv_iconst (v := 0) hx hb dX5_isHead_47 (by decide) ?_
        exact ret2_t hM hC rfl hw dX5_isHead_48
      ·
        replace hw := (if_pos c4).mp hw
        refine lv_iconst (v := 1) hx hb dX5_isHead_43 (by decide) ?_
        refine lv_goto (tgt := 48) hx hb dX5_isHead_44 (by decide) ?_
        exact ret2_t hM hC rfl hw dX5_isHead_48
  ·
    replace hw := (if_neg c2).mp hw
    refine lv_iload_n hx hb dX5_isHead_7 rfl (lo_at hl 1 rfl) ?_
    refine lv_sipush (v := 260) hx hb dX5_isHead_8 (by decide) ?_
    refine lv_icmp_lt (tgt := 25) hx hb dX5_isHead_11 (by decide) (fun c5 => ?_) (fun c5 => ?_)
    ·
      replace hw := (if_pos c5).mp hw
      refine lv_iconst (v := 0) hx hb dX5_isHead_25 (by decide) ?_
      refine lv_goto (tgt := 48) hx hb dX5_isHead_26 (by decide) ?_
      exact ret2_t hM hC rfl hw dX5_isHead_48
    ·
      replace hw := (if_neg c5).mp hw
      refine lv_iload_n hx hb dX5_isHead_14 rfl (lo_at hl 1 rfl) ?_
      refine lv_sipush (v := 262) hx hb dX5_isHead_15 (by decide) ?_
      refine lv_icmp_gt (tgt := 25) hx hb dX5_isHead_18 (by decide) (fun c6 => ?_) (fun c6 => ?_)
      ·
        replace hw := (if_pos c6).mp hw
        refine lv_iconst (v := 0) hx hb dX5_isHead_25 (by decide) ?_
        refine lv_goto (tgt := 48) hx hb dX5_isHead_26 (by decide) ?_
        exact ret2_t hM hC rfl hw dX5_isHead_48
      ·
        replace hw := (if_neg c6).mp hw
        refine lv_iconst (v := 1) hx hb dX5_isHead_21 (by decide) ?_
        refine lv_goto (tgt := 48) hx hb dX5_isHead_22 (by decide) ?_
        exact ret2_t hM hC rfl hw dX5_isHead_48
abbrev rm_X5_isFact : Room := { frames := 0, cells := 0, slots := 0, locals := 0 }
set_option maxRecDepth 100000 in
def wp_X5_isFact (o : Nat) (x1 : Int32) (h : Hp) (Q : Int32 → Hp → Prop) : Prop := ((hpK h o).1 = 20 + 4) ∧ ((if (hpI h o 4) = 0 then ((if x1 < (273 : Int32) then (Q (0 : Int32) h) else ((if (279 : Int32) ≤ x1 then (Q (0 : Int32) h) else (Q (1 : Int32) h))))) else ((if x1 < (265 : Int32) then (Q (0 : Int32) h) else ((if (273 : Int32) ≤ x1 then (Q (0 : Int32) h) else (Q (1 : Int32) h)))))))
set_option maxHeartbeats 4000000 in
set_option maxRecDepth 100000 in
theorem c_X5_isFact (l : Launch) (G : GG) (base : Nat) (A : Nat → Nat) (o : Nat) (x1 : Int32) (h : Hp) (Q : Int32 → Hp → Prop) (hw : wp_X5_isFact o x1 h Q) : Met l yX5_isFact (ww yX5_isFact cX5_isFact 2 (some .boolean)) rm_X5_isFact (va_Pc [.ref (A o), .int x1] (PU2 G base A h A h)) (va_Qi Q (PU2 G base A h A) (fun q => base ≤ q)) 0 0 (fun q => base ≤ q) := by
  refine met2_of (own := RX5) (nm := "isFact") (by decide) rfl rfl (List.forall_mem_cons.mpr ⟨rfl, (List.forall_mem_cons.mpr ⟨rfl, (fun _ h => absurd h List.not_mem_nil)⟩)⟩) (Nat.le_of_ble_eq_true rfl) rfl ?_
  intro p e s m args below meth c H locs ls hM hC hl
  obtain ⟨hx, hb, hr, hml, hown, hts, hg, hs, hlk, hnm⟩ := id hM
  unfold wp_X5_isFact at hw
  refine lv_aload_n hx hb dX5_isFact_0 rfl (lo_at hl 0 rfl) ?_
  obtain ⟨k1, hw⟩ := hw
  refine s_getI hx hb hts hown hg hC fb_4_4 k1 mk_f_RX5_26 dX5_isFact_1 ?_
  refine lv_if_eq (tgt := 29) hx hb dX5_isFact_4 (by decide) (fun c2 => ?_) (fun c2 => ?_)
  ·
    replace hw := (if_pos c2).mp hw
    refine lv_iload_n hx hb dX5_isFact_29 rfl (lo_at hl 1 rfl) ?_
    refine lv_sipush (v := 273) hx hb dX5_isFact_30 (by decide) ?_
    refine lv_icmp_lt (tgt := 47) hx hb dX5_isFact_33 (by decide) (fun c3 => ?_) (fun c3 => ?_)
    ·
      replace hw := (if_pos c3).mp hw
      refine lv_iconst (v := 0) hx hb dX5_isFact_47 (by decide) ?_
      exact ret2_t hM hC rfl hw dX5_isFact_48
    ·
      replace hw := (if_neg c3).mp hw
      refine lv_iload_n hx hb dX5_isFact_36 rfl (lo_at hl 1 rfl) ?_
      refine lv_sipush (v := 279) hx hb dX5_isFact_37 (by decide) ?_
      refine lv_icmp_ge (tgt := 47) hx hb dX5_isFact_40 (by decide) (fun c4 => ?_) (fun c4 => ?_)
      ·
        replace hw := (if_pos c4).mp hw
        refine lv_iconst (v := 0) hx hb dX5_isFact_47 (by decide) ?_
        exact ret2_t hM hC rfl hw dX5_isFact_48
      ·
        replace hw := (if_neg c4).mp hw
        refine lv_iconst (v := 1) hx hb dX5_isFact_43 (by decide) ?_
        refine lv_goto (tgt := 48) hx hb dX5_isFact_44 (by decide) ?_
        exact ret2_t hM hC rfl hw dX5_isFact_48
  ·
    replace hw := (if_neg c2).mp hw
    refine lv_iload_n hx hb dX5_isFact_7 rfl (lo_at hl 1 rfl) ?_
    refine lv_sipush (v := 265) hx hb dX5_isFact_8 (by decide) ?_
    refine lv_icmp_lt (tgt := 25) hx hb dX5_isFact_11 (by decide) (fun c5 => ?_) (fun c5 => ?_)
    ·
      replace hw := (if_pos c5).mp hw
      refine lv_iconst (v := 0) hx hb dX5_isFact_25 (by decide) ?_
      refine lv_goto (tgt := 48) hx hb dX5_isFact_26 (by decide) ?_
      exact ret2_t hM hC rfl hw dX5_isFact_48
    ·
      replace hw := (if_neg c5).mp hw
      refine lv_iload_n hx hb dX5_isFact_14 rfl (lo_at hl 1 rfl) ?_
      refine lv_sipush (v := 273) hx hb dX5_isFact_15 (by decide) ?_
      refine lv_icmp_ge (tgt := 25) hx hb dX5_isFact_18 (by decide) (fun c6 => ?_) (fun c6 => ?_)
      ·
        replace hw := (if_pos c6).mp hw
        refine lv_iconst (v := 0) hx hb dX5_isFact_25 (by decide) ?_
        refine lv_goto (tgt := 48) hx hb dX5_isFact_26 (by decide) ?_
        exact ret2_t hM hC rfl hw dX5_isFact_48
      ·
        replace hw := (if_neg c6).mp hw
        refine lv_iconst (v := 1) hx hb dX5_isFact_21 (by decide) ?_
        refine lv_goto (tgt := 48) hx hb dX5_isFact_22 (by decide) ?_
        exact ret2_t hM hC rfl hw dX5_isFact_48
abbrev rm_X6_runs : Room := { frames := 0, cells := 0, slots := 0, locals := 0 }
set_option maxRecDepth 100000 in
def wp_X6_runs_L6 (r0 : Option Nat) (r1 : Option Nat) (x2 : Int32) (x3 : Int32) (K75 : Int32 → Hp → Prop) (Q : Int32 → Hp → Prop) : Nat → Int32 → Int32 → Hp → Prop
  | 0, _, _, _ => False
  | n + 1, x4, x5, h => (if (32 : Int32) ≤ x5 then (K75 x4 h) else (okA h r0 1 x5 ∧ (∀ v3 : Int32, v3 = hpI h (ad r0) (x5).toNatClampNeg → (okA h r1 1 ((x5 + x2) &&& (31 : Int32)) ∧ (∀ v5 : Int32, v5 = hpI h (ad r1) ((x5 + x2) &&& (31 : Int32)).toNatClampNeg → ((if v3 = (-1 : Int32) then (∀ v7 : Int32, v7 = x5 + (1 : Int32) → (wp_X6_runs_L6 r0 r1 x2 x3 K75 Q n x4 v7 h)) else ((if v5 = (-1 : Int32) then (∀ v9 : Int32, v9 = x5 + (1 : Int32) → (wp_X6_runs_L6 r0 r1 x2 x3 K75 Q n x4 v9 h)) else ((if x3 < (v3 - v5) then (∀ v11 : Int32, v11 = x5 + (1 : Int32) → (wp_X6_runs_L6 r0 r1 x2 x3 K75 Q n x4 v11 h)) else ((if x3 < (v5 - v3) then (∀ v13 : Int32, v13 = x5 + (1 : Int32) → (wp_X6_runs_L6 r0 r1 x2 x3 K75 Q n x4 v13 h)) else (∀ v14 : Int32, v14 = x4 ||| ((1 : Int32) <<< (x5 &&& 31)) → (∀ v15 : Int32, v15 = x5 + (1 : Int32) → (wp_X6_runs_L6 r0 r1 x2 x3 K75 Q n v14 v15 h))))))))))))))))
set_option maxRecDepth 100000 in
def wp_X6_runs (r0 : Option Nat) (r1 : Option Nat) (x2 : Int32) (x3 : Int32) (h : Hp) (Q : Int32 → Hp → Prop) : Prop := wp_X6_runs_L6 r0 r1 x2 x3 (fun (y17 : Int32) (h16 : Hp) => Q y17 h16) Q fuel (0 : Int32) (0 : Int32) h
set_option maxHeartbeats 4000000 in
set_option maxRecDepth 100000 in
theorem t_X6_runs_L6 {p : Program} {l : Launch} {e : Env} {s : State} {m : MethodId} {args : Array Value} {below : List Frame} {meth : Method} {c : Code} {G : GG} {base : Nat} {A : Nat → Nat} {g0 : Hp} (hM : Mx G base p s m args meth c cX6_runs 8 (some .int) RX6 "runs") (r0 : Option Nat) (r1 : Option Nat) (x2 : Int32) (x3 : Int32) (K75 : Int32 → Hp → Prop) (Q : Int32 → Hp → Prop) (hK75 : ∀ (y4 : Int32) (h : Hp) (H : Heap) (locs : List Loc) (ls : Array Slot), Cx2 G base A g0 A h s.heap H locs → lo_has ls 8 [(4, .int y4)] → K75 y4 h → W p l e rm_X6_runs s m args below meth c H locs 0 0 (MQ below (va_Qi Q (PU2 G base A g0 A) (fun q => base ≤ q)) args s 0 0 (fun q => base ≤ q)) (F0 m 75 ls [])) : ∀ (n : Nat) (x4 : Int32) (x5 : Int32) (h : Hp) (H : Heap) (locs : List Loc) (ls : Array Slot), Cx2 G base A g0 A h s.heap H locs → lo_has ls 8 [(0, va_rf (Option.map A r0)), (1, va_rf (Option.map A r1)), (2, .int x2), (3, .int x3), (4, .int x4), (5, .int x5)] → wp_X6_runs_L6 r0 r1 x2 x3 K75 Q n x4 x5 h → W p l e rm_X6_runs s m args below meth c H locs 0 0 (MQ below (va_Qi Q (PU2 G base A g0 A) (fun q => base ≤ q)) args s 0 0 (fun q => base ≤ q)) (F0 m 6 ls []) := by
  intro n
  induction n with
  | zero =>
    intro x4 x5 h H locs ls hC hl hw
    rw [wp_X6_runs_L6] at hw
    exact hw.elim
  | succ n ih =>
    intro x4 x5 h H locs ls hC hl hw
    rw [wp_X6_runs_L6] at hw
    obtain ⟨hx, hb, hr, hml, hown, hts, hg, hs, hlk, hnm⟩ := id hM
    refine lv_iload hx hb dX6_runs_6 (lo_at hl 5 rfl) ?_
    refine lv_bipush (v := 32) hx hb dX6_runs_8 (by decide) ?_
    refine lv_icmp_ge (tgt := 75) hx hb dX6_runs_10 (by decide) (fun c1 => ?_) (fun c1 => ?_)
    ·
      replace hw := (if_pos c1).mp hw
      exact hK75 x4 h H locs ls hC (lo_sub hl [4] rfl) hw
    ·
      replace hw := (if_neg c1).mp hw
      refine lo_aload_n (r := Option.map A r0) hx hb dX6_runs_13 rfl (lo_at hl 0 rfl) ?_
      refine lv_iload hx hb dX6_runs_14 (lo_at hl 5 rfl) ?_
      obtain ⟨k2, hw⟩ := hw
      refine sf_2 k2.1 ?_
      refine s_iald hx hb hg hC k2.2.1 k2.2.2 dX6_runs_16 ?_
      refine lv_topi (fun v3 ev3 => ?_)
      replace hw := hw v3 ev3
      refine lo_istore (lv' := [(6, .int v3), (0, va_rf (Option.map A r0)), (1, va_rf (Option.map A r1)), (2, .int x2), (3, .int x3), (4, .int x4), (5, .int x5)]) hx hb dX6_runs_17 hl (by decide) rfl (fun ls hl => ?_)
      refine lo_aload_n (r := Option.map A r1) hx hb dX6_runs_19 rfl (lo_at hl 2 rfl) ?_
      refine lv_iload hx hb dX6_runs_20 (lo_at hl 6 rfl) ?_
      refine lv_iload_n hx hb dX6_runs_22 rfl (lo_at hl 3 rfl) ?_
      refine lv_iadd hx hb dX6_runs_23 ?_
      refine lv_bipush (v := 31) hx hb dX6_runs_24 (by decide) ?_
      refine lv_iand hx hb dX6_runs_26 ?_
      obtain ⟨k4, hw⟩ := hw
      refine sf_2 k4.1 ?_
      refine s_iald hx hb hg hC k4.2.1 k4.2.2 dX6_runs_27 ?_
      refine lv_topi (fun v5 ev5 => ?_)
      replace hw := hw v5 ev5
      refine lo_istore (lv' := [(7, .int v5), (6, .int v3), (0, va_rf (Option.map A r0)), (1, va_rf (Option.map A r1)), (2, .int x2), (3, .int x3), (4, .int x4), (5, .int x5)]) hx hb dX6_runs_28 hl (by decide) rfl (fun ls hl => ?_)
      refine lv_iload hx hb dX6_runs_30 (lo_at hl 1 rfl) ?_
      refine lv_iconst (v := -1) hx hb dX6_runs_32 (by decide) ?_
      refine lv_icmp_eq (tgt := 69) hx hb dX6_runs_33 (by decide) (fun c6 => ?_) (fun c6 => ?_)
      ·
        replace hw := (if_pos c6).mp hw
        obtain ⟨v7, ev7⟩ : ∃ y : Int32, y = x5 + (1 : Int32) := ⟨_, rfl⟩
        replace hw := hw v7 ev7
        refine lo_iinc (v := v7) (lv' := [(5, .int v7), (7, .int v5), (6, .int v3), (0, va_rf (Option.map A r0)), (1, va_rf (Option.map A r1)), (2, .int x2), (3, .int x3), (4, .int x4)]) hx hb dX6_runs_69 hl (k := 7) rfl (by rw [ev7]; rfl) (by decide) rfl (fun ls hl => ?_)
        refine lv_goto (tgt := 6) hx hb dX6_runs_72 (by decide) ?_
        exact ih x4 v7 h H locs ls hC (lo_sub hl [3, 4, 5, 6, 7, 0] rfl) hw
      ·
        replace hw := (if_neg c6).mp hw
        refine lv_iload hx hb dX6_runs_36 (lo_at hl 0 rfl) ?_
        refine lv_iconst (v := -1) hx hb dX6_runs_38 (by decide) ?_
        refine lv_icmp_eq (tgt := 69) hx hb dX6_runs_39 (by decide) (fun c8 => ?_) (fun c8 => ?_)
        ·
          replace hw := (if_pos c8).mp hw
          obtain ⟨v9, ev9⟩ : ∃ y : Int32, y = x5 + (1 : Int32) := ⟨_, rfl⟩
          replace hw := hw v9 ev9
          refine lo_iinc (v := v9) (lv' := [(5, .int v9), (7, .int v5), (6, .int v3), (0, va_rf (Option.map A r0)), (1, va_rf (Option.map A r1)), (2, .int x2), (3, .int x3), (4, .int x4)]) hx hb dX6_runs_69 hl (k := 7) rfl (by rw [ev9]; rfl) (by decide) rfl (fun ls hl => ?_)
          refine lv_goto (tgt := 6) hx hb dX6_runs_72 (by decide) ?_
          exact ih x4 v9 h H locs ls hC (lo_sub hl [3, 4, 5, 6, 7, 0] rfl) hw
        ·
          replace hw := (if_neg c8).mp hw
          refine lv_iload hx hb dX6_runs_42 (lo_at hl 1 rfl) ?_
          refine lv_iload hx hb dX6_runs_44 (lo_at hl 0 rfl) ?_
          refine lv_isub hx hb dX6_runs_46 ?_
          refine lv_iload_n hx hb dX6_runs_47 rfl (lo_at hl 5 rfl) ?_
          refine lv_icmp_gt (tgt := 69) hx hb dX6_runs_48 (by decide) (fun c10 => ?_) (fun c10 => ?_)
          ·
            replace hw := (if_pos c10).mp hw
            obtain ⟨v11, ev11⟩ : ∃ y : Int32, y = x5 + (1 : Int32) := ⟨_, rfl⟩
            replace hw := hw v11 ev11
            refine lo_iinc (v := v11) (lv' := [(5, .int v11), (7, .int v5), (6, .int v3), (0, va_rf (Option.map A r0)), (1, va_rf (Option.map A r1)), (2, .int x2), (3, .int x3), (4, .int x4)]) hx hb dX6_runs_69 hl (k := 7) rfl (by rw [ev11]; rfl) (by decide) rfl (fun ls hl => ?_)
            refine lv_goto (tgt := 6) hx hb dX6_runs_72 (by decide) ?_
            exact ih x4 v11 h H locs ls hC (lo_sub hl [3, 4, 5, 6, 7, 0] rfl) hw
          ·
            replace hw := (if_neg c10).mp hw
            refine lv_iload hx hb dX6_runs_51 (lo_at hl 0 rfl) ?_
            refine lv_iload hx hb dX6_runs_53 (lo_at hl 1 rfl) ?_
            refine lv_isub hx hb dX6_runs_55 ?_
            refine lv_iload_n hx hb dX6_runs_56 rfl (lo_at hl 5 rfl) ?_
            refine lv_icmp_gt (tgt := 69) hx hb dX6_runs_57 (by decide) (fun c12 => ?_) (fun c12 => ?_)
            ·
              replace hw := (if_pos c12).mp hw
              obtain ⟨v13, ev13⟩ : ∃ y : Int32, y = x5 + (1 : Int32) := ⟨_, rfl⟩
              replace hw := hw v13 ev13
              refine lo_iinc (v := v13) (lv' := [(5, .int v13), (7, .int v5), (6, .int v3), (0, va_rf (Option.map A r0)), (1, va_rf (Option.map A r1)), (2, .int x2), (3, .int x3), (4, .int x4)]) hx hb dX6_runs_69 hl (k := 7) rfl (by rw [ev13]; rfl) (by decide) rfl (fun ls hl => ?_)
              refine lv_goto (tgt := 6) hx hb dX6_runs_72 (by decide) ?_
              exact ih x4 v13 h H locs ls hC (lo_sub hl [3, 4, 5, 6, 7, 0] rfl) hw
            ·
              replace hw := (if_neg c12).mp hw
              refine lv_iload hx hb dX6_runs_60 (lo_at hl 6 rfl) ?_
              refine lv_iconst (v := 1) hx hb dX6_runs_62 (by decide) ?_
              refine lv_iload hx hb dX6_runs_63 (lo_at hl 7 rfl) ?_
              refine lv_ishl hx hb dX6_runs_65 ?_
              refine lv_ior hx hb dX6_runs_66 ?_
              refine lv_topi (fun v14 ev14 => ?_)
              replace hw := hw v14 ev14
              refine lo_istore (lv' := [(4, .int v14), (7, .int v5), (6, .int v3), (0, va_rf (Option.map A r0)), (1, va_rf (Option.map A r1)), (2, .int x2), (3, .int x3), (5, .int x5)]) hx hb dX6_runs_67 hl (by decide) rfl (fun ls hl => ?_)
              obtain ⟨v15, ev15⟩ : ∃ y : Int32, y = x5 + (1 : Int32) := ⟨_, rfl⟩
              replace hw := hw v15 ev15
              refine lo_iinc (v := v15) (lv' := [(5, .int v15), (4, .int v14), (7, .int v5), (6, .int v3), (0, va_rf (Option.map A r0)), (1, va_rf (Option.map A r1)), (2, .int x2), (3, .int x3)]) hx hb dX6_runs_69 hl (k := 7) rfl (by rw [ev15]; rfl) (by decide) rfl (fun ls hl => ?_)
              refine lv_goto (tgt := 6) hx hb dX6_runs_72 (by decide) ?_
              exact ih v14 v15 h H locs ls hC (lo_sub hl [4, 5, 6, 7, 1, 0] rfl) hw
set_option maxHeartbeats 4000000 in
set_option maxRecDepth 100000 in
theorem c_X6_runs (l : Launch) (G : GG) (base : Nat) (A : Nat → Nat) (r0 : Option Nat) (r1 : Option Nat) (x2 : Int32) (x3 : Int32) (h : Hp) (Q : Int32 → Hp → Prop) (hw : wp_X6_runs r0 r1 x2 x3 h Q) : Met l yX6_runs (ww yX6_runs cX6_runs 8 (some .int)) rm_X6_runs (va_Pc [va_rf (Option.map A r0), va_rf (Option.map A r1), .int x2, .int x3] (PU2 G base A h A h)) (va_Qi Q (PU2 G base A h A) (fun q => base ≤ q)) 0 0 (fun q => base ≤ q) := by
  refine met2_of (own := RX6) (nm := "runs") (by decide) rfl rfl (List.forall_mem_cons.mpr ⟨va_rf_cat _, (List.forall_mem_cons.mpr ⟨va_rf_cat _, (List.forall_mem_cons.mpr ⟨rfl, (List.forall_mem_cons.mpr ⟨rfl, (fun _ h => absurd h List.not_mem_nil)⟩)⟩)⟩)⟩) (Nat.le_of_ble_eq_true rfl) rfl ?_
  intro p e s m args below meth c H locs ls hM hC hl
  obtain ⟨hx, hb, hr, hml, hown, hts, hg, hs, hlk, hnm⟩ := id hM
  unfold wp_X6_runs at hw
  refine lv_iconst (v := 0) hx hb dX6_runs_0 (by decide) ?_
  refine lo_istore (lv' := [(4, .int ((0 : Int32))), (0, va_rf (Option.map A r0)), (1, va_rf (Option.map A r1)), (2, .int x2), (3, .int x3)]) hx hb dX6_runs_1 hl (by decide) rfl (fun ls hl => ?_)
  refine lv_iconst (v := 0) hx hb dX6_runs_3 (by decide) ?_
  refine lo_istore (lv' := [(5, .int ((0 : Int32))), (4, .int ((0 : Int32))), (0, va_rf (Option.map A r0)), (1, va_rf (Option.map A r1)), (2, .int x2), (3, .int x3)]) hx hb dX6_runs_4 hl (by decide) rfl (fun ls hl => ?_)
  refine t_X6_runs_L6 hM r0 r1 x2 x3 _ Q ?_ fuel (0 : Int32) (0 : Int32) h H locs ls hC (lo_sub hl [2, 3, 4, 5, 1, 0] rfl) hw
  intro y17 h16 H locs ls hC hl hw
  refine lv_iload hx hb dX6_runs_75 (lo_at hl 0 rfl) ?_
  exact ret2_i hM hC hw dX6_runs_77
abbrev rm_X6_longestIn : Room := { frames := 0, cells := 0, slots := 0, locals := 0 }
set_option maxRecDepth 100000 in
def wp_X6_longestIn_L6 (K36 : Int32 → Hp → Prop) (Q : Int32 → Hp → Prop) : Nat → Int32 → Int32 → Int32 → Hp → Prop
  | 0, _, _, _, _ => False
  | n + 1, x1, x2, x3, h => (if (32 : Int32) ≤ x3 then (K36 x2 h) else ((if x1 = 0 then (K36 x2 h) else (∀ v3 : Int32, v3 = x1 &&& ((x1 <<< ((1 : Int32) &&& 31)) ||| (((x1).toUInt32 >>> (((31 : Int32)).toUInt32 &&& Int32.toUInt32 31)).toInt32)) → (∀ v4 : Int32, v4 = x2 + (1 : Int32) → (∀ v5 : Int32, v5 = x3 + (1 : Int32) → (wp_X6_longestIn_L6 K36 Q n v3 v4 v5 h)))))))
set_option maxRecDepth 100000 in
def wp_X6_longestIn (x0 : Int32) (h : Hp) (Q : Int32 → Hp → Prop) : Prop := wp_X6_longestIn_L6 (fun (y7 : Int32) (h6 : Hp) => Q y7 h6) Q fuel x0 (0 : Int32) (0 : Int32) h
set_option maxHeartbeats 4000000 in
set_option maxRecDepth 100000 in
theorem t_X6_longestIn_L6 {p : Program} {l : Launch} {e : Env} {s : State} {m : MethodId} {args : Array Value} {below : List Frame} {meth : Method} {c : Code} {G : GG} {base : Nat} {A : Nat → Nat} {g0 : Hp} (hM : Mx G base p s m args meth c cX6_longestIn 4 (some .int) RX6 "longestIn") (K36 : Int32 → Hp → Prop) (Q : Int32 → Hp → Prop) (hK36 : ∀ (y2 : Int32) (h : Hp) (H : Heap) (locs : List Loc) (ls : Array Slot), Cx2 G base A g0 A h s.heap H locs → lo_has ls 4 [(2, .int y2)] → K36 y2 h → W p l e rm_X6_longestIn s m args below meth c H locs 0 0 (MQ below (va_Qi Q (PU2 G base A g0 A) (fun q => base ≤ q)) args s 0 0 (fun q => base ≤ q)) (F0 m 36 ls [])) : ∀ (n : Nat) (x1 : Int32) (x2 : Int32) (x3 : Int32) (h : Hp) (H : Heap) (locs : List Loc) (ls : Array Slot), Cx2 G base A g0 A h s.heap H locs → lo_has ls 4 [(1, .int x1), (2, .int x2), (3, .int x3)] → wp_X6_longestIn_L6 K36 Q n x1 x2 x3 h → W p l e rm_X6_longestIn s m args below meth c H locs 0 0 (MQ below (va_Qi Q (PU2 G base A g0 A) (fun q => base ≤ q)) args s 0 0 (fun q => base ≤ q)) (F0 m 6 ls []) := by
  intro n
  induction n with
  | zero =>
    intro x1 x2 x3 h H locs ls hC hl hw
    rw [wp_X6_longestIn_L6] at hw
    exact hw.elim
  | succ n ih =>
    intro x1 x2 x3 h H locs ls hC hl hw
    rw [wp_X6_longestIn_L6] at hw
    obtain ⟨hx, hb, hr, hml, hown, hts, hg, hs, hlk, hnm⟩ := id hM
    refine lv_iload_n hx hb dX6_longestIn_6 rfl (lo_at hl 2 rfl) ?_
    refine lv_bipush (v := 32) hx hb dX6_longestIn_7 (by decide) ?_
    refine lv_icmp_ge (tgt := 36) hx hb dX6_longestIn_9 (by decide) (fun c1 => ?_) (fun c1 => ?_)
    ·
      replace hw := (if_pos c1).mp hw
      exact hK36 x2 h H locs ls hC (lo_sub hl [1] rfl) hw
    ·
      replace hw := (if_neg c1).mp hw
      refine lv_iload_n hx hb dX6_longestIn_12 rfl (lo_at hl 0 rfl) ?_
      refine lv_if_eq (tgt := 36) hx hb dX6_longestIn_13 (by decide) (fun c2 => ?_) (fun c2 => ?_)
      ·
        replace hw := (if_pos c2).mp hw
        exact hK36 x2 h H locs ls hC (lo_sub hl [1] rfl) hw
      ·
        replace hw := (if_neg c2).mp hw
        refine lv_iload_n hx hb dX6_longestIn_16 rfl (lo_at hl 0 rfl) ?_
        refine lv_iload_n hx hb dX6_longestIn_17 rfl (lo_at hl 0 rfl) ?_
        refine lv_iconst (v := 1) hx hb dX6_longestIn_18 (by decide) ?_
        refine lv_ishl hx hb dX6_longestIn_19 ?_
        refine lv_iload_n hx hb dX6_longestIn_20 rfl (lo_at hl 0 rfl) ?_
        refine lv_bipush (v := 31) hx hb dX6_longestIn_21 (by decide) ?_
        refine lv_iushr hx hb dX6_longestIn_23 (v := ((x1).toUInt32 >>> (((31 : Int32)).toUInt32 &&& Int32.toUInt32 31)).toInt32) rfl ?_
        refine lv_ior hx hb dX6_longestIn_24 ?_
        refine lv_iand hx hb dX6_longestIn_25 ?_
        refine lv_topi (fun v3 ev3 => ?_)
        replace hw := hw v3 ev3
        refine lo_istore_n (lv' := [(1, .int v3), (2, .int x2), (3, .int x3)]) hx hb dX6_longestIn_26 rfl hl (by decide) rfl (fun ls hl => ?_)
        obtain ⟨v4, ev4⟩ : ∃ y : Int32, y = x2 + (1 : Int32) := ⟨_, rfl⟩
        replace hw := hw v4 ev4
        refine lo_iinc (v := v4) (lv' := [(2, .int v4), (1, .int v3), (3, .int x3)]) hx hb dX6_longestIn_27 hl (k := 1) rfl (by rw [ev4]; rfl) (by decide) rfl (fun ls hl => ?_)
        obtain ⟨v5, ev5⟩ : ∃ y : Int32, y = x3 + (1 : Int32) := ⟨_, rfl⟩
        replace hw := hw v5 ev5
        refine lo_iinc (v := v5) (lv' := [(3, .int v5), (2, .int v4), (1, .int v3)]) hx hb dX6_longestIn_30 hl (k := 2) rfl (by rw [ev5]; rfl) (by decide) rfl (fun ls hl => ?_)
        refine lv_goto (tgt := 6) hx hb dX6_longestIn_33 (by decide) ?_
        exact ih v3 v4 v5 h H locs ls hC (lo_sub hl [2, 1, 0] rfl) hw
set_option maxHeartbeats 4000000 in
set_option maxRecDepth 100000 in
theorem c_X6_longestIn (l : Launch) (G : GG) (base : Nat) (A : Nat → Nat) (x0 : Int32) (h : Hp) (Q : Int32 → Hp → Prop) (hw : wp_X6_longestIn x0 h Q) : Met l yX6_longestIn (ww yX6_longestIn cX6_longestIn 4 (some .int)) rm_X6_longestIn (va_Pc [.int x0] (PU2 G base A h A h)) (va_Qi Q (PU2 G base A h A) (fun q => base ≤ q)) 0 0 (fun q => base ≤ q) := by
  refine met2_of (own := RX6) (nm := "longestIn") (by decide) rfl rfl (List.forall_mem_cons.mpr ⟨rfl, (fun _ h => absurd h List.not_mem_nil)⟩) (Nat.le_of_ble_eq_true rfl) rfl ?_
  intro p e s m args below meth c H locs ls hM hC hl
  obtain ⟨hx, hb, hr, hml, hown, hts, hg, hs, hlk, hnm⟩ := id hM
  unfold wp_X6_longestIn at hw
  refine lv_iload_n hx hb dX6_longestIn_0 rfl (lo_at hl 0 rfl) ?_
  refine lo_istore_n (lv' := [(1, .int x0), (0, .int x0)]) hx hb dX6_longestIn_1 rfl hl (by decide) rfl (fun ls hl => ?_)
  refine lv_iconst (v := 0) hx hb dX6_longestIn_2 (by decide) ?_
  refine lo_istore_n (lv' := [(2, .int ((0 : Int32))), (1, .int x0), (0, .int x0)]) hx hb dX6_longestIn_3 rfl hl (by decide) rfl (fun ls hl => ?_)
  refine lv_iconst (v := 0) hx hb dX6_longestIn_4 (by decide) ?_
  refine lo_istore_n (lv' := [(3, .int ((0 : Int32))), (2, .int ((0 : Int32))), (1, .int x0), (0, .int x0)]) hx hb dX6_longestIn_5 rfl hl (by decide) rfl (fun ls hl => ?_)
  refine t_X6_longestIn_L6 hM _ Q ?_ fuel x0 (0 : Int32) (0 : Int32) h H locs ls hC (lo_sub hl [2, 1, 0] rfl) hw
  intro y7 h6 H locs ls hC hl hw
  refine lv_iload_n hx hb dX6_longestIn_36 rfl (lo_at hl 0 rfl) ?_
  exact ret2_i hM hC hw dX6_longestIn_37
abbrev rm_X6_addHair : Room := { frames := 1, cells := 0, slots := 0, locals := 40 }
set_option maxRecDepth 100000 in
def wp_X6_addHair_J67 (x0 : Int32) (x1 : Int32) (r2 : Option Nat) (r3 : Option Nat) (x4 : Int32) (x5 : Int32) (x6 : Int32) (KH : Int32 → Hp → Prop) (K90 : Hp → Prop) (Q : Hp → Prop) (h : Hp) : Prop := okA h r2 1 x5 ∧ (∀ v7 : Int32, v7 = hpI h (ad r2) (x5).toNatClampNeg → (okA h r3 1 (x1 + x5) ∧ (∀ h9 : Hp, h9 = stI h (ad r3) (x1 + x5).toNatClampNeg (x6 + ((((v7).toUInt32 >>> ((x0).toUInt32 &&& Int32.toUInt32 31)).toInt32) &&& (1 : Int32))) → (∀ v10 : Int32, v10 = x5 + (1 : Int32) → (KH v10 h9)))))
set_option maxRecDepth 100000 in
def wp_X6_addHair_L9 (x0 : Int32) (x1 : Int32) (r2 : Option Nat) (r3 : Option Nat) (x4 : Int32) (K90 : Hp → Prop) (Q : Hp → Prop) : Nat → Int32 → Hp → Prop
  | 0, _, _ => False
  | n + 1, x5, h => (if (32 : Int32) ≤ x5 then (K90 h) else (okA h r3 1 (x1 + x5) ∧ (∀ v4 : Int32, v4 = hpI h (ad r3) (x1 + x5).toNatClampNeg → ((if x4 < 0 then (wp_X6_addHair_J67 x0 x1 r2 r3 x4 x5 v4 (wp_X6_addHair_L9 x0 x1 r2 r3 x4 K90 Q n) K90 Q h) else (okA h r3 1 (x4 + ((x5 - (1 : Int32)) &&& (31 : Int32))) ∧ (∀ v12 : Int32, v12 = hpI h (ad r3) (x4 + ((x5 - (1 : Int32)) &&& (31 : Int32))).toNatClampNeg → (∀ v13 : Int32, v13 = (if v4 < v12 then v12 else v4) → (okA h r3 1 (x4 + ((x5 + (1 : Int32)) &&& (31 : Int32))) ∧ (∀ v15 : Int32, v15 = hpI h (ad r3) (x4 + ((x5 + (1 : Int32)) &&& (31 : Int32))).toNatClampNeg → (∀ v16 : Int32, v16 = (if v13 < v15 then v15 else v13) → (wp_X6_addHair_J67 x0 x1 r2 r3 x4 x5 v16 (wp_X6_addHair_L9 x0 x1 r2 r3 x4 K90 Q n) K90 Q h))))))))))))
set_option maxRecDepth 100000 in
def wp_X6_addHair (x0 : Int32) (x1 : Int32) (r2 : Option Nat) (r3 : Option Nat) (h : Hp) (Q : Hp → Prop) : Prop := ∀ v1 : Int32, v1 = x1 - (32 : Int32) → (wp_X6_addHair_L9 x0 x1 r2 r3 v1 (fun (h17 : Hp) => Q h17) Q fuel (0 : Int32) h)
set_option maxHeartbeats 4000000 in
set_option maxRecDepth 100000 in
theorem t_X6_addHair_J67 {p : Program} {l : Launch} {e : Env} {s : State} {m : MethodId} {args : Array Value} {below : List Frame} {meth : Method} {c : Code} {G : GG} {base : Nat} {A : Nat → Nat} {g0 : Hp} (hM : Mx G base p s m args meth c cX6_addHair 7 none RX6 "addHair") (x0 : Int32) (x1 : Int32) (r2 : Option Nat) (r3 : Option Nat) (x4 : Int32) (x5 : Int32) (x6 : Int32) (KH : Int32 → Hp → Prop) (K90 : Hp → Prop) (Q : Hp → Prop) (hKH : ∀ (y5 : Int32) (h : Hp) (H : Heap) (locs : List Loc) (ls : Array Slot), Cx2 G base A g0 A h s.heap H locs → lo_has ls 7 [(0, .int x0), (1, .int x1), (2, va_rf (Option.map A r2)), (3, va_rf (Option.map A r3)), (4, .int x4), (5, .int y5)] → KH y5 h → W p l e rm_X6_addHair s m args below meth c H locs 0 0 (MQ below (va_Qv Q (PU2 G base A g0 A) (fun q => base ≤ q)) args s 0 0 (fun q => base ≤ q)) (F0 m 9 ls [])) (hK90 : ∀ (h : Hp) (H : Heap) (locs : List Loc) (ls : Array Slot), Cx2 G base A g0 A h s.heap H locs → lo_has ls 7 [] → K90 h → W p l e rm_X6_addHair s m args below meth c H locs 0 0 (MQ below (va_Qv Q (PU2 G base A g0 A) (fun q => base ≤ q)) args s 0 0 (fun q => base ≤ q)) (F0 m 90 ls [])) (h : Hp) (H : Heap) (locs : List Loc) (ls : Array Slot) : Cx2 G base A g0 A h s.heap H locs → lo_has ls 7 [(0, .int x0), (1, .int x1), (2, va_rf (Option.map A r2)), (3, va_rf (Option.map A r3)), (4, .int x4), (5, .int x5), (6, .int x6)] → wp_X6_addHair_J67 x0 x1 r2 r3 x4 x5 x6 KH K90 Q h → W p l e rm_X6_addHair s m args below meth c H locs 0 0 (MQ below (va_Qv Q (PU2 G base A g0 A) (fun q => base ≤ q)) args s 0 0 (fun q => base ≤ q)) (F0 m 67 ls []) := by
  intro hC hl hw
  unfold wp_X6_addHair_J67 at hw
  obtain ⟨hx, hb, hr, hml, hown, hts, hg, hs, hlk, hnm⟩ := id hM
  refine lo_aload_n (r := Option.map A r3) hx hb dX6_addHair_67 rfl (lo_at hl 3 rfl) ?_
  refine lv_iload_n hx hb dX6_addHair_68 rfl (lo_at hl 1 rfl) ?_
  refine lv_iload hx hb dX6_addHair_69 (lo_at hl 5 rfl) ?_
  refine lv_iadd hx hb dX6_addHair_71 ?_
  refine lv_iload hx hb dX6_addHair_72 (lo_at hl 6 rfl) ?_
  refine lo_aload_n (r := Option.map A r2) hx hb dX6_addHair_74 rfl (lo_at hl 2 rfl) ?_
  refine lv_iload hx hb dX6_addHair_75 (lo_at hl 5 rfl) ?_
  obtain ⟨k6, hw⟩ := hw
  refine sf_2 k6.1 ?_
  refine s_iald hx hb hg hC k6.2.1 k6.2.2 dX6_addHair_77 ?_
  refine lv_topi (fun v7 ev7 => ?_)
  replace hw := hw v7 ev7
  refine lv_iload_n hx hb dX6_addHair_78 rfl (lo_at hl 0 rfl) ?_
  refine lv_iushr hx hb dX6_addHair_79 (v := ((v7).toUInt32 >>> ((x0).toUInt32 &&& Int32.toUInt32 31)).toInt32) rfl ?_
  refine lv_iconst (v := 1) hx hb dX6_addHair_80 (by decide) ?_
  refine lv_iand hx hb dX6_addHair_81 ?_
  refine lv_iadd hx hb dX6_addHair_82 ?_
  obtain ⟨k8, hw⟩ := hw
  refine sf_3 k8.1 ?_
  refine s_iast hx hb hg hC k8.2.1 k8.2.2 dX6_addHair_83 (fun h9 H locs eh9 hC => ?_)
  replace hw := hw h9 eh9
  obtain ⟨v10, ev10⟩ : ∃ y : Int32, y = x5 + (1 : Int32) := ⟨_, rfl⟩
  replace hw := hw v10 ev10
  refine lo_iinc (v := v10) (lv' := [(5, .int v10), (0, .int x0), (1, .int x1), (2, va_rf (Option.map A r2)), (3, va_rf (Option.map A r3)), (4, .int x4), (6, .int x6)]) hx hb dX6_addHair_84 hl (k := 5) rfl (by rw [ev10]; rfl) (by decide) rfl (fun ls hl => ?_)
  refine lv_goto (tgt := 9) hx hb dX6_addHair_87 (by decide) ?_
  exact hKH v10 h9 H locs ls hC (lo_sub hl [1, 2, 3, 4, 5, 0] rfl) hw
set_option maxHeartbeats 4000000 in
set_option maxRecDepth 100000 in
theorem t_X6_addHair_L9 {p : Program} {l : Launch} {e : Env} {s : State} {m : MethodId} {args : Array Value} {below : List Frame} {meth : Method} {c : Code} {G : GG} {base : Nat} {A : Nat → Nat} {g0 : Hp} (hM : Mx G base p s m args meth c cX6_addHair 7 none RX6 "addHair") (x0 : Int32) (x1 : Int32) (r2 : Option Nat) (r3 : Option Nat) (x4 : Int32) (K90 : Hp → Prop) (Q : Hp → Prop) (hK90 : ∀ (h : Hp) (H : Heap) (locs : List Loc) (ls : Array Slot), Cx2 G base A g0 A h s.heap H locs → lo_has ls 7 [] → K90 h → W p l e rm_X6_addHair s m args below meth c H locs 0 0 (MQ below (va_Qv Q (PU2 G base A g0 A) (fun q => base ≤ q)) args s 0 0 (fun q => base ≤ q)) (F0 m 90 ls [])) : ∀ (n : Nat) (x5 : Int32) (h : Hp) (H : Heap) (locs : List Loc) (ls : Array Slot), Cx2 G base A g0 A h s.heap H locs → lo_has ls 7 [(0, .int x0), (1, .int x1), (2, va_rf (Option.map A r2)), (3, va_rf (Option.map A r3)), (4, .int x4), (5, .int x5)] → wp_X6_addHair_L9 x0 x1 r2 r3 x4 K90 Q n x5 h → W p l e rm_X6_addHair s m args below meth c H locs 0 0 (MQ below (va_Qv Q (PU2 G base A g0 A) (fun q => base ≤ q)) args s 0 0 (fun q => base ≤ q)) (F0 m 9 ls []) := by
  intro n
  induction n with
  | zero =>
    intro x5 h H locs ls hC hl hw
    rw [wp_X6_addHair_L9] at hw
    exact hw.elim
  | succ n ih =>
    intro x5 h H locs ls hC hl hw
    rw [wp_X6_addHair_L9] at hw
    obtain ⟨hx, hb, hr, hml, hown, hts, hg, hs, hlk, hnm⟩ := id hM
    refine lv_iload hx hb dX6_addHair_9 (lo_at hl 5 rfl) ?_
    refine lv_bipush (v := 32) hx hb dX6_addHair_11 (by decide) ?_
    refine lv_icmp_ge (tgt := 90) hx hb dX6_addHair_13 (by decide) (fun c2 => ?_) (fun c2 => ?_)
    ·
      replace hw := (if_pos c2).mp hw
      exact hK90  h H locs ls hC (lo_sub hl [] rfl) hw
    ·
      replace hw := (if_neg c2).mp hw
      refine lo_aload_n (r := Option.map A r3) hx hb dX6_addHair_16 rfl (lo_at hl 3 rfl) ?_
      refine lv_iload_n hx hb dX6_addHair_17 rfl (lo_at hl 1 rfl) ?_
      refine lv_iload hx hb dX6_addHair_18 (lo_at hl 5 rfl) ?_
      refine lv_iadd hx hb dX6_addHair_20 ?_
      obtain ⟨k3, hw⟩ := hw
      refine sf_2 k3.1 ?_
      refine s_iald hx hb hg hC k3.2.1 k3.2.2 dX6_addHair_21 ?_
      refine lv_topi (fun v4 ev4 => ?_)
      replace hw := hw v4 ev4
      refine lo_istore (lv' := [(6, .int v4), (0, .int x0), (1, .int x1), (2, va_rf (Option.map A r2)), (3, va_rf (Option.map A r3)), (4, .int x4), (5, .int x5)]) hx hb dX6_addHair_22 hl (by decide) rfl (fun ls hl => ?_)
      refine lv_iload hx hb dX6_addHair_24 (lo_at hl 5 rfl) ?_
      refine lv_if_lt (tgt := 67) hx hb dX6_addHair_26 (by decide) (fun c5 => ?_) (fun c5 => ?_)
      ·
        replace hw := (if_pos c5).mp hw
        exact t_X6_addHair_J67 hM x0 x1 r2 r3 x4 x5 v4 (wp_X6_addHair_L9 x0 x1 r2 r3 x4 K90 Q n) K90 Q ih hK90 h H locs ls hC (lo_sub hl [1, 2, 3, 4, 5, 6, 0] rfl) hw
      ·
        replace hw := (if_neg c5).mp hw
        refine lv_iload hx hb dX6_addHair_29 (lo_at hl 0 rfl) ?_
        refine lo_aload_n (r := Option.map A r3) hx hb dX6_addHair_31 rfl (lo_at hl 4 rfl) ?_
        refine lv_iload hx hb dX6_addHair_32 (lo_at hl 5 rfl) ?_
        refine lv_iload hx hb dX6_addHair_34 (lo_at hl 6 rfl) ?_
        refine lv_iconst (v := 1) hx hb dX6_addHair_36 (by decide) ?_
        refine lv_isub hx hb dX6_addHair_37 ?_
        refine lv_bipush (v := 31) hx hb dX6_addHair_38 (by decide) ?_
        refine lv_iand hx hb dX6_addHair_40 ?_
        refine lv_iadd hx hb dX6_addHair_41 ?_
        obtain ⟨k11, hw⟩ := hw
        refine sf_2 k11.1 ?_
        refine s_iald hx hb hg hC k11.2.1 k11.2.2 dX6_addHair_42 ?_
        refine lv_topi (fun v12 ev12 => ?_)
        replace hw := hw v12 ev12
        refine va_mmax hx hb (by rw [hml]; exact hl.1.1.symm) hown (hts _ mk_m_RX6_49) (hts _ mk_math_s_max) (hts _ mk_ini_math) (hts _ mk_math_c_max) (Nat.le_of_ble_eq_true rfl) (Nat.le_of_ble_eq_true rfl) (Nat.le_of_ble_eq_true rfl) (Nat.le_of_ble_eq_true rfl) dX6_addHair_43 ?_
        refine lv_topi (fun v13 ev13 => ?_)
        replace hw := hw v13 ev13
        refine lo_istore (lv' := [(6, .int v13), (0, .int x0), (1, .int x1), (2, va_rf (Option.map A r2)), (3, va_rf (Option.map A r3)), (4, .int x4), (5, .int x5)]) hx hb dX6_addHair_46 hl (by decide) rfl (fun ls hl => ?_)
        refine lv_iload hx hb dX6_addHair_48 (lo_at hl 0 rfl) ?_
        refine lo_aload_n (r := Option.map A r3) hx hb dX6_addHair_50 rfl (lo_at hl 4 rfl) ?_
        refine lv_iload hx hb dX6_addHair_51 (lo_at hl 5 rfl) ?_
        refine lv_iload hx hb dX6_addHair_53 (lo_at hl 6 rfl) ?_
        refine lv_iconst (v := 1) hx hb dX6_addHair_55 (by decide) ?_
        refine lv_iadd hx hb dX6_addHair_56 ?_
        refine lv_bipush (v := 31) hx hb dX6_addHair_57 (by decide) ?_
        refine lv_iand hx hb dX6_addHair_59 ?_
        refine lv_iadd hx hb dX6_addHair_60 ?_
        obtain ⟨k14, hw⟩ := hw
        refine sf_2 k14.1 ?_
        refine s_iald hx hb hg hC k14.2.1 k14.2.2 dX6_addHair_61 ?_
        refine lv_topi (fun v15 ev15 => ?_)
        replace hw := hw v15 ev15
        refine va_mmax hx hb (by rw [hml]; exact hl.1.1.symm) hown (hts _ mk_m_RX6_49) (hts _ mk_math_s_max) (hts _ mk_ini_math) (hts _ mk_math_c_max) (Nat.le_of_ble_eq_true rfl) (Nat.le_of_ble_eq_true rfl) (Nat.le_of_ble_eq_true rfl) (Nat.le_of_ble_eq_true rfl) dX6_addHair_62 ?_
        refine lv_topi (fun v16 ev16 => ?_)
        replace hw := hw v16 ev16
        refine lo_istore (lv' := [(6, .int v16), (0, .int x0), (1, .int x1), (2, va_rf (Option.map A r2)), (3, va_rf (Option.map A r3)), (4, .int x4), (5, .int x5)]) hx hb dX6_addHair_65 hl (by decide) rfl (fun ls hl => ?_)
        exact t_X6_addHair_J67 hM x0 x1 r2 r3 x4 x5 v16 (wp_X6_addHair_L9 x0 x1 r2 r3 x4 K90 Q n) K90 Q ih hK90 h H locs ls hC (lo_sub hl [1, 2, 3, 4, 5, 6, 0] rfl) hw
set_option maxHeartbeats 4000000 in
set_option maxRecDepth 100000 in
theorem c_X6_addHair (l : Launch) (G : GG) (base : Nat) (A : Nat → Nat) (x0 : Int32) (x1 : Int32) (r2 : Option Nat) (r3 : Option Nat) (h : Hp) (Q : Hp → Prop) (hw : wp_X6_addHair x0 x1 r2 r3 h Q) : Met l yX6_addHair (ww yX6_addHair cX6_addHair 7 none) rm_X6_addHair (va_Pc [.int x0, .int x1, va_rf (Option.map A r2), va_rf (Option.map A r3)] (PU2 G base A h A h)) (va_Qv Q (PU2 G base A h A) (fun q => base ≤ q)) 0 0 (fun q => base ≤ q) := by
  refine met2_of (own := RX6) (nm := "addHair") (by decide) rfl rfl (List.forall_mem_cons.mpr ⟨rfl, (List.forall_mem_cons.mpr ⟨rfl, (List.forall_mem_cons.mpr ⟨va_rf_cat _, (List.forall_mem_cons.mpr ⟨va_rf_cat _, (fun _ h => absurd h List.not_mem_nil)⟩)⟩)⟩)⟩) (Nat.le_of_ble_eq_true rfl) rfl ?_
  intro p e s m args below meth c H locs ls hM hC hl
  obtain ⟨hx, hb, hr, hml, hown, hts, hg, hs, hlk, hnm⟩ := id hM
  unfold wp_X6_addHair at hw
  refine lv_iload_n hx hb dX6_addHair_0 rfl (lo_at hl 1 rfl) ?_
  refine lv_bipush (v := 32) hx hb dX6_addHair_1 (by decide) ?_
  refine lv_isub hx hb dX6_addHair_3 ?_
  refine lv_topi (fun v1 ev1 => ?_)
  replace hw := hw v1 ev1
  refine lo_istore (lv' := [(4, .int v1), (0, .int x0), (1, .int x1), (2, va_rf (Option.map A r2)), (3, va_rf (Option.map A r3))]) hx hb dX6_addHair_4 hl (by decide) rfl (fun ls hl => ?_)
  refine lv_iconst (v := 0) hx hb dX6_addHair_6 (by decide) ?_
  refine lo_istore (lv' := [(5, .int ((0 : Int32))), (4, .int v1), (0, .int x0), (1, .int x1), (2, va_rf (Option.map A r2)), (3, va_rf (Option.map A r3))]) hx hb dX6_addHair_7 hl (by decide) rfl (fun ls hl => ?_)
  refine t_X6_addHair_L9 hM x0 x1 r2 r3 v1 _ Q ?_ fuel (0 : Int32) h H locs ls hC (lo_sub hl [2, 3, 4, 5, 1, 0] rfl) hw
  intro  h17 H locs ls hC hl hw
  exact ret2_v hM hC hw dX6_addHair_90
