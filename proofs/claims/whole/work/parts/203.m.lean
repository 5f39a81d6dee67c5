abbrev rm_X11_hoursOf : Room := { frames := 0, cells := 0, slots := 0, locals := 0 }
def wp_X11_hoursOf_L4 (o : Nat) (x1 : Int32) (K48 : Int32 → Hp → Prop) (Q : Int32 → Hp → Prop) : Nat → Int32 → Int32 → Hp → Prop
  | 0, _, _, _ => False
  | n + 1, x2, x3, h => ((hpK h o).1 = 20 + 9) ∧ ((if (hpI h o 10) ≤ x3 then (K48 x2 h) else (okA h (hpR h o 9) 6 x3 ∧ ((if (hpR h (ad (hpR h o 9)) (x3).toNatClampNeg) = none then (∀ v5 : Int32, v5 = x3 + (1 : Int32) → (wp_X11_hoursOf_L4 o x1 K48 Q n x2 v5 h)) else ((if ((((x1).toUInt32 >>> ((x3).toUInt32 &&& Int32.toUInt32 31)).toInt32) &&& (1 : Int32)) = (1 : Int32) then (okO h (hpR h (ad (hpR h o 9)) (x3).toNatClampNeg) 3 ∧ (∀ v9 : Int32, v9 = x2 + (hpI h (ad (hpR h (ad (hpR h o 9)) (x3).toNatClampNeg)) 2) → (∀ v10 : Int32, v10 = x3 + (1 : Int32) → (wp_X11_hoursOf_L4 o x1 K48 Q n v9 v10 h)))) else (∀ v7 : Int32, v7 = x3 + (1 : Int32) → (wp_X11_hoursOf_L4 o x1 K48 Q n x2 v7 h)))))))))
def wp_X11_hoursOf (o : Nat) (x1 : Int32) (h : Hp) (Q : Int32 → Hp → Prop) : Prop := wp_X11_hoursOf_L4 o x1 (fun (y12 : Int32) (h11 : Hp) => Q y12 h11) Q fuel (0 : Int32) (0 : Int32) h
set_option maxHeartbeats 4000000 in
set_option maxRecDepth 100000 in
theorem t_X11_hoursOf_L4 {p : Program} {l : Launch} {e : Env} {s : State} {m : MethodId} {args : Array Value} {below : List Frame} {meth : Method} {c : Code} {G : GG} {base : Nat} (hM : Mx G base p s m args meth c cX11_hoursOf 5 (some .int) RX11 "hoursOf") (o : Nat) (x1 : Int32) (K48 : Int32 → Hp → Prop) (Q : Int32 → Hp → Prop) (hK48 : ∀ (y2 : Int32) (h : Hp) (H : Heap) (locs : List Loc) (ls : Array Slot), Cx G base h s.heap H locs → lo_has ls 5 [(2, .int y2)] → K48 y2 h → W p l e rm_X11_hoursOf s m args below meth c H locs 0 0 (MQ below (va_Qi Q (PU G base) (fun q => base ≤ q)) args s 0 0 (fun q => base ≤ q)) (F0 m 48 ls [])) : ∀ (n : Nat) (x2 : Int32) (x3 : Int32) (h : Hp) (H : Heap) (locs : List Loc) (ls : Array Slot), Cx G base h s.heap H locs → lo_has ls 5 [(0, .ref o), (1, .int x1), (2, .int x2), (3, .int x3)] → wp_X11_hoursOf_L4 o x1 K48 Q n x2 x3 h → W p l e rm_X11_hoursOf s m args below meth c H locs 0 0 (MQ below (va_Qi Q (PU G base) (fun q => base ≤ q)) args s 0 0 (fun q => base ≤ q)) (F0 m 4 ls []) := by
  intro n
  induction n with
  | zero =>
    intro x2 x3 h H locs ls hC hl hw
    rw [wp_X11_hoursOf_L4] at hw
    exact hw.elim
  | succ n ih =>
    intro x2 x3 h H locs ls hC hl hw
    rw [wp_X11_hoursOf_L4] at hw
    obtain ⟨hx, hb, hr, hml, hown, hts, hg, hs, hlk, hnm⟩ := id hM
    refine lv_iload_n hx hb dX11_hoursOf_4 rfl (lo_at hl 3 rfl) ?_
    refine lv_aload_n hx hb dX11_hoursOf_5 rfl (lo_at hl 0 rfl) ?_
    obtain ⟨k1, hw⟩ := hw
    refine r_getI hx hb hts hown hg hC fb_9_10 k1 mk_f_RX11_258 dX11_hoursOf_6 ?_
    refine lv_icmp_ge (tgt := 48) hx hb dX11_hoursOf_9 (by decide) (fun c2 => ?_) (fun c2 => ?_)
    ·
      replace hw := (if_pos c2).mp hw
      exact hK48 x2 h H locs ls hC (lo_sub hl [2] rfl) hw
    ·
      replace hw := (if_neg c2).mp hw
      refine lv_aload_n hx hb dX11_hoursOf_12 rfl (lo_at hl 0 rfl) ?_
      refine r_getR hx hb hts hown hg hC fb_9_9 k1 mk_f_RX11_35 dX11_hoursOf_13 ?_
      refine lv_iload_n hx hb dX11_hoursOf_16 rfl (lo_at hl 3 rfl) ?_
      obtain ⟨k3, hw⟩ := hw
      refine rf_2 k3.1 ?_
      refine r_aald (kd := 6) (t0 := 5) hx hb hg hC k3.2.1 (by decide) rfl k3.2.2 dX11_hoursOf_17 ?_
      refine lo_astore (r := hpR h (ad (hpR h o 9)) (x3).toNatClampNeg) (lv' := [(4, va_rf (hpR h (ad (hpR h o 9)) (x3).toNatClampNeg)), (0, .ref o), (1, .int x1), (2, .int x2), (3, .int x3)]) hx hb dX11_hoursOf_18 hl (by decide) rfl (fun ls hl => ?_)
      refine lo_aload (r := hpR h (ad (hpR h o 9)) (x3).toNatClampNeg) hx hb dX11_hoursOf_20 (lo_at hl 0 rfl) ?_
      refine lo_ifnull (r := hpR h (ad (hpR h o 9)) (x3).toNatClampNeg) (tgt := 42) hx hb dX11_hoursOf_22 (by decide) (fun c4 => ?_) (fun c4 => ?_)
      ·
        replace hw := (if_pos c4).mp hw
        obtain ⟨v5, ev5⟩ : ∃ y : Int32, y = x3 + (1 : Int32) := ⟨_, rfl⟩
        replace hw := hw v5 ev5
        refine lo_iinc (v := v5) (lv' := [(3, .int v5), (4, va_rf (hpR h (ad (hpR h o 9)) (x3).toNatClampNeg)), (0, .ref o), (1, .int x1), (2, .int x2)]) hx hb dX11_hoursOf_42 hl (k := 4) rfl (by rw [ev5]; rfl) (by decide) rfl (fun ls hl => ?_)
        refine lv_goto (tgt := 4) hx hb dX11_hoursOf_45 (by decide) ?_
        exact ih x2 v5 h H locs ls hC (lo_sub hl [2, 3, 4, 0] rfl) hw
      ·
        replace hw := (if_neg c4).mp hw
        refine lv_iload_n hx hb dX11_hoursOf_25 rfl (lo_at hl 2 rfl) ?_
        refine lv_iload_n hx hb dX11_hoursOf_26 rfl (lo_at hl 4 rfl) ?_
        refine lv_iushr hx hb dX11_hoursOf_27 (v := ((x1).toUInt32 >>> ((x3).toUInt32 &&& Int32.toUInt32 31)).toInt32) rfl ?_
        refine lv_iconst (v := 1) hx hb dX11_hoursOf_28 (by decide) ?_
        refine lv_iand hx hb dX11_hoursOf_29 ?_
        refine lv_iconst (v := 1) hx hb dX11_hoursOf_30 (by decide) ?_
        refine lv_icmp_ne (tgt := 42) hx hb dX11_hoursOf_31 (by decide) (fun c6 => ?_) (fun c6 => ?_)
        ·
          replace hw := (if_neg c6).mp hw
          obtain ⟨v7, ev7⟩ : ∃ y : Int32, y = x3 + (1 : Int32) := ⟨_, rfl⟩
          replace hw := hw v7 ev7
          refine lo_iinc (v := v7) (lv' := [(3, .int v7), (4, va_rf (hpR h (ad (hpR h o 9)) (x3).toNatClampNeg)), (0, .ref o), (1, .int x1), (2, .int x2)]) hx hb dX11_hoursOf_42 hl (k := 4) rfl (by rw [ev7]; rfl) (by decide) rfl (fun ls hl => ?_)
          refine lv_goto (tgt := 4) hx hb dX11_hoursOf_45 (by decide) ?_
          exact ih x2 v7 h H locs ls hC (lo_sub hl [2, 3, 4, 0] rfl) hw
        ·
          replace hw := (if_pos c6).mp hw
          refine lv_iload_n hx hb dX11_hoursOf_34 rfl (lo_at hl 3 rfl) ?_
          refine lo_aload (r := hpR h (ad (hpR h o 9)) (x3).toNatClampNeg) hx hb dX11_hoursOf_35 (lo_at hl 0 rfl) ?_
          obtain ⟨k8, hw⟩ := hw
          refine rf_1 k8.1 ?_
          refine r_getI hx hb hts hown hg hC fb_3_2 k8.2 mk_f_RX11_327 dX11_hoursOf_37 ?_
          refine lv_iadd hx hb dX11_hoursOf_40 ?_
          refine lv_topi (fun v9 ev9 => ?_)
          replace hw := hw v9 ev9
          refine lo_istore_n (lv' := [(2, .int v9), (4, va_rf (hpR h (ad (hpR h o 9)) (x3).toNatClampNeg)), (0, .ref o), (1, .int x1), (3, .int x3)]) hx hb dX11_hoursOf_41 rfl hl (by decide) rfl (fun ls hl => ?_)
          obtain ⟨v10, ev10⟩ : ∃ y : Int32, y = x3 + (1 : Int32) := ⟨_, rfl⟩
          replace hw := hw v10 ev10
          refine lo_iinc (v := v10) (lv' := [(3, .int v10), (2, .int v9), (4, va_rf (hpR h (ad (hpR h o 9)) (x3).toNatClampNeg)), (0, .ref o), (1, .int x1)]) hx hb dX11_hoursOf_42 hl (k := 4) rfl (by rw [ev10]; rfl) (by decide) rfl (fun ls hl => ?_)
          refine lv_goto (tgt := 4) hx hb dX11_hoursOf_45 (by decide) ?_
          exact ih v9 v10 h H locs ls hC (lo_sub hl [3, 4, 1, 0] rfl) hw
set_option maxHeartbeats 4000000 in
set_option maxRecDepth 100000 in
theorem c_X11_hoursOf (l : Launch) (G : GG) (base : Nat) (o : Nat) (x1 : Int32) (h : Hp) (Q : Int32 → Hp → Prop) (hw : wp_X11_hoursOf o x1 h Q) : Met l yX11_hoursOf (ww yX11_hoursOf cX11_hoursOf 5 (some .int)) rm_X11_hoursOf (va_Pc [.ref o, .int x1] (PU G base h)) (va_Qi Q (PU G base) (fun q => base ≤ q)) 0 0 (fun q => base ≤ q) := by
  refine met_of (own := RX11) (nm := "hoursOf") (by decide) rfl rfl (List.forall_mem_cons.mpr ⟨rfl, (List.forall_mem_cons.mpr ⟨rfl, (fun _ h => absurd h List.not_mem_nil)⟩)⟩) (Nat.le_of_ble_eq_true rfl) rfl ?_
  intro p e s m below meth c ls hM hC hl
  obtain ⟨hx, hb, hr, hml, hown, hts, hg, hs, hlk, hnm⟩ := id hM
  obtain ⟨args, hargs⟩ : ∃ a : Array Value, a = ([.ref o, .int x1] : List Value).toArray := ⟨_, rfl⟩
  rw [← hargs] at hM hts ⊢
  obtain ⟨H, hH⟩ : ∃ H : Heap, H = s.heap := ⟨_, rfl⟩
  obtain ⟨locs, hlocs⟩ : ∃ x : List Loc, x = [] := ⟨_, rfl⟩
  have hC : Cx G base h s.heap H locs := by rw [hH, hlocs]; exact hC
  show W p l e rm_X11_hoursOf s m args below meth c s.heap [] 0 0 (MQ below (va_Qi Q (PU G base) (fun q => base ≤ q)) args s 0 0 (fun q => base ≤ q)) (F0 m 0 ls [])
  rw [← hlocs]
  have hgoal : W p l e rm_X11_hoursOf s m args below meth c H locs 0 0 (MQ below (va_Qi Q (PU G base) (fun q => base ≤ q)) args s 0 0 (fun q => base ≤ q)) (F0 m 0 ls []) := ?_
  · rw [hH] at hgoal; exact hgoal
  clear hH hlocs
  unfold wp_X11_hoursOf at hw
  refine lv_iconst (v := 0) hx hb dX11_hoursOf_0 (by decide) ?_
  refine lo_istore_n (lv' := [(2, .int ((0 : Int32))), (0, .ref o), (1, .int x1)]) hx hb dX11_hoursOf_1 rfl hl (by decide) rfl (fun ls hl => ?_)
  refine lv_iconst (v := 0) hx hb dX11_hoursOf_2 (by decide) ?_
  refine lo_istore_n (lv' := [(3, .int ((0 : Int32))), (2, .int ((0 : Int32))), (0, .ref o), (1, .int x1)]) hx hb dX11_hoursOf_3 rfl hl (by decide) rfl (fun ls hl => ?_)
  refine t_X11_hoursOf_L4 hM o x1 _ Q ?_ fuel (0 : Int32) (0 : Int32) h H locs ls hC (lo_sub hl [2, 3, 1, 0] rfl) hw
  intro y12 h11 H locs ls hC hl hw
  refine lv_iload_n hx hb dX11_hoursOf_48 rfl (lo_at hl 0 rfl) ?_
  exact ret_i hM hC hw dX11_hoursOf_49
abbrev rm_X11_isOfScene : Room := { frames := 0, cells := 0, slots := 0, locals := 0 }
def wp_X11_isOfScene (o : Nat) (x1 : Int32) (x2 : Int32) (h : Hp) (Q : Int32 → Hp → Prop) : Prop := ((hpK h o).1 = 20 + 9) ∧ (okA h (hpR h o 11) 2 x1 ∧ (∀ v3 : Int64, v3 = hpL h (ad (hpR h o 11)) (x1).toNatClampNeg → ((if (lg_cmp ((((v3).toUInt64 >>> ((x2).toInt64.toUInt64 &&& Int64.toUInt64 63)).toInt64) &&& (1 : Int64)) (1 : Int64)) = 0 then (Q (1 : Int32) h) else (Q (0 : Int32) h)))))
set_option maxHeartbeats 4000000 in
set_option maxRecDepth 100000 in
theorem c_X11_isOfScene (l : Launch) (G : GG) (base : Nat) (o : Nat) (x1 : Int32) (x2 : Int32) (h : Hp) (Q : Int32 → Hp → Prop) (hw : wp_X11_isOfScene o x1 x2 h Q) : Met l yX11_isOfScene (ww yX11_isOfScene cX11_isOfScene 3 (some .boolean)) rm_X11_isOfScene (va_Pc [.ref o, .int x1, .int x2] (PU G base h)) (va_Qi Q (PU G base) (fun q => base ≤ q)) 0 0 (fun q => base ≤ q) := by
  refine met_of (own := RX11) (nm := "isOfScene") (by decide) rfl rfl (List.forall_mem_cons.mpr ⟨rfl, (List.forall_mem_cons.mpr ⟨rfl, (List.forall_mem_cons.mpr ⟨rfl, (fun _ h => absurd h List.not_mem_nil)⟩)⟩)⟩) (Nat.le_of_ble_eq_true rfl) rfl ?_
  intro p e s m below meth c ls hM hC hl
  obtain ⟨hx, hb, hr, hml, hown, hts, hg, hs, hlk, hnm⟩ := id hM
  obtain ⟨args, hargs⟩ : ∃ a : Array Value, a = ([.ref o, .int x1, .int x2] : List Value).toArray := ⟨_, rfl⟩
  rw [← hargs] at hM hts ⊢
  obtain ⟨H, hH⟩ : ∃ H : Heap, H = s.heap := ⟨_, rfl⟩
  obtain ⟨locs, hlocs⟩ : ∃ x : List Loc, x = [] := ⟨_, rfl⟩
  have hC : Cx G base h s.heap H locs := by rw [hH, hlocs]; exact hC
  show W p l e rm_X11_isOfScene s m args below meth c s.heap [] 0 0 (MQ below (va_Qi Q (PU G base) (fun q => base ≤ q)) args s 0 0 (fun q => base ≤ q)) (F0 m 0 ls [])
  rw [← hlocs]
  have hgoal : W p l e rm_X11_isOfScene s m args below meth c H locs 0 0 (MQ below (va_Qi Q (PU G base) (fun q => base ≤ q)) args s 0 0 (fun q => base ≤ q)) (F0 m 0 ls []) := ?_
  · rw [hH] at hgoal; exact hgoal
  clear hH hlocs
  unfold wp_X11_isOfScene at hw
  refine lv_aload_n hx hb dX11_isOfScene_0 rfl (lo_at hl 0 rfl) ?_
  obtain ⟨k1, hw⟩ := hw
  refine r_getR hx hb hts hown hg hC fb_9_11 k1 mk_f_RX11_39 dX11_isOfScene_1 ?_
  refine lv_iload_n hx hb dX11_isOfScene_4 rfl (lo_at hl 1 rfl) ?_
  obtain ⟨k2, hw⟩ := hw
  refine rf_2 k2.1 ?_
  refine r_lald hx hb hg hC k2.2.1 k2.2.2 dX11_isOfScene_5 ?_
  refine lv_topl (fun v3 ev3 => ?_)
  replace hw := hw v3 ev3
  refine lv_iload_n hx hb dX11_isOfScene_6 rfl (lo_at hl 2 rfl) ?_
  refine lv_lushr hx hb dX11_isOfScene_7 (v := ((v3).toUInt64 >>> ((x2).toInt64.toUInt64 &&& Int64.toUInt64 63)).toInt64) rfl ?_
  refine lv_lconst (v := 1) hx hb dX11_isOfScene_8 (by decide) ?_
  refine lv_land hx hb dX11_isOfScene_9 ?_
  refine lv_lconst (v := 1) hx hb dX11_isOfScene_10 (by decide) ?_
  refine W.lcmp hx hb dX11_isOfScene_11 ?_
  refine lv_if_ne (tgt := 19) hx hb dX11_isOfScene_12 (by decide) (fun c4 => ?_) (fun c4 => ?_)
  ·
    replace hw := (if_neg c4).mp hw
    refine lv_iconst (v := 0) hx hb dX11_isOfScene_19 (by decide) ?_
    exact ret_z hM hC rfl hw dX11_isOfScene_20
  ·
    replace hw := (if_pos c4).mp hw
    refine lv_iconst (v := 1) hx hb dX11_isOfScene_15 (by decide) ?_
    refine lv_goto (tgt := 20) hx hb dX11_isOfScene_16 (by decide) ?_
    exact ret_z hM hC rfl hw dX11_isOfScene_20
abbrev rm_X11_groupCount : Room := { frames := 0, cells := 0, slots := 0, locals := 0 }
def wp_X11_groupCount_L4 (o : Nat) (K43 : Int32 → Hp → Prop) (Q : Int32 → Hp → Prop) : Nat → Int32 → Int32 → Hp → Prop
  | 0, _, _, _ => False
  | n + 1, x1, x2, h => (if (8 : Int32) ≤ x2 then (K43 x1 h) else (((hpK h o).1 = 20 + 9) ∧ (okA h (hpR h o 11) 2 x2 ∧ (∀ v4 : Int64, v4 = hpL h (ad (hpR h o 11)) (x2).toNatClampNeg → ((if (lg_cmp v4 (0 : Int64)) = 0 then (∀ v6 : Int32, v6 = x2 + (1 : Int32) → (wp_X11_groupCount_L4 o K43 Q n x1 v6 h)) else (okO h (hpR h o 15) 8 ∧ (okA h (hpR h (ad (hpR h o 15)) 5) 1 x2 ∧ (∀ v9 : Int32, v9 = hpI h (ad (hpR h (ad (hpR h o 15)) 5)) (x2).toNatClampNeg → ((if v9 = x2 then (∀ v12 : Int32, v12 = x1 + (1 : Int32) → (∀ v13 : Int32, v13 = x2 + (1 : Int32) → (wp_X11_groupCount_L4 o K43 Q n v12 v13 h))) else (∀ v11 : Int32, v11 = x2 + (1 : Int32) → (wp_X11_groupCount_L4 o K43 Q n x1 v11 h)))))))))))))
def wp_X11_groupCount (o : Nat) (h : Hp) (Q : Int32 → Hp → Prop) : Prop := wp_X11_groupCount_L4 o (fun (y15 : Int32) (h14 : Hp) => Q y15 h14) Q fuel (0 : Int32) (0 : Int32) h
set_option maxHeartbeats 4000000 in
set_option maxRecDepth 100000 in
theorem t_X11_groupCount_L4 {p : Program} {l : Launch} {e : Env} {s : State} {m : MethodId} {args : Array Value} {below : List Frame} {meth : Method} {c : Code} {G : GG} {base : Nat} (hM : Mx G base p s m args meth c cX11_groupCount 3 (some .int) RX11 "groupCount") (o : Nat) (K43 : Int32 → Hp → Prop) (Q : Int32 → Hp → Prop) (hK43 : ∀ (y1 : Int32) (h : Hp) (H : Heap) (locs : List Loc) (ls : Array Slot), Cx G base h s.heap H locs → lo_has ls 3 [(1, .int y1)] → K43 y1 h → W p l e rm_X11_groupCount s m args below meth c H locs 0 0 (MQ below (va_Qi Q (PU G base) (fun q => base ≤ q)) args s 0 0 (fun q => base ≤ q)) (F0 m 43 ls [])) : ∀ (n : Nat) (x1 : Int32) (x2 : Int32) (h : Hp) (H : Heap) (locs : List Loc) (ls : Array Slot), Cx G base h s.heap H locs → lo_has ls 3 [(0, .ref o), (1, .int x1), (2, .int x2)] → wp_X11_groupCount_L4 o K43 Q n x1 x2 h → W p l e rm_X11_groupCount s m args below meth c H locs 0 0 (MQ below (va_Qi Q (PU G base) (fun q => base ≤ q)) args s 0 0 (fun q => base ≤ q)) (F0 m 4 ls []) := by
  intro n
  induction n with
  | zero =>
    intro x1 x2 h H locs ls hC hl hw
    rw [wp_X11_groupCount_L4] at hw
    exact hw.elim
  | succ n ih =>
    intro x1 x2 h H locs ls hC hl hw
    rw [wp_X11_groupCount_L4] at hw
    obtain ⟨hx, hb, hr, hml, hown, hts, hg, hs, hlk, hnm⟩ := id hM
    refine lv_iload_n hx hb dX11_groupCount_4 rfl (lo_at hl 2 rfl) ?_
    refine lv_bipush (v := 8) hx hb dX11_groupCount_5 (by decide) ?_
    refine lv_icmp_ge (tgt := 43) hx hb dX11_groupCount_7 (by decide) (fun c1 => ?_) (fun c1 => ?_)
    ·
      replace hw := (if_pos c1).mp hw
      exact hK43 x1 h H locs ls hC (lo_sub hl [1] rfl) hw
    ·
      replace hw := (if_neg c1).mp hw
      refine lv_aload_n hx hb dX11_groupCount_10 rfl (lo_at hl 0 rfl) ?_
      obtain ⟨k2, hw⟩ := hw
      refine r_getR hx hb hts hown hg hC fb_9_11 k2 mk_f_RX11_39 dX11_groupCount_11 ?_
      refine lv_iload_n hx hb dX11_groupCount_14 rfl (lo_at hl 2 rfl) ?_
      obtain ⟨k3, hw⟩ := hw
      refine rf_2 k3.1 ?_
      refine r_lald hx hb hg hC k3.2.1 k3.2.2 dX11_groupCount_15 ?_
      refine lv_topl (fun v4 ev4 => ?_)
      replace hw := hw v4 ev4
      refine lv_lconst (v := 0) hx hb dX11_groupCount_16 (by decide) ?_
      refine W.lcmp hx hb dX11_groupCount_17 ?_
      refine lv_if_eq (tgt := 37) hx hb dX11_groupCount_18 (by decide) (fun c5 => ?_) (fun c5 => ?_)
      ·
        replace hw := (if_pos c5).mp hw
        obtain ⟨v6, ev6⟩ : ∃ y : Int32, y = x2 + (1 : Int32) := ⟨_, rfl⟩
        replace hw := hw v6 ev6
        refine lo_iinc (v := v6) (lv' := [(2, .int v6), (0, .ref o), (1, .int x1)]) hx hb dX11_groupCount_37 hl (k := 2) rfl (by rw [ev6]; rfl) (by decide) rfl (fun ls hl => ?_)
        refine lv_goto (tgt := 4) hx hb dX11_groupCount_40 (by decide) ?_
        exact ih x1 v6 h H locs ls hC (lo_sub hl [1, 2, 0] rfl) hw
      ·
        replace hw := (if_neg c5).mp hw
        refine lv_aload_n hx hb dX11_groupCount_21 rfl (lo_at hl 0 rfl) ?_
        refine r_getR hx hb hts hown hg hC fb_9_15 k2 mk_f_RX11_69 dX11_groupCount_22 ?_
        obtain ⟨k7, hw⟩ := hw
        refine rf_1 k7.1 ?_
        refine r_getR hx hb hts hown hg hC fb_8_5 k7.2 mk_f_RX11_299 dX11_groupCount_25 ?_
        refine lv_iload_n hx hb dX11_groupCount_28 rfl (lo_at hl 2 rfl) ?_
        obtain ⟨k8, hw⟩ := hw
        refine rf_2 k8.1 ?_
        refine r_iald hx hb hg hC k8.2.1 k8.2.2 dX11_groupCount_29 ?_
        refine lv_topi (fun v9 ev9 => ?_)
        replace hw := hw v9 ev9
        refine lv_iload_n hx hb dX11_groupCount_30 rfl (lo_at hl 2 rfl) ?_
        refine lv_icmp_ne (tgt := 37) hx hb dX11_groupCount_31 (by decide) (fun c10 => ?_) (fun c10 => ?_)
        ·
          replace hw := (if_neg c10).mp hw
          obtain ⟨v11, ev11⟩ : ∃ y : Int32, y = x2 + (1 : Int32) := ⟨_, rfl⟩
          replace hw := hw v11 ev11
          refine lo_iinc (v := v11) (lv' := [(2, .int v11), (0, .ref o), (1, .int x1)]) hx hb dX11_groupCount_37 hl (k := 2) rfl (by rw [ev11]; rfl) (by decide) rfl (fun ls hl => ?_)
          refine lv_goto (tgt := 4) hx hb dX11_groupCount_40 (by decide) ?_
          exact ih x1 v11 h H locs ls hC (lo_sub hl [1, 2, 0] rfl) hw
        ·
          replace hw := (if_pos c10).mp hw
          obtain ⟨v12, ev12⟩ : ∃ y : Int32, y = x1 + (1 : Int32) := ⟨_, rfl⟩
          replace hw := hw v12 ev12
          refine lo_iinc (v := v12) (lv' := [(1, .int v12), (0, .ref o), (2, .int x2)]) hx hb dX11_groupCount_34 hl (k := 1) rfl (by rw [ev12]; rfl) (by decide) rfl (fun ls hl => ?_)
          obtain ⟨v13, ev13⟩ : ∃ y : Int32, y = x2 + (1 : Int32) := ⟨_, rfl⟩
          replace hw := hw v13 ev13
          refine lo_iinc (v := v13) (lv' := [(2, .int v13), (1, .int v12), (0, .ref o)]) hx hb dX11_groupCount_37 hl (k := 2) rfl (by rw [ev13]; rfl) (by decide) rfl (fun ls hl => ?_)
          refine lv_goto (tgt := 4) hx hb dX11_groupCount_40 (by decide) ?_
          exact ih v12 v13 h H locs ls hC (lo_sub hl [2, 1, 0] rfl) hw
set_option maxHeartbeats 4000000 in
set_option maxRecDepth 100000 in
theorem c_X11_groupCount (l : Launch) (G : GG) (base : Nat) (o : Nat) (h : Hp) (Q : Int32 → Hp → Prop) (hw : wp_X11_groupCount o h Q) : Met l yX11_groupCount (ww yX11_groupCount cX11_groupCount 3 (some .int)) rm_X11_groupCount (va_Pc [.ref o] (PU G base h)) (va_Qi Q (PU G base) (fun q => base ≤ q)) 0 0 (fun q => base ≤ q) := by
  refine met_of (own := RX11) (nm := "groupCount") (by decide) rfl rfl (List.forall_mem_cons.mpr ⟨rfl, (fun _ h => absurd h List.not_mem_nil)⟩) (Nat.le_of_ble_eq_true rfl) rfl ?_
  intro p e s m below meth c ls hM hC hl
  obtain ⟨hx, hb, hr, hml, hown, hts, hg, hs, hlk, hnm⟩ := id hM
  obtain ⟨args, hargs⟩ : ∃ a : Array Value, a = ([.ref o] : List Value).toArray := ⟨_, rfl⟩
  rw [← hargs] at hM hts ⊢
  obtain ⟨H, hH⟩ : ∃ H : Heap, H = s.heap := ⟨_, rfl⟩
  obtain ⟨locs, hlocs⟩ : ∃ x : List Loc, x = [] := ⟨_, rfl⟩
  have hC : Cx G base h s.heap H locs := by rw [hH, hlocs]; exact hC
  show W p l e rm_X11_groupCount s m args below meth c s.heap [] 0 0 (MQ below (va_Qi Q (PU G base) (fun q => base ≤ q)) args s 0 0 (fun q => base ≤ q)) (F0 m 0 ls [])
  rw [← hlocs]
  have hgoal : W p l e rm_X11_groupCount s m args below meth c H locs 0 0 (MQ below (va_Qi Q (PU G base) (fun q => base ≤ q)) args s 0 0 (fun q => base ≤ q)) (F0 m 0 ls []) := ?_
  · rw [hH] at hgoal; exact hgoal
  clear hH hlocs
  unfold wp_X11_groupCount at hw
  refine lv_iconst (v := 0) hx hb dX11_groupCount_0 (by decide) ?_
  refine lo_istore_n (lv' := [(1, .int ((0 : Int32))), (0, .ref o)]) hx hb dX11_groupCount_1 rfl hl (by decide) rfl (fun ls hl => ?_)
  refine lv_iconst (v := 0) hx hb dX11_groupCount_2 (by decide) ?_
  refine lo_istore_n (lv' := [(2, .int ((0 : Int32))), (1, .int ((0 : Int32))), (0, .ref o)]) hx hb dX11_groupCount_3 rfl hl (by decide) rfl (fun ls hl => ?_)
  refine t_X11_groupCount_L4 hM o _ Q ?_ fuel (0 : Int32) (0 : Int32) h H locs ls hC (lo_sub hl [2, 1, 0] rfl) hw
  intro y15 h14 H locs ls hC hl hw
  refine lv_iload_n hx hb dX11_groupCount_43 rfl (lo_at hl 0 rfl) ?_
  exact ret_i hM hC hw dX11_groupCount_44
abbrev rm_X12_init : Room := { frames := 1, cells := 38, slots := 42891, locals := 20 }
def wp_X12_init_J977 (o : Nat) (Q : Hp → Prop) (h : Hp) : Prop := ∀ (q400 : Nat) (h401 : Hp), (hpK h q400).1 = 0 → h401 = alc h q400 1 10 → (((hpK h401 o).1 = 20 + 10) ∧ (∀ h404 : Hp, h404 = stR h401 o 55 (some q400) → (∀ (q405 : Nat) (h406 : Hp), (hpK h404 q405).1 = 0 → h406 = alc h404 q405 1 10 → (((hpK h406 o).1 = 20 + 10) ∧ (∀ h409 : Hp, h409 = stR h406 o 56 (some q405) → (∀ (q410 : Nat) (h411 : Hp), (hpK h409 q410).1 = 0 → h411 = alc h409 q410 1 6 → (((hpK h411 o).1 = 20 + 10) ∧ (∀ h414 : Hp, h414 = stR h411 o 57 (some q410) → (∀ (q415 : Nat) (h416 : Hp), (hpK h414 q415).1 = 0 → h416 = alc h414 q415 2 8 → (((hpK h416 o).1 = 20 + 10) ∧ (∀ h419 : Hp, h419 = stR h416 o 58 (some q415) → (∀ (q420 : Nat) (h421 : Hp), (hpK h419 q420).1 = 0 → h421 = alc h419 q420 1 8 → (((hpK h421 o).1 = 20 + 10) ∧ (∀ h424 : Hp, h424 = stR h421 o 59 (some q420) → (Q h424)))))))))))))))
def wp_X12_init_J748 (o : Nat) (s0 : Int32) (s1 : Int32) (s2 : Nat) (s3 : Nat) (s4 : Nat) (Q : Hp → Prop) (h : Hp) : Prop := okA h (some s2) 1 s1 ∧ (∀ h283 : Hp, h283 = stI h s2 (s1).toNatClampNeg s0 → (okA h283 (some s3) 1 (105 : Int32) ∧ (∀ h285 : Hp, h285 = stI h283 s3 ((105 : Int32)).toNatClampNeg (108 : Int32) → (okA h285 (some s3) 1 (106 : Int32) ∧ (∀ h287 : Hp, h287 = stI h285 s3 ((106 : Int32)).toNatClampNeg (97 : Int32) → (okA h287 (some s3) 1 (107 : Int32) ∧ (∀ h289 : Hp, h289 = stI h287 s3 ((107 : Int32)).toNatClampNeg (99 : Int32) → (okA h289 (some s3) 1 (108 : Int32) ∧ (∀ h291 : Hp, h291 = stI h289 s3 ((108 : Int32)).toNatClampNeg (107 : Int32) → (okA h291 (some s3) 1 (109 : Int32) ∧ (∀ h293 : Hp, h293 = stI h291 s3 ((109 : Int32)).toNatClampNeg (32 : Int32) → (okA h293 (some s3) 1 (110 : Int32) ∧ (∀ h295 : Hp, h295 = stI h293 s3 ((110 : Int32)).toNatClampNeg (116 : Int32) → (okA h295 (some s3) 1 (111 : Int32) ∧ (∀ h297 : Hp, h297 = stI h295 s3 ((111 : Int32)).toNatClampNeg (111 : Int32) → (okA h297 (some s3) 1 (112 : Int32) ∧ (∀ h299 : Hp, h299 = stI h297 s3 ((112 : Int32)).toNatClampNeg (108 : Int32) → (okA h299 (some s3) 1 (113 : Int32) ∧ (∀ h301 : Hp, h301 = stI h299 s3 ((113 : Int32)).toNatClampNeg (100 : Int32) → (okA h301 (some s3) 1 (114 : Int32) ∧ (∀ h303 : Hp, h303 = stI h301 s3 ((114 : Int32)).toNatClampNeg (32 : Int32) → (((hpK h303 s4).1 = 20 + 10) ∧ (∀ h305 : Hp, h305 = stR h303 s4 24 (some s3) → (∀ (q306 : Nat) (h307 : Hp), (hpK h305 q306).1 = 0 → h307 = alc h305 q306 1 8 → (((hpK h307 o).1 = 20 + 10) ∧ (∀ h310 : Hp, h310 = stR h307 o 25 (some q306) → (∀ (q311 : Nat) (h312 : Hp), (hpK h310 q311).1 = 0 → h312 = alc h310 q311 1 128 → (((hpK h312 o).1 = 20 + 10) ∧ (∀ h315 : Hp, h315 = stR h312 o 26 (some q311) → (∀ (q316 : Nat) (h317 : Hp), (hpK h315 q316).1 = 0 → h317 = alc h315 q316 1 128 → (((hpK h317 o).1 = 20 + 10) ∧ (∀ h320 : Hp, h320 = stR h317 o 27 (some q316) → (∀ (q321 : Nat) (h322 : Hp), (hpK h320 q321).1 = 0 → h322 = alc h320 q321 1 128 → (((hpK h322 o).1 = 20 + 10) ∧ (∀ h325 : Hp, h325 = stR h322 o 28 (some q321) → (∀ (q326 : Nat) (h327 : Hp), (hpK h325 q326).1 = 0 → h327 = alc h325 q326 1 128 → (((hpK h327 o).1 = 20 + 10) ∧ (∀ h330 : Hp, h330 = stR h327 o 29 (some q326) → (∀ (q331 : Nat) (h332 : Hp), (hpK h330 q331).1 = 0 → h332 = alc h330 q331 1 4800 → (((hpK h332 o).1 = 20 + 10) ∧ (∀ h335 : Hp, h335 = stR h332 o 30 (some q331) → (∀ (q336 : Nat) (h337 : Hp), (hpK h335 q336).1 = 0 → h337 = alc h335 q336 1 4800 → (((hpK h337 o).1 = 20 + 10) ∧ (∀ h340 : Hp, h340 = stR h337 o 31 (some q336) → (∀ (q341 : Nat) (h342 : Hp), (hpK h340 q341).1 = 0 → h342 = alc h340 q341 1 40 → (((hpK h342 o).1 = 20 + 10) ∧ (∀ h345 : Hp, h345 = stR h342 o 35 (some q341) → (((hpK h345 o).1 = 20 + 10) ∧ (∀ h347 : Hp, h347 = stI h345 o 40 (-1 : Int32) → (∀ (q348 : Nat) (h349 : Hp), (hpK h347 q348).1 = 0 → h349 = alc h347 q348 1 14 → (((hpK h349 o).1 = 20 + 10) ∧ (∀ h352 : Hp, h352 = stR h349 o 41 (some q348) → (∀ (q353 : Nat) (h354 : Hp), (hpK h352 q353).1 = 0 → h354 = alc h352 q353 1 620 → (((hpK h354 o).1 = 20 + 10) ∧ (∀ h357 : Hp, h357 = stR h354 o 42 (some q353) → (∀ (q358 : Nat) (h359 : Hp), (hpK h357 q358).1 = 0 → h359 = alc h357 q358 1 32 → (((hpK h359 o).1 = 20 + 10) ∧ (∀ h362 : Hp, h362 = stR h359 o 44 (some q358) → (∀ (q363 : Nat) (h364 : Hp), (hpK h362 q363).1 = 0 → h364 = alc h362 q363 1 6 → (((hpK h364 o).1 = 20 + 10) ∧ (∀ h367 : Hp, h367 = stR h364 o 46 (some q363) → (∀ (q368 : Nat) (h369 : Hp), (hpK h367 q368).1 = 0 → h369 = alc h367 q368 1 128 → (((hpK h369 o).1 = 20 + 10) ∧ (∀ h372 : Hp, h372 = stR h369 o 47 (some q368) → (∀ (q373 : Nat) (h374 : Hp), (hpK h372 q373).1 = 0 → h374 = alc h372 q373 1 128 → (((hpK h374 o).1 = 20 + 10) ∧ (∀ h377 : Hp, h377 = stR h374 o 48 (some q373) → (((hpK h377 o).1 = 20 + 10) ∧ (∀ h379 : Hp, h379 = stI h377 o 49 (-1 : Int32) → (∀ (q380 : Nat) (h381 : Hp), (hpK h379 q380).1 = 0 → h381 = alc h379 q380 1 19200 → (((hpK h381 o).1 = 20 + 10) ∧ (∀ h384 : Hp, h384 = stR h381 o 50 (some q380) → (∀ (q385 : Nat) (h386 : Hp), (hpK h384 q385).1 = 0 → h386 = alc h384 q385 1 9600 → (((hpK h386 o).1 = 20 + 10) ∧ (∀ h389 : Hp, h389 = stR h386 o 51 (some q385) → (∀ (q390 : Nat) (h391 : Hp), (hpK h389 q390).1 = 0 → h391 = alc h389 q390 1 40 → (((hpK h391 o).1 = 20 + 10) ∧ (∀ h394 : Hp, h394 = stR h391 o 52 (some q390) → (∀ (q395 : Nat) (h396 : Hp), (hpK h394 q395).1 = 0 → h396 = alc h394 q395 1 10 → (((hpK h396 o).1 = 20 + 10) ∧ (∀ h399 : Hp, h399 = stR h396 o 54 (some q395) → (wp_X12_init_J977 o Q h399))))))))))))))))))))))))))))))))))))))))))))))))))))))))))))))))))))))))))))))))))
def wp_X12_init_J568 (o : Nat) (s0 : Int32) (s1 : Int32) (s2 : Nat) (s3 : Nat) (s4 : Nat) (Q : Hp → Prop) (h : Hp) : Prop := okA h (some s2) 1 s1 ∧ (∀ h223 : Hp, h223 = stI h s2 (s1).toNatClampNeg s0 → (okA h223 (some s3) 1 (75 : Int32) ∧ (∀ h225 : Hp, h225 = stI h223 s3 ((75 : Int32)).toNatClampNeg (111 : Int32) → (okA h225 (some s3) 1 (76 : Int32) ∧ (∀ h227 : Hp, h227 = stI h225 s3 ((76 : Int32)).toNatClampNeg (102 : Int32) → (okA h227 (some s3) 1 (77 : Int32) ∧ (∀ h229 : Hp, h229 = stI h227 s3 ((77 : Int32)).toNatClampNeg (116 : Int32) → (okA h229 (some s3) 1 (78 : Int32) ∧ (∀ h231 : Hp, h231 = stI h229 s3 ((78 : Int32)).toNatClampNeg (32 : Int32) → (okA h231 (some s3) 1 (79 : Int32) ∧ (∀ h233 : Hp, h233 = stI h231 s3 ((79 : Int32)).toNatClampNeg (98 : Int32) → (okA h233 (some s3) 1 (80 : Int32) ∧ (∀ h235 : Hp, h235 = stI h233 s3 ((80 : Int32)).toNatClampNeg (101 : Int32) → (okA h235 (some s3) 1 (81 : Int32) ∧ (∀ h237 : Hp, h237 = stI h235 s3 ((81 : Int32)).toNatClampNeg (115 : Int32) → (okA h237 (some s3) 1 (82 : Int32) ∧ (∀ h239 : Hp, h239 = stI h237 s3 ((82 : Int32)).toNatClampNeg (116 : Int32) → (okA h239 (some s3) 1 (83 : Int32) ∧ (∀ h241 : Hp, h241 = stI h239 s3 ((83 : Int32)).toNatClampNeg (32 : Int32) → (okA h241 (some s3) 1 (84 : Int32) ∧ (∀ h243 : Hp, h243 = stI h241 s3 ((84 : Int32)).toNatClampNeg (108 : Int32) → (okA h243 (some s3) 1 (85 : Int32) ∧ (∀ h245 : Hp, h245 = stI h243 s3 ((85 : Int32)).toNatClampNeg (111 : Int32) → (okA h245 (some s3) 1 (86 : Int32) ∧ (∀ h247 : Hp, h247 = stI h245 s3 ((86 : Int32)).toNatClampNeg (110 : Int32) → (okA h247 (some s3) 1 (87 : Int32) ∧ (∀ h249 : Hp, h249 = stI h247 s3 ((87 : Int32)).toNatClampNeg (103 : Int32) → (okA h249 (some s3) 1 (88 : Int32) ∧ (∀ h251 : Hp, h251 = stI h249 s3 ((88 : Int32)).toNatClampNeg (101 : Int32) → (okA h251 (some s3) 1 (89 : Int32) ∧ (∀ h253 : Hp, h253 = stI h251 s3 ((89 : Int32)).toNatClampNeg (115 : Int32) → (okA h253 (some s3) 1 (90 : Int32) ∧ (∀ h255 : Hp, h255 = stI h253 s3 ((90 : Int32)).toNatClampNeg (116 : Int32) → (okA h255 (some s3) 1 (91 : Int32) ∧ (∀ h257 : Hp, h257 = stI h255 s3 ((91 : Int32)).toNatClampNeg (32 : Int32) → (okA h257 (some s3) 1 (92 : Int32) ∧ (∀ h259 : Hp, h259 = stI h257 s3 ((92 : Int32)).toNatClampNeg (115 : Int32) → (okA h259 (some s3) 1 (93 : Int32) ∧ (∀ h261 : Hp, h261 = stI h259 s3 ((93 : Int32)).toNatClampNeg (108 : Int32) → (okA h261 (some s3) 1 (94 : Int32) ∧ (∀ h263 : Hp, h263 = stI h261 s3 ((94 : Int32)).toNatClampNeg (105 : Int32) → (okA h263 (some s3) 1 (95 : Int32) ∧ (∀ h265 : Hp, h265 = stI h263 s3 ((95 : Int32)).toNatClampNeg (100 : Int32) → (okA h265 (some s3) 1 (96 : Int32) ∧ (∀ h267 : Hp, h267 = stI h265 s3 ((96 : Int32)).toNatClampNeg (101 : Int32) → (okA h267 (some s3) 1 (97 : Int32) ∧ (∀ h269 : Hp, h269 = stI h267 s3 ((97 : Int32)).toNatClampNeg (32 : Int32) → (okA h269 (some s3) 1 (98 : Int32) ∧ (∀ h271 : Hp, h271 = stI h269 s3 ((98 : Int32)).toNatClampNeg (112 : Int32) → (okA h271 (some s3) 1 (99 : Int32) ∧ (∀ h273 : Hp, h273 = stI h271 s3 ((99 : Int32)).toNatClampNeg (105 : Int32) → (okA h273 (some s3) 1 (100 : Int32) ∧ (∀ h275 : Hp, h275 = stI h273 s3 ((100 : Int32)).toNatClampNeg (101 : Int32) → (okA h275 (some s3) 1 (101 : Int32) ∧ (∀ h277 : Hp, h277 = stI h275 s3 ((101 : Int32)).toNatClampNeg (99 : Int32) → (okA h277 (some s3) 1 (102 : Int32) ∧ (∀ h279 : Hp, h279 = stI h277 s3 ((102 : Int32)).toNatClampNeg (101 : Int32) → (okA h279 (some s3) 1 (103 : Int32) ∧ (∀ h281 : Hp, h281 = stI h279 s3 ((103 : Int32)).toNatClampNeg (115 : Int32) → (wp_X12_init_J748 o (32 : Int32) (104 : Int32) s3 s3 s4 Q h281))))))))))))))))))))))))))))))))))))))))))))))))))))))))))))
def wp_X12_init_J388 (o : Nat) (s0 : Int32) (s1 : Int32) (s2 : Nat) (s3 : Nat) (s4 : Nat) (Q : Hp → Prop) (h : Hp) : Prop := okA h (some s2) 1 s1 ∧ (∀ h163 : Hp, h163 = stI h s2 (s1).toNatClampNeg s0 → (okA h163 (some s3) 1 (45 : Int32) ∧ (∀ h165 : Hp, h165 = stI h163 s3 ((45 : Int32)).toNatClampNeg (104 : Int32) → (okA h165 (some s3) 1 (46 : Int32) ∧ (∀ h167 : Hp, h167 = stI h165 s3 ((46 : Int32)).toNatClampNeg (32 : Int32) → (okA h167 (some s3) 1 (47 : Int32) ∧ (∀ h169 : Hp, h169 = stI h167 s3 ((47 : Int32)).toNatClampNeg (108 : Int32) → (okA h169 (some s3) 1 (48 : Int32) ∧ (∀ h171 : Hp, h171 = stI h169 s3 ((48 : Int32)).toNatClampNeg (101 : Int32) → (okA h171 (some s3) 1 (49 : Int32) ∧ (∀ h173 : Hp, h173 = stI h171 s3 ((49 : Int32)).toNatClampNeg (102 : Int32) → (okA h173 (some s3) 1 (50 : Int32) ∧ (∀ h175 : Hp, h175 = stI h173 s3 ((50 : Int32)).toNatClampNeg (116 : Int32) → (okA h175 (some s3) 1 (51 : Int32) ∧ (∀ h177 : Hp, h177 = stI h175 s3 ((51 : Int32)).toNatClampNeg (32 : Int32) → (okA h177 (some s3) 1 (52 : Int32) ∧ (∀ h179 : Hp, h179 = stI h177 s3 ((52 : Int32)).toNatClampNeg (114 : Int32) → (okA h179 (some s3) 1 (53 : Int32) ∧ (∀ h181 : Hp, h181 = stI h179 s3 ((53 : Int32)).toNatClampNeg (105 : Int32) → (okA h181 (some s3) 1 (54 : Int32) ∧ (∀ h183 : Hp, h183 = stI h181 s3 ((54 : Int32)).toNatClampNeg (103 : Int32) → (okA h183 (some s3) 1 (55 : Int32) ∧ (∀ h185 : Hp, h185 = stI h183 s3 ((55 : Int32)).toNatClampNeg (104 : Int32) → (okA h185 (some s3) 1 (56 : Int32) ∧ (∀ h187 : Hp, h187 = stI h185 s3 ((56 : Int32)).toNatClampNeg (116 : Int32) → (okA h187 (some s3) 1 (57 : Int32) ∧ (∀ h189 : Hp, h189 = stI h187 s3 ((57 : Int32)).toNatClampNeg (32 : Int32) → (okA h189 (some s3) 1 (58 : Int32) ∧ (∀ h191 : Hp, h191 = stI h189 s3 ((58 : Int32)).toNatClampNeg (100 : Int32) → (okA h191 (some s3) 1 (59 : Int32) ∧ (∀ h193 : Hp, h193 = stI h191 s3 ((59 : Int32)).toNatClampNeg (114 : Int32) → (okA h193 (some s3) 1 (60 : Int32) ∧ (∀ h195 : Hp, h195 = stI h193 s3 ((60 : Int32)).toNatClampNeg (97 : Int32) → (okA h195 (some s3) 1 (61 : Int32) ∧ (∀ h197 : Hp, h197 = stI h195 s3 ((61 : Int32)).toNatClampNeg (119 : Int32) → (okA h197 (some s3) 1 (62 : Int32) ∧ (∀ h199 : Hp, h199 = stI h197 s3 ((62 : Int32)).toNatClampNeg (32 : Int32) → (okA h199 (some s3) 1 (63 : Int32) ∧ (∀ h201 : Hp, h201 = stI h199 s3 ((63 : Int32)).toNatClampNeg (115 : Int32) → (okA h201 (some s3) 1 (64 : Int32) ∧ (∀ h203 : Hp, h203 = stI h201 s3 ((64 : Int32)).toNatClampNeg (104 : Int32) → (okA h203 (some s3) 1 (65 : Int32) ∧ (∀ h205 : Hp, h205 = stI h203 s3 ((65 : Int32)).toNatClampNeg (111 : Int32) → (okA h205 (some s3) 1 (66 : Int32) ∧ (∀ h207 : Hp, h207 = stI h205 s3 ((66 : Int32)).toNatClampNeg (116 : Int32) → (okA h207 (some s3) 1 (67 : Int32) ∧ (∀ h209 : Hp, h209 = stI h207 s3 ((67 : Int32)).toNatClampNeg (115 : Int32) → (okA h209 (some s3) 1 (68 : Int32) ∧ (∀ h211 : Hp, h211 = stI h209 s3 ((68 : Int32)).toNatClampNeg (32 : Int32) → (okA h211 (some s3) 1 (69 : Int32) ∧ (∀ h213 : Hp, h213 = stI h211 s3 ((69 : Int32)).toNatClampNeg (114 : Int32) → (okA h213 (some s3) 1 (70 : Int32) ∧ (∀ h215 : Hp, h215 = stI h213 s3 ((70 : Int32)).toNatClampNeg (117 : Int32) → (okA h215 (some s3) 1 (71 : Int32) ∧ (∀ h217 : Hp, h217 = stI h215 s3 ((71 : Int32)).toNatClampNeg (115 : Int32) → (okA h217 (some s3) 1 (72 : Int32) ∧ (∀ h219 : Hp, h219 = stI h217 s3 ((72 : Int32)).toNatClampNeg (116 : Int32) → (okA h219 (some s3) 1 (73 : Int32) ∧ (∀ h221 : Hp, h221 = stI h219 s3 ((73 : Int32)).toNatClampNeg (32 : Int32) → (wp_X12_init_J568 o (115 : Int32) (74 : Int32) s3 s3 s4 Q h221))))))))))))))))))))))))))))))))))))))))))))))))))))))))))))
def wp_X12_init_J208 (o : Nat) (s0 : Int32) (s1 : Int32) (s2 : Nat) (s3 : Nat) (s4 : Nat) (Q : Hp → Prop) (h : Hp) : Prop := okA h (some s2) 1 s1 ∧ (∀ h103 : Hp, h103 = stI h s2 (s1).toNatClampNeg s0 → (okA h103 (some s3) 1 (15 : Int32) ∧ (∀ h105 : Hp, h105 = stI h103 s3 ((15 : Int32)).toNatClampNeg (115 : Int32) → (okA h105 (some s3) 1 (16 : Int32) ∧ (∀ h107 : Hp, h107 = stI h105 s3 ((16 : Int32)).toNatClampNeg (97 : Int32) → (okA h107 (some s3) 1 (17 : Int32) ∧ (∀ h109 : Hp, h109 = stI h107 s3 ((17 : Int32)).toNatClampNeg (109 : Int32) → (okA h109 (some s3) 1 (18 : Int32) ∧ (∀ h111 : Hp, h111 = stI h109 s3 ((18 : Int32)).toNatClampNeg (101 : Int32) → (okA h111 (some s3) 1 (19 : Int32) ∧ (∀ h113 : Hp, h113 = stI h111 s3 ((19 : Int32)).toNatClampNeg (32 : Int32) → (okA h113 (some s3) 1 (20 : Int32) ∧ (∀ h115 : Hp, h115 = stI h113 s3 ((20 : Int32)).toNatClampNeg (110 : Int32) → (okA h115 (some s3) 1 (21 : Int32) ∧ (∀ h117 : Hp, h117 = stI h115 s3 ((21 : Int32)).toNatClampNeg (111 : Int32) → (okA h117 (some s3) 1 (22 : Int32) ∧ (∀ h119 : Hp, h119 = stI h117 s3 ((22 : Int32)).toNatClampNeg (116 : Int32) → (okA h119 (some s3) 1 (23 : Int32) ∧ (∀ h121 : Hp, h121 = stI h119 s3 ((23 : Int32)).toNatClampNeg (32 : Int32) → (okA h121 (some s3) 1 (24 : Int32) ∧ (∀ h123 : Hp, h123 = stI h121 s3 ((24 : Int32)).toNatClampNeg (119 : Int32) → (okA h123 (some s3) 1 (25 : Int32) ∧ (∀ h125 : Hp, h125 = stI h123 s3 ((25 : Int32)).toNatClampNeg (104 : Int32) → (okA h125 (some s3) 1 (26 : Int32) ∧ (∀ h127 : Hp, h127 = stI h125 s3 ((26 : Int32)).toNatClampNeg (101 : Int32) → (okA h127 (some s3) 1 (27 : Int32) ∧ (∀ h129 : Hp, h129 = stI h127 s3 ((27 : Int32)).toNatClampNeg (110 : Int32) → (okA h129 (some s3) 1 (28 : Int32) ∧ (∀ h131 : Hp, h131 = stI h129 s3 ((28 : Int32)).toNatClampNeg (32 : Int32) → (okA h131 (some s3) 1 (29 : Int32) ∧ (∀ h133 : Hp, h133 = stI h131 s3 ((29 : Int32)).toNatClampNeg (111 : Int32) → (okA h133 (some s3) 1 (30 : Int32) ∧ (∀ h135 : Hp, h135 = stI h133 s3 ((30 : Int32)).toNatClampNeg (114 : Int32) → (okA h135 (some s3) 1 (31 : Int32) ∧ (∀ h137 : Hp, h137 = stI h135 s3 ((31 : Int32)).toNatClampNeg (32 : Int32) → (okA h137 (some s3) 1 (32 : Int32) ∧ (∀ h139 : Hp, h139 = stI h137 s3 ((32 : Int32)).toNatClampNeg (97 : Int32) → (okA h139 (some s3) 1 (33 : Int32) ∧ (∀ h141 : Hp, h141 = stI h139 s3 ((33 : Int32)).toNatClampNeg (110 : Int32) → (okA h141 (some s3) 1 (34 : Int32) ∧ (∀ h143 : Hp, h143 = stI h141 s3 ((34 : Int32)).toNatClampNeg (100 : Int32) → (okA h143 (some s3) 1 (35 : Int32) ∧ (∀ h145 : Hp, h145 = stI h143 s3 ((35 : Int32)).toNatClampNeg (32 : Int32) → (okA h145 (some s3) 1 (36 : Int32) ∧ (∀ h147 : Hp, h147 = stI h145 s3 ((36 : Int32)).toNatClampNeg (110 : Int32) → (okA h147 (some s3) 1 (37 : Int32) ∧ (∀ h149 : Hp, h149 = stI h147 s3 ((37 : Int32)).toNatClampNeg (111 : Int32) → (okA h149 (some s3) 1 (38 : Int32) ∧ (∀ h151 : Hp, h151 = stI h149 s3 ((38 : Int32)).toNatClampNeg (32 : Int32) → (okA h151 (some s3) 1 (39 : Int32) ∧ (∀ h153 : Hp, h153 = stI h151 s3 ((39 : Int32)).toNatClampNeg (97 : Int32) → (okA h153 (some s3) 1 (40 : Int32) ∧ (∀ h155 : Hp, h155 = stI h153 s3 ((40 : Int32)).toNatClampNeg (116 : Int32) → (okA h155 (some s3) 1 (41 : Int32) ∧ (∀ h157 : Hp, h157 = stI h155 s3 ((41 : Int32)).toNatClampNeg (32 : Int32) → (okA h157 (some s3) 1 (42 : Int32) ∧ (∀ h159 : Hp, h159 = stI h157 s3 ((42 : Int32)).toNatClampNeg (104 : Int32) → (okA h159 (some s3) 1 (43 : Int32) ∧ (∀ h161 : Hp, h161 = stI h159 s3 ((43 : Int32)).toNatClampNeg (105 : Int32) → (wp_X12_init_J388 o (103 : Int32) (44 : Int32) s3 s3 s4 Q h161))))))))))))))))))))))))))))))))))))))))))))))))))))))))))))
def wp_X12_init (o : Nat) (h : Hp) (Q : Hp → Prop) : Prop := ∀ (q1 : Nat) (h2 : Hp), (hpK h q1).1 = 0 → h2 = alc h q1 1 192 → (((hpK h2 o).1 = 20 + 10) ∧ (∀ h5 : Hp, h5 = stR h2 o 2 (some q1) → (∀ (q6 : Nat) (h7 : Hp), (hpK h5 q6).1 = 0 → h7 = alc h5 q6 1 6 → (((hpK h7 o).1 = 20 + 10) ∧ (∀ h10 : Hp, h10 = stR h7 o 3 (some q6) → (∀ (q11 : Nat) (h12 : Hp), (hpK h10 q11).1 = 0 → h12 = alc h10 q11 1 6 → (((hpK h12 o).1 = 20 + 10) ∧ (∀ h15 : Hp, h15 = stR h12 o 4 (some q11) → (∀ (q16 : Nat) (h17 : Hp), (hpK h15 q16).1 = 0 → h17 = alc h15 q16 1 512 → (((hpK h17 o).1 = 20 + 10) ∧ (∀ h20 : Hp, h20 = stR h17 o 6 (some q16) → (∀ (q21 : Nat) (h22 : Hp), (hpK h20 q21).1 = 0 → h22 = alc h20 q21 1 16 → (((hpK h22 o).1 = 20 + 10) ∧ (∀ h25 : Hp, h25 = stR h22 o 7 (some q21) → (∀ (q26 : Nat) (h27 : Hp), (hpK h25 q26).1 = 0 → h27 = alc h25 q26 1 16 → (((hpK h27 o).1 = 20 + 10) ∧ (∀ h30 : Hp, h30 = stR h27 o 8 (some q26) → (∀ (q31 : Nat) (h32 : Hp), (hpK h30 q31).1 = 0 → h32 = alc h30 q31 1 16 → (((hpK h32 o).1 = 20 + 10) ∧ (∀ h35 : Hp, h35 = stR h32 o 9 (some q31) → (∀ (q36 : Nat) (h37 : Hp), (hpK h35 q36).1 = 0 → h37 = alc h35 q36 1 16 → (((hpK h37 o).1 = 20 + 10) ∧ (∀ h40 : Hp, h40 = stR h37 o 10 (some q36) → (∀ (q41 : Nat) (h42 : Hp), (hpK h40 q41).1 = 0 → h42 = alc h40 q41 1 16 → (((hpK h42 o).1 = 20 + 10) ∧ (∀ h45 : Hp, h45 = stR h42 o 11 (some q41) → (∀ (q46 : Nat) (h47 : Hp), (hpK h45 q46).1 = 0 → h47 = alc h45 q46 1 1280 → (((hpK h47 o).1 = 20 + 10) ∧ (∀ h50 : Hp, h50 = stR h47 o 13 (some q46) → (∀ (q51 : Nat) (h52 : Hp), (hpK h50 q51).1 = 0 → h52 = alc h50 q51 1 40 → (((hpK h52 o).1 = 20 + 10) ∧ (∀ h55 : Hp, h55 = stR h52 o 14 (some q51) → (∀ (q56 : Nat) (h57 : Hp), (hpK h55 q56).1 = 0 → h57 = alc h55 q56 1 40 → (((hpK h57 o).1 = 20 + 10) ∧ (∀ h60 : Hp, h60 = stR h57 o 15 (some q56) → (∀ (q61 : Nat) (h62 : Hp), (hpK h60 q61).1 = 0 → h62 = alc h60 q61 1 40 → (((hpK h62 o).1 = 20 + 10) ∧ (∀ h65 : Hp, h65 = stR h62 o 16 (some q61) → (∀ (q66 : Nat) (h67 : Hp), (hpK h65 q66).1 = 0 → h67 = alc h65 q66 1 600 → (((hpK h67 o).1 = 20 + 10) ∧ (∀ h70 : Hp, h70 = stR h67 o 18 (some q66) → (∀ (q71 : Nat) (h72 : Hp), (hpK h70 q71).1 = 0 → h72 = alc h70 q71 1 115 → (okA h72 (some q71) 1 (0 : Int32) ∧ (∀ h75 : Hp, h75 = stI h72 q71 ((0 : Int32)).toNatClampNeg (32 : Int32) → (okA h75 (some q71) 1 (1 : Int32) ∧ (∀ h77 : Hp, h77 = stI h75 q71 ((1 : Int32)).toNatClampNeg (99 : Int32) → (okA h77 (some q71) 1 (2 : Int32) ∧ (∀ h79 : Hp, h79 = stI h77 q71 ((2 : Int32)).toNatClampNeg (117 : Int32) → (okA h79 (some q71) 1 (3 : Int32) ∧ (∀ h81 : Hp, h81 = stI h79 q71 ((3 : Int32)).toNatClampNeg (116 : Int32) → (okA h81 (some q71) 1 (4 : Int32) ∧ (∀ h83 : Hp, h83 = stI h81 q71 ((4 : Int32)).toNatClampNeg (32 : Int32) → (okA h83 (some q71) 1 (5 : Int32) ∧ (∀ h85 : Hp, h85 = stI h83 q71 ((5 : Int32)).toNatClampNeg (119 : Int32) → (okA h85 (some q71) 1 (6 : Int32) ∧ (∀ h87 : Hp, h87 = stI h85 q71 ((6 : Int32)).toNatClampNeg (101 : Int32) → (okA h87 (some q71) 1 (7 : Int32) ∧ (∀ h89 : Hp, h89 = stI h87 q71 ((7 : Int32)).toNatClampNeg (97 : Int32) → (okA h89 (some q71) 1 (8 : Int32) ∧ (∀ h91 : Hp, h91 = stI h89 q71 ((8 : Int32)).toNatClampNeg (114 : Int32) → (okA h91 (some q71) 1 (9 : Int32) ∧ (∀ h93 : Hp, h93 = stI h91 q71 ((9 : Int32)).toNatClampNeg (32 : Int32) → (okA h93 (some q71) 1 (10 : Int32) ∧ (∀ h95 : Hp, h95 = stI h93 q71 ((10 : Int32)).toNatClampNeg (116 : Int32) → (okA h95 (some q71) 1 (11 : Int32) ∧ (∀ h97 : Hp, h97 = stI h95 q71 ((11 : Int32)).toNatClampNeg (97 : Int32) → (okA h97 (some q71) 1 (12 : Int32) ∧ (∀ h99 : Hp, h99 = stI h97 q71 ((12 : Int32)).toNatClampNeg (107 : Int32) → (okA h99 (some q71) 1 (13 : Int32) ∧ (∀ h101 : Hp, h101 = stI h99 q71 ((13 : Int32)).toNatClampNeg (101 : Int32) → (wp_X12_init_J208 o (32 : Int32) (14 : Int32) q71 q71 o Q h101)))))))))))))))))))))))))))))))))))))))))))))))))))))))))))))))))))))))
set_option maxHeartbeats 4000000 in
set_option maxRecDepth 100000 in
theorem t_X12_init_J977 {p : Program} {l : Launch} {e : Env} {s : State} {m : MethodId} {args : Array Value} {below : List Frame} {meth : Method} {c : Code} {G : GG} {base : Nat} (hM : Mx G base p s m args meth c cX12_init 1 none RX12 "<init>") (o : Nat) (Q : Hp → Prop) (h : Hp) (H : Heap) (locs : List Loc) (ls : Array Slot) : Cx G base h s.heap H locs → lo_has ls 1 [(0, .ref o)] → wp_X12_init_J977 o Q h → W p l e rm_X12_init s m args below meth c H locs 33 42849 (MQ below (va_Qv Q (PU G base) (fun q => base ≤ q)) args s 38 42891 (fun q => base ≤ q)) (F0 m 977 ls []) := by
  intro hC hl hw
  unfold wp_X12_init_J977 at hw
  obtain ⟨hx, hb, hr, hml, hown, hts, hg, hs, hlk, hnm⟩ := id hM
  refine lv_aload_n hx hb dX12_init_977 rfl (lo_at hl 0 rfl) ?_
  refine lv_bipush (v := 10) hx hb dX12_init_978 (by decide) ?_
  refine r_newI (N := 10) hx hb hts mk_arc_int hg hC (by decide) rfl (by decide) (Nat.le_of_ble_eq_true rfl) (Nat.le_of_ble_eq_true rfl) dX12_init_980 (fun q400 h401 H k402 eh401 hC => ?_)
  replace hw := hw q400 h401 k402 eh401
  refine W.widen (k := 34) (n := 42859) (Nat.le_of_ble_eq_true rfl) (Nat.le_of_ble_eq_true rfl) ?_
  obtain ⟨k403, hw⟩ := hw
  refine r_putFR (v := some q400) hx hb hts hown hnm hg hC fb_10_55 k403 (nv_a) (fv_a) mk_f_RX12_116 dX12_init_982 (fun h404 H locs eh404 hC => ?_)
  replace hw := hw h404 eh404
  refine lv_aload_n hx hb dX12_init_985 rfl (lo_at hl 0 rfl) ?_
  refine lv_bipush (v := 10) hx hb dX12_init_986 (by decide) ?_
  refine r_newI (N := 10) hx hb hts mk_arc_int hg hC (by decide) rfl (by decide) (Nat.le_of_ble_eq_true rfl) (Nat.le_of_ble_eq_true rfl) dX12_init_988 (fun q405 h406 H k407 eh406 hC => ?_)
  replace hw := hw q405 h406 k407 eh406
  refine W.widen (k := 35) (n := 42869) (Nat.le_of_ble_eq_true rfl) (Nat.le_of_ble_eq_true rfl) ?_
  obtain ⟨k408, hw⟩ := hw
  refine r_putFR (v := some q405) hx hb hts hown hnm hg hC fb_10_56 k408 (nv_a) (fv_a) mk_f_RX12_119 dX12_init_990 (fun h409 H locs eh409 hC => ?_)
  replace hw := hw h409 eh409
  refine lv_aload_n hx hb dX12_init_993 rfl (lo_at hl 0 rfl) ?_
  refine lv_bipush (v := 6) hx hb dX12_init_994 (by decide) ?_
  refine r_newI (N := 6) hx hb hts mk_arc_int hg hC (by decide) rfl (by decide) (Nat.le_of_ble_eq_true rfl) (Nat.le_of_ble_eq_true rfl) dX12_init_996 (fun q410 h411 H k412 eh411 hC => ?_)
  replace hw := hw q410 h411 k412 eh411
  refine W.widen (k := 36) (n := 42875) (Nat.le_of_ble_eq_true rfl) (Nat.le_of_ble_eq_true rfl) ?_
  obtain ⟨k413, hw⟩ := hw
  refine r_putFR (v := some q410) hx hb hts hown hnm hg hC fb_10_57 k413 (nv_a) (fv_a) mk_f_RX12_122 dX12_init_998 (fun h414 H locs eh414 hC => ?_)
  replace hw := hw h414 eh414
  refine lv_aload_n hx hb dX12_init_1001 rfl (lo_at hl 0 rfl) ?_
  refine lv_bipush (v := 8) hx hb dX12_init_1002 (by decide) ?_
  refine r_newL (N := 8) hx hb hts mk_arc_long hg hC (by decide) rfl (by decide) (Nat.le_of_ble_eq_true rfl) (Nat.le_of_ble_eq_true rfl) dX12_init_1004 (fun q415 h416 H k417 eh416 hC => ?_)
  replace hw := hw q415 h416 k417 eh416
  refine W.widen (k := 37) (n := 42883) (Nat.le_of_ble_eq_true rfl) (Nat.le_of_ble_eq_true rfl) ?_
  obtain ⟨k418, hw⟩ := hw
  refine r_putFR (v := some q415) hx hb hts hown hnm hg hC fb_10_58 k418 (nv_a) (fv_a) mk_f_RX12_125 dX12_init_1006 (fun h419 H locs eh419 hC => ?_)
  replace hw := hw h419 eh419
  refine lv_aload_n hx hb dX12_init_1009 rfl (lo_at hl 0 rfl) ?_
  refine lv_bipush (v := 8) hx hb dX12_init_1010 (by decide) ?_
  refine r_newI (N := 8) hx hb hts mk_arc_int hg hC (by decide) rfl (by decide) (Nat.le_of_ble_eq_true rfl) (Nat.le_of_ble_eq_true rfl) dX12_init_1012 (fun q420 h421 H k422 eh421 hC => ?_)
  replace hw := hw q420 h421 k422 eh421
  refine W.widen (k := 38) (n := 42891) (Nat.le_of_ble_eq_true rfl) (Nat.le_of_ble_eq_true rfl) ?_
  obtain ⟨k423, hw⟩ := hw
  refine r_putFR (v := some q420) hx hb hts hown hnm hg hC fb_10_59 k423 (nv_a) (fv_a) mk_f_RX12_129 dX12_init_1014 (fun h424 H locs eh424 hC => ?_)
  replace hw := hw h424 eh424
  exact ret_v hM hC hw dX12_init_1017
set_option maxHeartbeats 4000000 in
set_option maxRecDepth 100000 in
theorem t_X12_init_J748 {p : Program} {l : Launch} {e : Env} {s : State} {m : MethodId} {args : Array Value} {below : List Frame} {meth : Method} {c : Code} {G : GG} {base : Nat} (hM : Mx G base p s m args meth c cX12_init 1 none RX12 "<init>") (o : Nat) (s0 : Int32) (s1 : Int32) (s2 : Nat) (s3 : Nat) (s4 : Nat) (Q : Hp → Prop) (h : Hp) (H : Heap) (locs : List Loc) (ls : Array Slot) : Cx G base h s.heap H locs → lo_has ls 1 [(0, .ref o)] → wp_X12_init_J748 o s0 s1 s2 s3 s4 Q h → W p l e rm_X12_init s m args below meth c H locs 15 2911 (MQ below (va_Qv Q (PU G base) (fun q => base ≤ q)) args s 38 42891 (fun q => base ≤ q)) (F0 m 748 ls [.int s0, .int s1, .ref s2, .ref s3, .ref s4]) := by
  intro hC hl hw
  unfold wp_X12_init_J748 at hw
  obtain ⟨hx, hb, hr, hml, hown, hts, hg, hs, hlk, hnm⟩ := id hM
  obtain ⟨k282, hw⟩ := hw
  refine r_iast hx hb hg hC k282.2.1 k282.2.2 dX12_init_748 (fun h283 H locs eh283 hC => ?_)
  replace hw := hw h283 eh283
  refine lv_dup hx hb dX12_init_749 rfl ?_
  refine lv_bipush (v := 105) hx hb dX12_init_750 (by decide) ?_
  refine lv_bipush (v := 108) hx hb dX12_init_752 (by decide) ?_
  obtain ⟨k284, hw⟩ := hw
  refine r_iast hx hb hg hC k284.2.1 k284.2.2 dX12_init_754 (fun h285 H locs eh285 hC => ?_)
  replace hw := hw h285 eh285
  refine lv_dup hx hb dX12_init_755 rfl ?_
  refine lv_bipush (v := 106) hx hb dX12_init_756 (by decide) ?_
  refine lv_bipush (v := 97) hx hb dX12_init_758 (by decide) ?_
  obtain ⟨k286, hw⟩ := hw
  refine r_iast hx hb hg hC k286.2.1 k286.2.2 dX12_init_760 (fun h287 H locs eh287 hC => ?_)
  replace hw := hw h287 eh287
  refine lv_dup hx hb dX12_init_761 rfl ?_
  refine lv_bipush (v := 107) hx hb dX12_init_762 (by decide) ?_
  refine lv_bipush (v := 99) hx hb dX12_init_764 (by decide) ?_
  obtain ⟨k288, hw⟩ := hw
  refine r_iast hx hb hg hC k288.2.1 k288.2.2 dX12_init_766 (fun h289 H locs eh289 hC => ?_)
  replace hw := hw h289 eh289
  refine lv_dup hx hb dX12_init_767 rfl ?_
  refine lv_bipush (v := 108) hx hb dX12_init_768 (by decide) ?_
  refine lv_bipush (v := 107) hx hb dX12_init_770 (by decide) ?_
  obtain ⟨k290, hw⟩ := hw
  refine r_iast hx hb hg hC k290.2.1 k290.2.2 dX12_init_772 (fun h291 H locs eh291 hC => ?_)
  replace hw := hw h291 eh291
  refine lv_dup hx hb dX12_init_773 rfl ?_
  refine lv_bipush (v := 109) hx hb dX12_init_774 (by decide) ?_
  refine lv_bipush (v := 32) hx hb dX12_init_776 (by decide) ?_
  obtain ⟨k292, hw⟩ := hw
  refine r_iast hx hb hg hC k292.2.1 k292.2.2 dX12_init_778 (fun h293 H locs eh293 hC => ?_)
  replace hw := hw h293 eh293
  refine lv_dup hx hb dX12_init_779 rfl ?_
  refine lv_bipush (v := 110) hx hb dX12_init_780 (by decide) ?_
  refine lv_bipush (v := 116) hx hb dX12_init_782 (by decide) ?_
  obtain ⟨k294, hw⟩ := hw
  refine r_iast hx hb hg hC k294.2.1 k294.2.2 dX12_init_784 (fun h295 H locs eh295 hC => ?_)
  replace hw := hw h295 eh295
  refine lv_dup hx hb dX12_init_785 rfl ?_
  refine lv_bipush (v := 111) hx hb dX12_init_786 (by decide) ?_
  refine lv_bipush (v := 111) hx hb dX12_init_788 (by decide) ?_
  obtain ⟨k296, hw⟩ := hw
  refine r_iast hx hb hg hC k296.2.1 k296.2.2 dX12_init_790 (fun h297 H locs eh297 hC => ?_)
  replace hw := hw h297 eh297
  refine lv_dup hx hb dX12_init_791 rfl ?_
  refine lv_bipush (v := 112) hx hb dX12_init_792 (by decide) ?_
  refine lv_bipush (v := 108) hx hb dX12_init_794 (by decide) ?_
  obtain ⟨k298, hw⟩ := hw
  refine r_iast hx hb hg hC k298.2.1 k298.2.2 dX12_init_796 (fun h299 H locs eh299 hC => ?_)
  replace hw := hw h299 eh299
  refine lv_dup hx hb dX12_init_797 rfl ?_
  refine lv_bipush (v := 113) hx hb dX12_init_798 (by decide) ?_
  refine lv_bipush (v := 100) hx hb dX12_init_800 (by decide) ?_
  obtain ⟨k300, hw⟩ := hw
  refine r_iast hx hb hg hC k300.2.1 k300.2.2 dX12_init_802 (fun h301 H locs eh301 hC => ?_)
  replace hw := hw h301 eh301
  refine lv_dup hx hb dX12_init_803 rfl ?_
  refine lv_bipush (v := 114) hx hb dX12_init_804 (by decide) ?_
  refine lv_bipush (v := 32) hx hb dX12_init_806 (by decide) ?_
  obtain ⟨k302, hw⟩ := hw
  refine r_iast hx hb hg hC k302.2.1 k302.2.2 dX12_init_808 (fun h303 H locs eh303 hC => ?_)
  replace hw := hw h303 eh303
  obtain ⟨k304, hw⟩ := hw
  refine r_putFR (v := some s3) hx hb hts hown hnm hg hC fb_10_24 k304 (nv_a) (fv_a) mk_f_RX12_52 dX12_init_809 (fun h305 H locs eh305 hC => ?_)
  replace hw := hw h305 eh305
  refine lv_aload_n hx hb dX12_init_812 rfl (lo_at hl 0 rfl) ?_
  refine lv_bipush (v := 8) hx hb dX12_init_813 (by decide) ?_
  refine r_newI (N := 8) hx hb hts mk_arc_int hg hC (by decide) rfl (by decide) (Nat.le_of_ble_eq_true rfl) (Nat.le_of_ble_eq_true rfl) dX12_init_815 (fun q306 h307 H k308 eh307 hC => ?_)
  replace hw := hw q306 h307 k308 eh307
  refine W.widen (k := 16) (n := 2919) (Nat.le_of_ble_eq_true rfl) (Nat.le_of_ble_eq_true rfl) ?_
  obtain ⟨k309, hw⟩ := hw
  refine r_putFR (v := some q306) hx hb hts hown hnm hg hC fb_10_25 k309 (nv_a) (fv_a) mk_f_RX12_55 dX12_init_817 (fun h310 H locs eh310 hC => ?_)
  replace hw := hw h310 eh310
  refine lv_aload_n hx hb dX12_init_820 rfl (lo_at hl 0 rfl) ?_
  refine lv_sipush (v := 128) hx hb dX12_init_821 (by decide) ?_
  refine r_newI (N := 128) hx hb hts mk_arc_int hg hC (by decide) rfl (by decide) (Nat.le_of_ble_eq_true rfl) (Nat.le_of_ble_eq_true rfl) dX12_init_824 (fun q311 h312 H k313 eh312 hC => ?_)
  replace hw := hw q311 h312 k313 eh312
  refine W.widen (k := 17) (n := 3047) (Nat.le_of_ble_eq_true rfl) (Nat.le_of_ble_eq_true rfl) ?_
  obtain ⟨k314, hw⟩ := hw
  refine r_putFR (v := some q311) hx hb hts hown hnm hg hC fb_10_26 k314 (nv_a) (fv_a) mk_f_RX12_58 dX12_init_826 (fun h315 H locs eh315 hC => ?_)
  replace hw := hw h315 eh315
  refine lv_aload_n hx hb dX12_init_829 rfl (lo_at hl 0 rfl) ?_
  refine lv_sipush (v := 128) hx hb dX12_init_830 (by decide) ?_
  refine r_newI (N := 128) hx hb hts mk_arc_int hg hC (by decide) rfl (by decide) (Nat.le_of_ble_eq_true rfl) (Nat.le_of_ble_eq_true rfl) dX12_init_833 (fun q316 h317 H k318 eh317 hC => ?_)
  replace hw := hw q316 h317 k318 eh317
  refine W.widen (k := 18) (n := 3175) (Nat.le_of_ble_eq_true rfl) (Nat.le_of_ble_eq_true rfl) ?_
  obtain ⟨k319, hw⟩ := hw
  refine r_putFR (v := some q316) hx hb hts hown hnm hg hC fb_10_27 k319 (nv_a) (fv_a) mk_f_RX12_61 dX12_init_835 (fun h320 H locs eh320 hC => ?_)
  replace hw := hw h320 eh320
  refine lv_aload_n hx hb dX12_init_838 rfl (lo_at hl 0 rfl) ?_
  refine lv_sipush (v := 128) hx hb dX12_init_839 (by decide) ?_
  refine r_newI (N := 128) hx hb hts mk_arc_int hg hC (by decide) rfl (by decide) (Nat.le_of_ble_eq_true rfl) (Nat.le_of_ble_eq_true rfl) dX12_init_842 (fun q321 h322 H k323 eh322 hC => ?_)
  replace hw := hw q321 h322 k323 eh322
  refine W.widen (k := 19) (n := 3303) (Nat.le_of_ble_eq_true rfl) (Nat.le_of_ble_eq_true rfl) ?_
  obtain ⟨k324, hw⟩ := hw
  refine r_putFR (v := some q321) hx hb hts hown hnm hg hC fb_10_28 k324 (nv_a) (fv_a) mk_f_RX12_64 dX12_init_844 (fun h325 H locs eh325 hC => ?_)
  replace hw := hw h325 eh325
  refine lv_aload_n hx hb dX12_init_847 rfl (lo_at hl 0 rfl) ?_
  refine lv_sipush (v := 128) hx hb dX12_init_848 (by decide) ?_
  refine r_newI (N := 128) hx hb hts mk_arc_int hg hC (by decide) rfl (by decide) (Nat.le_of_ble_eq_true rfl) (Nat.le_of_ble_eq_true rfl) dX12_init_851 (fun q326 h327 H k328 eh327 hC => ?_)
  replace hw := hw q326 h327 k328 eh327
  refine W.widen (k := 20) (n := 3431) (Nat.le_of_ble_eq_true rfl) (Nat.le_of_ble_eq_true rfl) ?_
  obtain ⟨k329, hw⟩ := hw
  refine r_putFR (v := some q326) hx hb hts hown hnm hg hC fb_10_29 k329 (nv_a) (fv_a) mk_f_RX12_67 dX12_init_853 (fun h330 H locs eh330 hC => ?_)
  replace hw := hw h330 eh330
  refine lv_aload_n hx hb dX12_init_856 rfl (lo_at hl 0 rfl) ?_
  refine lv_sipush (v := 4800) hx hb dX12_init_857 (by decide) ?_
  refine r_newI (N := 4800) hx hb hts mk_arc_int hg hC (by decide) rfl (by decide) (Nat.le_of_ble_eq_true rfl) (Nat.le_of_ble_eq_true rfl) dX12_init_860 (fun q331 h332 H k333 eh332 hC => ?_)
  replace hw := hw q331 h332 k333 eh332
  refine W.widen (k := 21) (n := 8231) (Nat.le_of_ble_eq_true rfl) (Nat.le_of_ble_eq_true rfl) ?_
  obtain ⟨k334, hw⟩ := hw
  refine r_putFR (v := some q331) hx hb hts hown hnm hg hC fb_10_30 k334 (nv_a) (fv_a) mk_f_RX12_70 dX12_init_862 (fun h335 H locs eh335 hC => ?_)
  replace hw := hw h335 eh335
  refine lv_aload_n hx hb dX12_init_865 rfl (lo_at hl 0 rfl) ?_
  refine lv_sipush (v := 4800) hx hb dX12_init_866 (by decide) ?_
  refine r_newI (N := 4800) hx hb hts mk_arc_int hg hC (by decide) rfl (by decide) (Nat.le_of_ble_eq_true rfl) (Nat.le_of_ble_eq_true rfl) dX12_init_869 (fun q336 h337 H k338 eh337 hC => ?_)
  replace hw := hw q336 h337 k338 eh337
  refine W.widen (k := 22) (n := 13031) (Nat.le_of_ble_eq_true rfl) (Nat.le_of_ble_eq_true rfl) ?_
  obtain ⟨k339, hw⟩ := hw
  refine r_putFR (v := some q336) hx hb hts hown hnm hg hC fb_10_31 k339 (nv_a) (fv_a) mk_f_RX12_73 dX12_init_871 (fun h340 H locs eh340 hC => ?_)
  replace hw := hw h340 eh340
  refine lv_aload_n hx hb dX12_init_874 rfl (lo_at hl 0 rfl) ?_
  refine lv_bipush (v := 40) hx hb dX12_init_875 (by decide) ?_
  refine r_newI (N := 40) hx hb hts mk_arc_int hg hC (by decide) rfl (by decide) (Nat.le_of_ble_eq_true rfl) (Nat.le_of_ble_eq_true rfl) dX12_init_877 (fun q341 h342 H k343 eh342 hC => ?_)
  replace hw := hw q341 h342 k343 eh342
  refine W.widen (k := 23) (n := 13071) (Nat.le_of_ble_eq_true rfl) (Nat.le_of_ble_eq_true rfl) ?_
  obtain ⟨k344, hw⟩ := hw
  refine r_putFR (v := some q341) hx hb hts hown hnm hg hC fb_10_35 k344 (nv_a) (fv_a) mk_f_RX12_76 dX12_init_879 (fun h345 H locs eh345 hC => ?_)
  replace hw := hw h345 eh345
  refine lv_aload_n hx hb dX12_init_882 rfl (lo_at hl 0 rfl) ?_
  refine lv_iconst (v := -1) hx hb dX12_init_883 (by decide) ?_
  obtain ⟨k346, hw⟩ := hw
  refine r_putI hx hb hts hown hg hC fb_10_40 k346 rfl rfl mk_f_RX12_79 dX12_init_884 (fun h347 H locs eh347 hC => ?_)
  replace hw := hw h347 eh347
  refine lv_aload_n hx hb dX12_init_887 rfl (lo_at hl 0 rfl) ?_
  refine lv_bipush (v := 14) hx hb dX12_init_888 (by decide) ?_
  refine r_newI (N := 14) hx hb hts mk_arc_int hg hC (by decide) rfl (by decide) (Nat.le_of_ble_eq_true rfl) (Nat.le_of_ble_eq_true rfl) dX12_init_890 (fun q348 h349 H k350 eh349 hC => ?_)
  replace hw := hw q348 h349 k350 eh349
  refine W.widen (k := 24) (n := 13085) (Nat.le_of_ble_eq_true rfl) (Nat.le_of_ble_eq_true rfl) ?_
  obtain ⟨k351, hw⟩ := hw
  refine r_putFR (v := some q348) hx hb hts hown hnm hg hC fb_10_41 k351 (nv_a) (fv_a) mk_f_RX12_83 dX12_init_892 (fun h352 H locs eh352 hC => ?_)
  replace hw := hw h352 eh352
  refine lv_aload_n hx hb dX12_init_895 rfl (lo_at hl 0 rfl) ?_
  refine lv_sipush (v := 620) hx hb dX12_init_896 (by decide) ?_
  refine r_newI (N := 620) hx hb hts mk_arc_int hg hC (by decide) rfl (by decide) (Nat.le_of_ble_eq_true rfl) (Nat.le_of_ble_eq_true rfl) dX12_init_899 (fun q353 h354 H k355 eh354 hC => ?_)
  replace hw := hw q353 h354 k355 eh354
  refine W.widen (k := 25) (n := 13705) (Nat.le_of_ble_eq_true rfl) (Nat.le_of_ble_eq_true rfl) ?_
  obtain ⟨k356, hw⟩ := hw
  refine r_putFR (v := some q353) hx hb hts hown hnm hg hC fb_10_42 k356 (nv_a) (fv_a) mk_f_RX12_86 dX12_init_901 (fun h357 H locs eh357 hC => ?_)
  replace hw := hw h357 eh357
  refine lv_aload_n hx hb dX12_init_904 rfl (lo_at hl 0 rfl) ?_
  refine lv_bipush (v := 32) hx hb dX12_init_905 (by decide) ?_
  refine r_newI (N := 32) hx hb hts mk_arc_int hg hC (by decide) rfl (by decide) (Nat.le_of_ble_eq_true rfl) (Nat.le_of_ble_eq_true rfl) dX12_init_907 (fun q358 h359 H k360 eh359 hC => ?_)
  replace hw := hw q358 h359 k360 eh359
  refine W.widen (k := 26) (n := 13737) (Nat.le_of_ble_eq_true rfl) (Nat.le_of_ble_eq_true rfl) ?_
  obtain ⟨k361, hw⟩ := hw
  refine r_putFR (v := some q358) hx hb hts hown hnm hg hC fb_10_44 k361 (nv_a) (fv_a) mk_f_RX12_89 dX12_init_909 (fun h362 H locs eh362 hC => ?_)
  replace hw := hw h362 eh362
  refine lv_aload_n hx hb dX12_init_912 rfl (lo_at hl 0 rfl) ?_
  refine lv_bipush (v := 6) hx hb dX12_init_913 (by decide) ?_
  refine r_newI (N := 6) hx hb hts mk_arc_int hg hC (by decide) rfl (by decide) (Nat.le_of_ble_eq_true rfl) (Nat.le_of_ble_eq_true rfl) dX12_init_915 (fun q363 h364 H k365 eh364 hC => ?_)
  replace hw := hw q363 h364 k365 eh364
  refine W.widen (k := 27) (n := 13743) (Nat.le_of_ble_eq_true rfl) (Nat.le_of_ble_eq_true rfl) ?_
  obtain ⟨k366, hw⟩ := hw
  refine r_putFR (v := some q363) hx hb hts hown hnm hg hC fb_10_46 k366 (nv_a) (fv_a) mk_f_RX12_92 dX12_init_917 (fun h367 H locs eh367 hC => ?_)
  replace hw := hw h367 eh367
  refine lv_aload_n hx hb dX12_init_920 rfl (lo_at hl 0 rfl) ?_
  refine lv_sipush (v := 128) hx hb dX12_init_921 (by decide) ?_
  refine r_newI (N := 128) hx hb hts mk_arc_int hg hC (by decide) rfl (by decide) (Nat.le_of_ble_eq_true rfl) (Nat.le_of_ble_eq_true rfl) dX12_init_924 (fun q368 h369 H k370 eh369 hC => ?_)
  replace hw := hw q368 h369 k370 eh369
  refine W.widen (k := 28) (n := 13871) (Nat.le_of_ble_eq_true rfl) (Nat.le_of_ble_eq_true rfl) ?_
  obtain ⟨k371, hw⟩ := hw
  refine r_putFR (v := some q368) hx hb hts hown hnm hg hC fb_10_47 k371 (nv_a) (fv_a) mk_f_RX12_95 dX12_init_926 (fun h372 H locs eh372 hC => ?_)
  replace hw := hw h372 eh372
  refine lv_aload_n hx hb dX12_init_929 rfl (lo_at hl 0 rfl) ?_
  refine lv_sipush (v := 128) hx hb dX12_init_930 (by decide) ?_
  refine r_newI (N := 128) hx hb hts mk_arc_int hg hC (by decide) rfl (by decide) (Nat.le_of_ble_eq_true rfl) (Nat.le_of_ble_eq_true rfl) dX12_init_933 (fun q373 h374 H k375 eh374 hC => ?_)
  replace hw := hw q373 h374 k375 eh374
  refine W.widen (k := 29) (n := 13999) (Nat.le_of_ble_eq_true rfl) (Nat.le_of_ble_eq_true rfl) ?_
  obtain ⟨k376, hw⟩ := hw
  refine r_putFR (v := some q373) hx hb hts hown hnm hg hC fb_10_48 k376 (nv_a) (fv_a) mk_f_RX12_98 dX12_init_935 (fun h377 H locs eh377 hC => ?_)
  replace hw := hw h377 eh377
  refine lv_aload_n hx hb dX12_init_938 rfl (lo_at hl 0 rfl) ?_
  refine lv_iconst (v := -1) hx hb dX12_init_939 (by decide) ?_
  obtain ⟨k378, hw⟩ := hw
  refine r_putI hx hb hts hown hg hC fb_10_49 k378 rfl rfl mk_f_RX12_101 dX12_init_940 (fun h379 H locs eh379 hC => ?_)
  replace hw := hw h379 eh379
  refine lv_aload_n hx hb dX12_init_943 rfl (lo_at hl 0 rfl) ?_
  refine lv_sipush (v := 19200) hx hb dX12_init_944 (by decide) ?_
  refine r_newI (N := 19200) hx hb hts mk_arc_int hg hC (by decide) rfl (by decide) (Nat.le_of_ble_eq_true rfl) (Nat.le_of_ble_eq_true rfl) dX12_init_947 (fun q380 h381 H k382 eh381 hC => ?_)
  replace hw := hw q380 h381 k382 eh381
  refine W.widen (k := 30) (n := 33199) (Nat.le_of_ble_eq_true rfl) (Nat.le_of_ble_eq_true rfl) ?_
  obtain ⟨k383, hw⟩ := hw
  refine r_putFR (v := some q380) hx hb hts hown hnm hg hC fb_10_50 k383 (nv_a) (fv_a) mk_f_RX12_104 dX12_init_949 (fun h384 H locs eh384 hC => ?_)
  replace hw := hw h384 eh384
  refine lv_aload_n hx hb dX12_init_952 rfl (lo_at hl 0 rfl) ?_
  refine lv_sipush (v := 9600) hx hb dX12_init_953 (by decide) ?_
  refine r_newI (N := 9600) hx hb hts mk_arc_int hg hC (by decide) rfl (by decide) (Nat.le_of_ble_eq_true rfl) (Nat.le_of_ble_eq_true rfl) dX12_init_956 (fun q385 h386 H k387 eh386 hC => ?_)
  replace hw := hw q385 h386 k387 eh386
  refine W.widen (k := 31) (n := 42799) (Nat.le_of_ble_eq_true rfl) (Nat.le_of_ble_eq_true rfl) ?_
  obtain ⟨k388, hw⟩ := hw
  refine r_putFR (v := some q385) hx hb hts hown hnm hg hC fb_10_51 k388 (nv_a) (fv_a) mk_f_RX12_107 dX12_init_958 (fun h389 H locs eh389 hC => ?_)
  replace hw := hw h389 eh389
  refine lv_aload_n hx hb dX12_init_961 rfl (lo_at hl 0 rfl) ?_
  refine lv_bipush (v := 40) hx hb dX12_init_962 (by decide) ?_
  refine r_newI (N := 40) hx hb hts mk_arc_int hg hC (by decide) rfl (by decide) (Nat.le_of_ble_eq_true rfl) (Nat.le_of_ble_eq_true rfl) dX12_init_964 (fun q390 h391 H k392 eh391 hC => ?_)
  replace hw := hw q390 h391 k392 eh391
  refine W.widen (k := 32) (n := 42839) (Nat.le_of_ble_eq_true rfl) (Nat.le_of_ble_eq_true rfl) ?_
  obtain ⟨k393, hw⟩ := hw
  refine r_putFR (v := some q390) hx hb hts hown hnm hg hC fb_10_52 k393 (nv_a) (fv_a) mk_f_RX12_110 dX12_init_966 (fun h394 H locs eh394 hC => ?_)
  replace hw := hw h394 eh394
  refine lv_aload_n hx hb dX12_init_969 rfl (lo_at hl 0 rfl) ?_
  refine lv_bipush (v := 10) hx hb dX12_init_970 (by decide) ?_
  refine r_newI (N := 10) hx hb hts mk_arc_int hg hC (by decide) rfl (by decide) (Nat.le_of_ble_eq_true rfl) (Nat.le_of_ble_eq_true rfl) dX12_init_972 (fun q395 h396 H k397 eh396 hC => ?_)
  replace hw := hw q395 h396 k397 eh396
  refine W.widen (k := 33) (n := 42849) (Nat.le_of_ble_eq_true rfl) (Nat.le_of_ble_eq_true rfl) ?_
  obtain ⟨k398, hw⟩ := hw
  refine r_putFR (v := some q395) hx hb hts hown hnm hg hC fb_10_54 k398 (nv_a) (fv_a) mk_f_RX12_113 dX12_init_974 (fun h399 H locs eh399 hC => ?_)
  replace hw := hw h399 eh399
  exact t_X12_init_J977 hM o Q  h399 H locs ls hC (lo_sub hl [0] rfl) hw
set_option maxHeartbeats 4000000 in
set_option maxRecDepth 100000 in
theorem t_X12_init_J568 {p : Program} {l : Launch} {e : Env} {s : State} {m : MethodId} {args : Array Value} {below : List Frame} {meth : Method} {c : Code} {G : GG} {base : Nat} (hM : Mx G base p s m args meth c cX12_init 1 none RX12 "<init>") (o : Nat) (s0 : Int32) (s1 : Int32) (s2 : Nat) (s3 : Nat) (s4 : Nat) (Q : Hp → Prop) (h : Hp) (H : Heap) (locs : List Loc) (ls : Array Slot) : Cx G base h s.heap H locs → lo_has ls 1 [(0, .ref o)] → wp_X12_init_J568 o s0 s1 s2 s3 s4 Q h → W p l e rm_X12_init s m args below meth c H locs 15 2911 (MQ below (va_Qv Q (PU G base) (fun q => base ≤ q)) args s 38 42891 (fun q => base ≤ q)) (F0 m 568 ls [.int s0, .int s1, .ref s2, .ref s3, .ref s4]) := by
  intro hC hl hw
  unfold wp_X12_init_J568 at hw
  obtain ⟨hx, hb, hr, hml, hown, hts, hg, hs, hlk, hnm⟩ := id hM
  obtain ⟨k222, hw⟩ := hw
  refine r_iast hx hb hg hC k222.2.1 k222.2.2 dX12_init_568 (fun h223 H locs eh223 hC => ?_)
  replace hw := hw h223 eh223
  refine lv_dup hx hb dX12_init_569 rfl ?_
  refine lv_bipush (v := 75) hx hb dX12_init_570 (by decide) ?_
  refine lv_bipush (v := 111) hx hb dX12_init_572 (by decide) ?_
  obtain ⟨k224, hw⟩ := hw
  refine r_iast hx hb hg hC k224.2.1 k224.2.2 dX12_init_574 (fun h225 H locs eh225 hC => ?_)
  replace hw := hw h225 eh225
  refine lv_dup hx hb dX12_init_575 rfl ?_
  refine lv_bipush (v := 76) hx hb dX12_init_576 (by decide) ?_
  refine lv_bipush (v := 102) hx hb dX12_init_578 (by decide) ?_
  obtain ⟨k226, hw⟩ := hw
  refine r_iast hx hb hg hC k226.2.1 k226.2.2 dX12_init_580 (fun h227 H locs eh227 hC => ?_)
  replace hw := hw h227 eh227
  refine lv_dup hx hb dX12_init_581 rfl ?_
  refine lv_bipush (v := 77) hx hb dX12_init_582 (by decide) ?_
  refine lv_bipush (v := 116) hx hb dX12_init_584 (by decide) ?_
  obtain ⟨k228, hw⟩ := hw
  refine r_iast hx hb hg hC k228.2.1 k228.2.2 dX12_init_586 (fun h229 H locs eh229 hC => ?_)
  replace hw := hw h229 eh229
  refine lv_dup hx hb dX12_init_587 rfl ?_
  refine lv_bipush (v := 78) hx hb dX12_init_588 (by decide) ?_
  refine lv_bipush (v := 32) hx hb dX12_init_590 (by decide) ?_
  obtain ⟨k230, hw⟩ := hw
  refine r_iast hx hb hg hC k230.2.1 k230.2.2 dX12_init_592 (fun h231 H locs eh231 hC => ?_)
  replace hw := hw h231 eh231
  refine lv_dup hx hb dX12_init_593 rfl ?_
  refine lv_bipush (v := 79) hx hb dX12_init_594 (by decide) ?_
  refine lv_bipush (v := 98) hx hb dX12_init_596 (by decide) ?_
  obtain ⟨k232, hw⟩ := hw
  refine r_iast hx hb hg hC k232.2.1 k232.2.2 dX12_init_598 (fun h233 H locs eh233 hC => ?_)
  replace hw := hw h233 eh233
  refine lv_dup hx hb dX12_init_599 rfl ?_
  refine lv_bipush (v := 80) hx hb dX12_init_600 (by decide) ?_
  refine lv_bipush (v := 101) hx hb dX12_init_602 (by decide) ?_
  obtain ⟨k234, hw⟩ := hw
  refine r_iast hx hb hg hC k234.2.1 k234.2.2 dX12_init_604 (fun h235 H locs eh235 hC => ?_)
  replace hw := hw h235 eh235
  refine lv_dup hx hb dX12_init_605 rfl ?_
  refine lv_bipush (v := 81) hx hb dX12_init_606 (by decide) ?_
  refine lv_bipush (v := 115) hx hb dX12_init_608 (by decide) ?_
  obtain ⟨k236, hw⟩ := hw
  refine r_iast hx hb hg hC k236.2.1 k236.2.2 dX12_init_610 (fun h237 H locs eh237 hC => ?_)
  replace hw := hw h237 eh237
  refine lv_dup hx hb dX12_init_611 rfl ?_
  refine lv_bipush (v := 82) hx hb dX12_init_612 (by decide) ?_
  refine lv_bipush (v := 116) hx hb dX12_init_614 (by decide) ?_
  obtain ⟨k238, hw⟩ := hw
  refine r_iast hx hb hg hC k238.2.1 k238.2.2 dX12_init_616 (fun h239 H locs eh239 hC => ?_)
  replace hw := hw h239 eh239
  refine lv_dup hx hb dX12_init_617 rfl ?_
  refine lv_bipush (v := 83) hx hb dX12_init_618 (by decide) ?_
  refine lv_bipush (v := 32) hx hb dX12_init_620 (by decide) ?_
  obtain ⟨k240, hw⟩ := hw
  refine r_iast hx hb hg hC k240.2.1 k240.2.2 dX12_init_622 (fun h241 H locs eh241 hC => ?_)
  replace hw := hw h241 eh241
  refine lv_dup hx hb dX12_init_623 rfl ?_
  refine lv_bipush (v := 84) hx hb dX12_init_624 (by decide) ?_
  refine lv_bipush (v := 108) hx hb dX12_init_626 (by decide) ?_
  obtain ⟨k242, hw⟩ := hw
  refine r_iast hx hb hg hC k242.2.1 k242.2.2 dX12_init_628 (fun h243 H locs eh243 hC => ?_)
  replace hw := hw h243 eh243
  refine lv_dup hx hb dX12_init_629 rfl ?_
  refine lv_bipush (v := 85) hx hb dX12_init_630 (by decide) ?_
  refine lv_bipush (v := 111) hx hb dX12_init_632 (by decide) ?_
  obtain ⟨k244, hw⟩ := hw
  refine r_iast hx hb hg hC k244.2.1 k244.2.2 dX12_init_634 (fun h245 H locs eh245 hC => ?_)
  replace hw := hw h245 eh245
  refine lv_dup hx hb dX12_init_635 rfl ?_
  refine lv_bipush (v := 86) hx hb dX12_init_636 (by decide) ?_
  refine lv_bipush (v := 110) hx hb dX12_init_638 (by decide) ?_
  obtain ⟨k246, hw⟩ := hw
  refine r_iast hx hb hg hC k246.2.1 k246.2.2 dX12_init_640 (fun h247 H locs eh247 hC => ?_)
  replace hw := hw h247 eh247
  refine lv_dup hx hb dX12_init_641 rfl ?_
  refine lv_bipush (v := 87) hx hb dX12_init_642 (by decide) ?_
  refine lv_bipush (v := 103) hx hb dX12_init_644 (by decide) ?_
  obtain ⟨k248, hw⟩ := hw
  refine r_iast hx hb hg hC k248.2.1 k248.2.2 dX12_init_646 (fun h249 H locs eh249 hC => ?_)
  replace hw := hw h249 eh249
  refine lv_dup hx hb dX12_init_647 rfl ?_
  refine lv_bipush (v := 88) hx hb dX12_init_648 (by decide) ?_
  refine lv_bipush (v := 101) hx hb dX12_init_650 (by decide) ?_
  obtain ⟨k250, hw⟩ := hw
  refine r_iast hx hb hg hC k250.2.1 k250.2.2 dX12_init_652 (fun h251 H locs eh251 hC => ?_)
  replace hw := hw h251 eh251
  refine lv_dup hx hb dX12_init_653 rfl ?_
  refine lv_bipush (v := 89) hx hb dX12_init_654 (by decide) ?_
  refine lv_bipush (v := 115) hx hb dX12_init_656 (by decide) ?_
  obtain ⟨k252, hw⟩ := hw
  refine r_iast hx hb hg hC k252.2.1 k252.2.2 dX12_init_658 (fun h253 H locs eh253 hC => ?_)
  replace hw := hw h253 eh253
  refine lv_dup hx hb dX12_init_659 rfl ?_
  refine lv_bipush (v := 90) hx hb dX12_init_660 (by decide) ?_
  refine lv_bipush (v := 116) hx hb dX12_init_662 (by decide) ?_
  obtain ⟨k254, hw⟩ := hw
  refine r_iast hx hb hg hC k254.2.1 k254.2.2 dX12_init_664 (fun h255 H locs eh255 hC => ?_)
  replace hw := hw h255 eh255
  refine lv_dup hx hb dX12_init_665 rfl ?_
  refine lv_bipush (v := 91) hx hb dX12_init_666 (by decide) ?_
  refine lv_bipush (v := 32) hx hb dX12_init_668 (by decide) ?_
  obtain ⟨k256, hw⟩ := hw
  refine r_iast hx hb hg hC k256.2.1 k256.2.2 dX12_init_670 (fun h257 H locs eh257 hC => ?_)
  replace hw := hw h257 eh257
  refine lv_dup hx hb dX12_init_671 rfl ?_
  refine lv_bipush (v := 92) hx hb dX12_init_672 (by decide) ?_
  refine lv_bipush (v := 115) hx hb dX12_init_674 (by decide) ?_
  obtain ⟨k258, hw⟩ := hw
  refine r_iast hx hb hg hC k258.2.1 k258.2.2 dX12_init_676 (fun h259 H locs eh259 hC => ?_)
  replace hw := hw h259 eh259
  refine lv_dup hx hb dX12_init_677 rfl ?_
  refine lv_bipush (v := 93) hx hb dX12_init_678 (by decide) ?_
  refine lv_bipush (v := 108) hx hb dX12_init_680 (by decide) ?_
  obtain ⟨k260, hw⟩ := hw
  refine r_iast hx hb hg hC k260.2.1 k260.2.2 dX12_init_682 (fun h261 H locs eh261 hC => ?_)
  replace hw := hw h261 eh261
  refine lv_dup hx hb dX12_init_683 rfl ?_
  refine lv_bipush (v := 94) hx hb dX12_init_684 (by decide) ?_
  refine lv_bipush (v := 105) hx hb dX12_init_686 (by decide) ?_
  obtain ⟨k262, hw⟩ := hw
  refine r_iast hx hb hg hC k262.2.1 k262.2.2 dX12_init_688 (fun h263 H locs eh263 hC => ?_)
  replace hw := hw h263 eh263
  refine lv_dup hx hb dX12_init_689 rfl ?_
  refine lv_bipush (v := 95) hx hb dX12_init_690 (by decide) ?_
  refine lv_bipush (v := 100) hx hb dX12_init_692 (by decide) ?_
  obtain ⟨k264, hw⟩ := hw
  refine r_iast hx hb hg hC k264.2.1 k264.2.2 dX12_init_694 (fun h265 H locs eh265 hC => ?_)
  replace hw := hw h265 eh265
  refine lv_dup hx hb dX12_init_695 rfl ?_
  refine lv_bipush (v := 96) hx hb dX12_init_696 (by decide) ?_
  refine lv_bipush (v := 101) hx hb dX12_init_698 (by decide) ?_
  obtain ⟨k266, hw⟩ := hw
  refine r_iast hx hb hg hC k266.2.1 k266.2.2 dX12_init_700 (fun h267 H locs eh267 hC => ?_)
  replace hw := hw h267 eh267
  refine lv_dup hx hb dX12_init_701 rfl ?_
  refine lv_bipush (v := 97) hx hb dX12_init_702 (by decide) ?_
  refine lv_bipush (v := 32) hx hb dX12_init_704 (by decide) ?_
  obtain ⟨k268, hw⟩ := hw
  refine r_iast hx hb hg hC k268.2.1 k268.2.2 dX12_init_706 (fun h269 H locs eh269 hC => ?_)
  replace hw := hw h269 eh269
  refine lv_dup hx hb dX12_init_707 rfl ?_
  refine lv_bipush (v := 98) hx hb dX12_init_708 (by decide) ?_
  refine lv_bipush (v := 112) hx hb dX12_init_710 (by decide) ?_
  obtain ⟨k270, hw⟩ := hw
  refine r_iast hx hb hg hC k270.2.1 k270.2.2 dX12_init_712 (fun h271 H locs eh271 hC => ?_)
  replace hw := hw h271 eh271
  refine lv_dup hx hb dX12_init_713 rfl ?_
  refine lv_bipush (v := 99) hx hb dX12_init_714 (by decide) ?_
  refine lv_bipush (v := 105) hx hb dX12_init_716 (by decide) ?_
  obtain ⟨k272, hw⟩ := hw
  refine r_iast hx hb hg hC k272.2.1 k272.2.2 dX12_init_718 (fun h273 H locs eh273 hC => ?_)
  replace hw := hw h273 eh273
  refine lv_dup hx hb dX12_init_719 rfl ?_
  refine lv_bipush (v := 100) hx hb dX12_init_720 (by decide) ?_
  refine lv_bipush (v := 101) hx hb dX12_init_722 (by decide) ?_
  obtain ⟨k274, hw⟩ := hw
  refine r_iast hx hb hg hC k274.2.1 k274.2.2 dX12_init_724 (fun h275 H locs eh275 hC => ?_)
  replace hw := hw h275 eh275
  refine lv_dup hx hb dX12_init_725 rfl ?_
  refine lv_bipush (v := 101) hx hb dX12_init_726 (by decide) ?_
  refine lv_bipush (v := 99) hx hb dX12_init_728 (by decide) ?_
  obtain ⟨k276, hw⟩ := hw
  refine r_iast hx hb hg hC k276.2.1 k276.2.2 dX12_init_730 (fun h277 H locs eh277 hC => ?_)
  replace hw := hw h277 eh277
  refine lv_dup hx hb dX12_init_731 rfl ?_
  refine lv_bipush (v := 102) hx hb dX12_init_732 (by decide) ?_
  refine lv_bipush (v := 101) hx hb dX12_init_734 (by decide) ?_
  obtain ⟨k278, hw⟩ := hw
  refine r_iast hx hb hg hC k278.2.1 k278.2.2 dX12_init_736 (fun h279 H locs eh279 hC => ?_)
  replace hw := hw h279 eh279
  refine lv_dup hx hb dX12_init_737 rfl ?_
  refine lv_bipush (v := 103) hx hb dX12_init_738 (by decide) ?_
  refine lv_bipush (v := 115) hx hb dX12_init_740 (by decide) ?_
  obtain ⟨k280, hw⟩ := hw
  refine r_iast hx hb hg hC k280.2.1 k280.2.2 dX12_init_742 (fun h281 H locs eh281 hC => ?_)
  replace hw := hw h281 eh281
  refine lv_dup hx hb dX12_init_743 rfl ?_
  refine lv_bipush (v := 104) hx hb dX12_init_744 (by decide) ?_
  refine lv_bipush (v := 32) hx hb dX12_init_746 (by decide) ?_
  exact t_X12_init_J748 hM o (32 : Int32) (104 : Int32) s3 s3 s4 Q  h281 H locs ls hC (lo_sub hl [0] rfl) hw
set_option maxHeartbeats 4000000 in
set_option maxRecDepth 100000 in
theorem t_X12_init_J388 {p : Program} {l : Launch} {e : Env} {s : State} {m : MethodId} {args : Array Value} {below : List Frame} {meth : Method} {c : Code} {G : GG} {base : Nat} (hM : Mx G base p s m args meth c cX12_init 1 none RX12 "<init>") (o : Nat) (s0 : Int32) (s1 : Int32) (s2 : Nat) (s3 : Nat) (s4 : Nat) (Q : Hp → Prop) (h : Hp) (H : Heap) (locs : List Loc) (ls : Array Slot) : Cx G base h s.heap H locs → lo_has ls 1 [(0, .ref o)] → wp_X12_init_J388 o s0 s1 s2 s3 s4 Q h → W p l e rm_X12_init s m args below meth c H locs 15 2911 (MQ below (va_Qv Q (PU G base) (fun q => base ≤ q)) args s 38 42891 (fun q => base ≤ q)) (F0 m 388 ls [.int s0, .int s1, .ref s2, .ref s3, .ref s4]) := by
  intro hC hl hw
  unfold wp_X12_init_J388 at hw
  obtain ⟨hx, hb, hr, hml, hown, hts, hg, hs, hlk, hnm⟩ := id hM
  obtain ⟨k162, hw⟩ := hw
  refine r_iast hx hb hg hC k162.2.1 k162.2.2 dX12_init_388 (fun h163 H locs eh163 hC => ?_)
  replace hw := hw h163 eh163
  refine lv_dup hx hb dX12_init_389 rfl ?_
  refine lv_bipush (v := 45) hx hb dX12_init_390 (by decide) ?_
  refine lv_bipush (v := 104) hx hb dX12_init_392 (by decide) ?_
  obtain ⟨k164, hw⟩ := hw
  refine r_iast hx hb hg hC k164.2.1 k164.2.2 dX12_init_394 (fun h165 H locs eh165 hC => ?_)
  replace hw := hw h165 eh165
  refine lv_dup hx hb dX12_init_395 rfl ?_
  refine lv_bipush (v := 46) hx hb dX12_init_396 (by decide) ?_
  refine lv_bipush (v := 32) hx hb dX12_init_398 (by decide) ?_
  obtain ⟨k166, hw⟩ := hw
  refine r_iast hx hb hg hC k166.2.1 k166.2.2 dX12_init_400 (fun h167 H locs eh167 hC => ?_)
  replace hw := hw h167 eh167
  refine lv_dup hx hb dX12_init_401 rfl ?_
  refine lv_bipush (v := 47) hx hb dX12_init_402 (by decide) ?_
  refine lv_bipush (v := 108) hx hb dX12_init_404 (by decide) ?_
  obtain ⟨k168, hw⟩ := hw
  refine r_iast hx hb hg hC k168.2.1 k168.2.2 dX12_init_406 (fun h169 H locs eh169 hC => ?_)
  replace hw := hw h169 eh169
  refine lv_dup hx hb dX12_init_407 rfl ?_
  refine lv_bipush (v := 48) hx hb dX12_init_408 (by decide) ?_
  refine lv_bipush (v := 101) hx hb dX12_init_410 (by decide) ?_
  obtain ⟨k170, hw⟩ := hw
  refine r_iast hx hb hg hC k170.2.1 k170.2.2 dX12_init_412 (fun h171 H locs eh171 hC => ?_)
  replace hw := hw h171 eh171
  refine lv_dup hx hb dX12_init_413 rfl ?_
  refine lv_bipush (v := 49) hx hb dX12_init_414 (by decide) ?_
  refine lv_bipush (v := 102) hx hb dX12_init_416 (by decide) ?_
  obtain ⟨k172, hw⟩ := hw
  refine r_iast hx hb hg hC k172.2.1 k172.2.2 dX12_init_418 (fun h173 H locs eh173 hC => ?_)
  replace hw := hw h173 eh173
  refine lv_dup hx hb dX12_init_419 rfl ?_
  refine lv_bipush (v := 50) hx hb dX12_init_420 (by decide) ?_
  refine lv_bipush (v := 116) hx hb dX12_init_422 (by decide) ?_
  obtain ⟨k174, hw⟩ := hw
  refine r_iast hx hb hg hC k174.2.1 k174.2.2 dX12_init_424 (fun h175 H locs eh175 hC => ?_)
  replace hw := hw h175 eh175
  refine lv_dup hx hb dX12_init_425 rfl ?_
  refine lv_bipush (v := 51) hx hb dX12_init_426 (by decide) ?_
  refine lv_bipush (v := 32) hx hb dX12_init_428 (by decide) ?_
  obtain ⟨k176, hw⟩ := hw
  refine r_iast hx hb hg hC k176.2.1 k176.2.2 dX12_init_430 (fun h177 H locs eh177 hC => ?_)
  replace hw := hw h177 eh177
  refine lv_dup hx hb dX12_init_431 rfl ?_
  refine lv_bipush (v := 52) hx hb dX12_init_432 (by decide) ?_
  refine lv_bipush (v := 114) hx hb dX12_init_434 (by decide) ?_
  obtain ⟨k178, hw⟩ := hw
  refine r_iast hx hb hg hC k178.2.1 k178.2.2 dX12_init_436 (fun h179 H locs eh179 hC => ?_)
  replace hw := hw h179 eh179
  refine lv_dup hx hb dX12_init_437 rfl ?_
  refine lv_bipush (v := 53) hx hb dX12_init_438 (by decide) ?_
  refine lv_bipush (v := 105) hx hb dX12_init_440 (by decide) ?_
  obtain ⟨k180, hw⟩ := hw
  refine r_iast hx hb hg hC k180.2.1 k180.2.2 dX12_init_442 (fun h181 H locs eh181 hC => ?_)
  replace hw := hw h181 eh181
  refine lv_dup hx hb dX12_init_443 rfl ?_
  refine lv_bipush (v := 54) hx hb dX12_init_444 (by decide) ?_
  refine lv_bipush (v := 103) hx hb dX12_init_446 (by decide) ?_
  obtain ⟨k182, hw⟩ := hw
  refine r_iast hx hb hg hC k182.2.1 k182.2.2 dX12_init_448 (fun h183 H locs eh183 hC => ?_)
  replace hw := hw h183 eh183
  refine lv_dup hx hb dX12_init_449 rfl ?_
  refine lv_bipush (v := 55) hx hb dX12_init_450 (by decide) ?_
  refine lv_bipush (v := 104) hx hb dX12_init_452 (by decide) ?_
  obtain ⟨k184, hw⟩ := hw
  refine r_iast hx hb hg hC k184.2.1 k184.2.2 dX12_init_454 (fun h185 H locs eh185 hC => ?_)
  replace hw := hw h185 eh185
  refine lv_dup hx hb dX12_init_455 rfl ?_
  refine lv_bipush (v := 56) hx hb dX12_init_456 (by decide) ?_
  refine lv_bipush (v := 116) hx hb dX12_init_458 (by decide) ?_
  obtain ⟨k186, hw⟩ := hw
  refine r_iast hx hb hg hC k186.2.1 k186.2.2 dX12_init_460 (fun h187 H locs eh187 hC => ?_)
  replace hw := hw h187 eh187
  refine lv_dup hx hb dX12_init_461 rfl ?_
  refine lv_bipush (v := 57) hx hb dX12_init_462 (by decide) ?_
  refine lv_bipush (v := 32) hx hb dX12_init_464 (by decide) ?_
  obtain ⟨k188, hw⟩ := hw
  refine r_iast hx hb hg hC k188.2.1 k188.2.2 dX12_init_466 (fun h189 H locs eh189 hC => ?_)
  replace hw := hw h189 eh189
  refine lv_dup hx hb dX12_init_467 rfl ?_
  refine lv_bipush (v := 58) hx hb dX12_init_468 (by decide) ?_
  refine lv_bipush (v := 100) hx hb dX12_init_470 (by decide) ?_
  obtain ⟨k190, hw⟩ := hw
  refine r_iast hx hb hg hC k190.2.1 k190.2.2 dX12_init_472 (fun h191 H locs eh191 hC => ?_)
  replace hw := hw h191 eh191
  refine lv_dup hx hb dX12_init_473 rfl ?_
  refine lv_bipush (v := 59) hx hb dX12_init_474 (by decide) ?_
  refine lv_bipush (v := 114) hx hb dX12_init_476 (by decide) ?_
  obtain ⟨k192, hw⟩ := hw
  refine r_iast hx hb hg hC k192.2.1 k192.2.2 dX12_init_478 (fun h193 H locs eh193 hC => ?_)
  replace hw := hw h193 eh193
  refine lv_dup hx hb dX12_init_479 rfl ?_
  refine lv_bipush (v := 60) hx hb dX12_init_480 (by decide) ?_
  refine lv_bipush (v := 97) hx hb dX12_init_482 (by decide) ?_
  obtain ⟨k194, hw⟩ := hw
  refine r_iast hx hb hg hC k194.2.1 k194.2.2 dX12_init_484 (fun h195 H locs eh195 hC => ?_)
  replace hw := hw h195 eh195
  refine lv_dup hx hb dX12_init_485 rfl ?_
  refine lv_bipush (v := 61) hx hb dX12_init_486 (by decide) ?_
  refine lv_bipush (v := 119) hx hb dX12_init_488 (by decide) ?_
  obtain ⟨k196, hw⟩ := hw
  refine r_iast hx hb hg hC k196.2.1 k196.2.2 dX12_init_490 (fun h197 H locs eh197 hC => ?_)
  replace hw := hw h197 eh197
  refine lv_dup hx hb dX12_init_491 rfl ?_
  refine lv_bipush (v := 62) hx hb dX12_init_492 (by decide) ?_
  refine lv_bipush (v := 32) hx hb dX12_init_494 (by decide) ?_
  obtain ⟨k198, hw⟩ := hw
  refine r_iast hx hb hg hC k198.2.1 k198.2.2 dX12_init_496 (fun h199 H locs eh199 hC => ?_)
  replace hw := hw h199 eh199
  refine lv_dup hx hb dX12_init_497 rfl ?_
  refine lv_bipush (v := 63) hx hb dX12_init_498 (by decide) ?_
  refine lv_bipush (v := 115) hx hb dX12_init_500 (by decide) ?_
  obtain ⟨k200, hw⟩ := hw
  refine r_iast hx hb hg hC k200.2.1 k200.2.2 dX12_init_502 (fun h201 H locs eh201 hC => ?_)
  replace hw := hw h201 eh201
  refine lv_dup hx hb dX12_init_503 rfl ?_
  refine lv_bipush (v := 64) hx hb dX12_init_504 (by decide) ?_
  refine lv_bipush (v := 104) hx hb dX12_init_506 (by decide) ?_
  obtain ⟨k202, hw⟩ := hw
  refine r_iast hx hb hg hC k202.2.1 k202.2.2 dX12_init_508 (fun h203 H locs eh203 hC => ?_)
  replace hw := hw h203 eh203
  refine lv_dup hx hb dX12_init_509 rfl ?_
  refine lv_bipush (v := 65) hx hb dX12_init_510 (by decide) ?_
  refine lv_bipush (v := 111) hx hb dX12_init_512 (by decide) ?_
  obtain ⟨k204, hw⟩ := hw
  refine r_iast hx hb hg hC k204.2.1 k204.2.2 dX12_init_514 (fun h205 H locs eh205 hC => ?_)
  replace hw := hw h205 eh205
  refine lv_dup hx hb dX12_init_515 rfl ?_
  refine lv_bipush (v := 66) hx hb dX12_init_516 (by decide) ?_
  refine lv_bipush (v := 116) hx hb dX12_init_518 (by decide) ?_
  obtain ⟨k206, hw⟩ := hw
  refine r_iast hx hb hg hC k206.2.1 k206.2.2 dX12_init_520 (fun h207 H locs eh207 hC => ?_)
  replace hw := hw h207 eh207
  refine lv_dup hx hb dX12_init_521 rfl ?_
  refine lv_bipush (v := 67) hx hb dX12_init_522 (by decide) ?_
  refine lv_bipush (v := 115) hx hb dX12_init_524 (by decide) ?_
  obtain ⟨k208, hw⟩ := hw
  refine r_iast hx hb hg hC k208.2.1 k208.2.2 dX12_init_526 (fun h209 H locs eh209 hC => ?_)
  replace hw := hw h209 eh209
  refine lv_dup hx hb dX12_init_527 rfl ?_
  refine lv_bipush (v := 68) hx hb dX12_init_528 (by decide) ?_
  refine lv_bipush (v := 32) hx hb dX12_init_530 (by decide) ?_
  obtain ⟨k210, hw⟩ := hw
  refine r_iast hx hb hg hC k210.2.1 k210.2.2 dX12_init_532 (fun h211 H locs eh211 hC => ?_)
  replace hw := hw h211 eh211
  refine lv_dup hx hb dX12_init_533 rfl ?_
  refine lv_bipush (v := 69) hx hb dX12_init_534 (by decide) ?_
  refine lv_bipush (v := 114) hx hb dX12_init_536 (by decide) ?_
  obtain ⟨k212, hw⟩ := hw
  refine r_iast hx hb hg hC k212.2.1 k212.2.2 dX12_init_538 (fun h213 H locs eh213 hC => ?_)
  replace hw := hw h213 eh213
  refine lv_dup hx hb dX12_init_539 rfl ?_
  refine lv_bipush (v := 70) hx hb dX12_init_540 (by decide) ?_
  refine lv_bipush (v := 117) hx hb dX12_init_542 (by decide) ?_
  obtain ⟨k214, hw⟩ := hw
  refine r_iast hx hb hg hC k214.2.1 k214.2.2 dX12_init_544 (fun h215 H locs eh215 hC => ?_)
  replace hw := hw h215 eh215
  refine lv_dup hx hb dX12_init_545 rfl ?_
  refine lv_bipush (v := 71) hx hb dX12_init_546 (by decide) ?_
  refine lv_bipush (v := 115) hx hb dX12_init_548 (by decide) ?_
  obtain ⟨k216, hw⟩ := hw
  refine r_iast hx hb hg hC k216.2.1 k216.2.2 dX12_init_550 (fun h217 H locs eh217 hC => ?_)
  replace hw := hw h217 eh217
  refine lv_dup hx hb dX12_init_551 rfl ?_
  refine lv_bipush (v := 72) hx hb dX12_init_552 (by decide) ?_
  refine lv_bipush (v := 116) hx hb dX12_init_554 (by decide) ?_
  obtain ⟨k218, hw⟩ := hw
  refine r_iast hx hb hg hC k218.2.1 k218.2.2 dX12_init_556 (fun h219 H locs eh219 hC => ?_)
  replace hw := hw h219 eh219
  refine lv_dup hx hb dX12_init_557 rfl ?_
  refine lv_bipush (v := 73) hx hb dX12_init_558 (by decide) ?_
  refine lv_bipush (v := 32) hx hb dX12_init_560 (by decide) ?_
  obtain ⟨k220, hw⟩ := hw
  refine r_iast hx hb hg hC k220.2.1 k220.2.2 dX12_init_562 (fun h221 H locs eh221 hC => ?_)
  replace hw := hw h221 eh221
  refine lv_dup hx hb dX12_init_563 rfl ?_
  refine lv_bipush (v := 74) hx hb dX12_init_564 (by decide) ?_
  refine lv_bipush (v := 115) hx hb dX12_init_566 (by decide) ?_
  exact t_X12_init_J568 hM o (115 : Int32) (74 : Int32) s3 s3 s4 Q  h221 H locs ls hC (lo_sub hl [0] rfl) hw
set_option maxHeartbeats 4000000 in
set_option maxRecDepth 100000 in
theorem t_X12_init_J208 {p : Program} {l : Launch} {e : Env} {s : State} {m : MethodId} {args : Array Value} {below : List Frame} {meth : Method} {c : Code} {G : GG} {base : Nat} (hM : Mx G base p s m args meth c cX12_init 1 none RX12 "<init>") (o : Nat) (s0 : Int32) (s1 : Int32) (s2 : Nat) (s3 : Nat) (s4 : Nat) (Q : Hp → Prop) (h : Hp) (H : Heap) (locs : List Loc) (ls : Array Slot) : Cx G base h s.heap H locs → lo_has ls 1 [(0, .ref o)] → wp_X12_init_J208 o s0 s1 s2 s3 s4 Q h → W p l e rm_X12_init s m args below meth c H locs 15 2911 (MQ below (va_Qv Q (PU G base) (fun q => base ≤ q)) args s 38 42891 (fun q => base ≤ q)) (F0 m 208 ls [.int s0, .int s1, .ref s2, .ref s3, .ref s4]) := by
  intro hC hl hw
  unfold wp_X12_init_J208 at hw
  obtain ⟨hx, hb, hr, hml, hown, hts, hg, hs, hlk, hnm⟩ := id hM
  obtain ⟨k102, hw⟩ := hw
  refine r_iast hx hb hg hC k102.2.1 k102.2.2 dX12_init_208 (fun h103 H locs eh103 hC => ?_)
  replace hw := hw h103 eh103
  refine lv_dup hx hb dX12_init_209 rfl ?_
  refine lv_bipush (v := 15) hx hb dX12_init_210 (by decide) ?_
  refine lv_bipush (v := 115) hx hb dX12_init_212 (by decide) ?_
  obtain ⟨k104, hw⟩ := hw
  refine r_iast hx hb hg hC k104.2.1 k104.2.2 dX12_init_214 (fun h105 H locs eh105 hC => ?_)
  replace hw := hw h105 eh105
  refine lv_dup hx hb dX12_init_215 rfl ?_
  refine lv_bipush (v := 16) hx hb dX12_init_216 (by decide) ?_
  refine lv_bipush (v := 97) hx hb dX12_init_218 (by decide) ?_
  obtain ⟨k106, hw⟩ := hw
  refine r_iast hx hb hg hC k106.2.1 k106.2.2 dX12_init_220 (fun h107 H locs eh107 hC => ?_)
  replace hw := hw h107 eh107
  refine lv_dup hx hb dX12_init_221 rfl ?_
  refine lv_bipush (v := 17) hx hb dX12_init_222 (by decide) ?_
  refine lv_bipush (v := 109) hx hb dX12_init_224 (by decide) ?_
  obtain ⟨k108, hw⟩ := hw
  refine r_iast hx hb hg hC k108.2.1 k108.2.2 dX12_init_226 (fun h109 H locs eh109 hC => ?_)
  replace hw := hw h109 eh109
  refine lv_dup hx hb dX12_init_227 rfl ?_
  refine lv_bipush (v := 18) hx hb dX12_init_228 (by decide) ?_
  refine lv_bipush (v := 101) hx hb dX12_init_230 (by decide) ?_
  obtain ⟨k110, hw⟩ := hw
  refine r_iast hx hb hg hC k110.2.1 k110.2.2 dX12_init_232 (fun h111 H locs eh111 hC => ?_)
  replace hw := hw h111 eh111
  refine lv_dup hx hb dX12_init_233 rfl ?_
  refine lv_bipush (v := 19) hx hb dX12_init_234 (by decide) ?_
  refine lv_bipush (v := 32) hx hb dX12_init_236 (by decide) ?_
  obtain ⟨k112, hw⟩ := hw
  refine r_iast hx hb hg hC k112.2.1 k112.2.2 dX12_init_238 (fun h113 H locs eh113 hC => ?_)
  replace hw := hw h113 eh113
  refine lv_dup hx hb dX12_init_239 rfl ?_
  refine lv_bipush (v := 20) hx hb dX12_init_240 (by decide) ?_
  refine lv_bipush (v := 110) hx hb dX12_init_242 (by decide) ?_
  obtain ⟨k114, hw⟩ := hw
  refine r_iast hx hb hg hC k114.2.1 k114.2.2 dX12_init_244 (fun h115 H locs eh115 hC => ?_)
  replace hw := hw h115 eh115
  refine lv_dup hx hb dX12_init_245 rfl ?_
  refine lv_bipush (v := 21) hx hb dX12_init_246 (by decide) ?_
  refine lv_bipush (v := 111) hx hb dX12_init_248 (by decide) ?_
  obtain ⟨k116, hw⟩ := hw
  refine r_iast hx hb hg hC k116.2.1 k116.2.2 dX12_init_250 (fun h117 H locs eh117 hC => ?_)
  replace hw := hw h117 eh117
  refine lv_dup hx hb dX12_init_251 rfl ?_
  refine lv_bipush (v := 22) hx hb dX12_init_252 (by decide) ?_
  refine lv_bipush (v := 116) hx hb dX12_init_254 (by decide) ?_
  obtain ⟨k118, hw⟩ := hw
  refine r_iast hx hb hg hC k118.2.1 k118.2.2 dX12_init_256 (fun h119 H locs eh119 hC => ?_)
  replace hw := hw h119 eh119
  refine lv_dup hx hb dX12_init_257 rfl ?_
  refine lv_bipush (v := 23) hx hb dX12_init_258 (by decide) ?_
  refine lv_bipush (v := 32) hx hb dX12_init_260 (by decide) ?_
  obtain ⟨k120, hw⟩ := hw
  refine r_iast hx hb hg hC k120.2.1 k120.2.2 dX12_init_262 (fun h121 H locs eh121 hC => ?_)
  replace hw := hw h121 eh121
  refine lv_dup hx hb dX12_init_263 rfl ?_
  refine lv_bipush (v := 24) hx hb dX12_init_264 (by decide) ?_
  refine lv_bipush (v := 119) hx hb dX12_init_266 (by decide) ?_
  obtain ⟨k122, hw⟩ := hw
  refine r_iast hx hb hg hC k122.2.1 k122.2.2 dX12_init_268 (fun h123 H locs eh123 hC => ?_)
  replace hw := hw h123 eh123
  refine lv_dup hx hb dX12_init_269 rfl ?_
  refine lv_bipush (v := 25) hx hb dX12_init_270 (by decide) ?_
  refine lv_bipush (v := 104) hx hb dX12_init_272 (by decide) ?_
  obtain ⟨k124, hw⟩ := hw
  refine r_iast hx hb hg hC k124.2.1 k124.2.2 dX12_init_274 (fun h125 H locs eh125 hC => ?_)
  replace hw := hw h125 eh125
  refine lv_dup hx hb dX12_init_275 rfl ?_
  refine lv_bipush (v := 26) hx hb dX12_init_276 (by decide) ?_
  refine lv_bipush (v := 101) hx hb dX12_init_278 (by decide) ?_
  obtain ⟨k126, hw⟩ := hw
  refine r_iast hx hb hg hC k126.2.1 k126.2.2 dX12_init_280 (fun h127 H locs eh127 hC => ?_)
  replace hw := hw h127 eh127
  refine lv_dup hx hb dX12_init_281 rfl ?_
  refine lv_bipush (v := 27) hx hb dX12_init_282 (by decide) ?_
  refine lv_bipush (v := 110) hx hb dX12_init_284 (by decide) ?_
  obtain ⟨k128, hw⟩ := hw
  refine r_iast hx hb hg hC k128.2.1 k128.2.2 dX12_init_286 (fun h129 H locs eh129 hC => ?_)
  replace hw := hw h129 eh129
  refine lv_dup hx hb dX12_init_287 rfl ?_
  refine lv_bipush (v := 28) hx hb dX12_init_288 (by decide) ?_
  refine lv_bipush (v := 32) hx hb dX12_init_290 (by decide) ?_
  obtain ⟨k130, hw⟩ := hw
  refine r_iast hx hb hg hC k130.2.1 k130.2.2 dX12_init_292 (fun h131 H locs eh131 hC => ?_)
  replace hw := hw h131 eh131
  refine lv_dup hx hb dX12_init_293 rfl ?_
  refine lv_bipush (v := 29) hx hb dX12_init_294 (by decide) ?_
  refine lv_bipush (v := 111) hx hb dX12_init_296 (by decide) ?_
  obtain ⟨k132, hw⟩ := hw
  refine r_iast hx hb hg hC k132.2.1 k132.2.2 dX12_init_298 (fun h133 H locs eh133 hC => ?_)
  replace hw := hw h133 eh133
  refine lv_dup hx hb dX12_init_299 rfl ?_
  refine lv_bipush (v := 30) hx hb dX12_init_300 (by decide) ?_
  refine lv_bipush (v := 114) hx hb dX12_init_302 (by decide) ?_
  obtain ⟨k134, hw⟩ := hw
  refine r_iast hx hb hg hC k134.2.1 k134.2.2 dX12_init_304 (fun h135 H locs eh135 hC => ?_)
  replace hw := hw h135 eh135
  refine lv_dup hx hb dX12_init_305 rfl ?_
  refine lv_bipush (v := 31) hx hb dX12_init_306 (by decide) ?_
  refine lv_bipush (v := 32) hx hb dX12_init_308 (by decide) ?_
  obtain ⟨k136, hw⟩ := hw
  refine r_iast hx hb hg hC k136.2.1 k136.2.2 dX12_init_310 (fun h137 H locs eh137 hC => ?_)
  replace hw := hw h137 eh137
  refine lv_dup hx hb dX12_init_311 rfl ?_
  refine lv_bipush (v := 32) hx hb dX12_init_312 (by decide) ?_
  refine lv_bipush (v := 97) hx hb dX12_init_314 (by decide) ?_
  obtain ⟨k138, hw⟩ := hw
  refine r_iast hx hb hg hC k138.2.1 k138.2.2 dX12_init_316 (fun h139 H locs eh139 hC => ?_)
  replace hw := hw h139 eh139
  refine lv_dup hx hb dX12_init_317 rfl ?_
  refine lv_bipush (v := 33) hx hb dX12_init_318 (by decide) ?_
  refine lv_bipush (v := 110) hx hb dX12_init_320 (by decide) ?_
  obtain ⟨k140, hw⟩ := hw
  refine r_iast hx hb hg hC k140.2.1 k140.2.2 dX12_init_322 (fun h141 H locs eh141 hC => ?_)
  replace hw := hw h141 eh141
  refine lv_dup hx hb dX12_init_323 rfl ?_
  refine lv_bipush (v := 34) hx hb dX12_init_324 (by decide) ?_
  refine lv_bipush (v := 100) hx hb dX12_init_326 (by decide) ?_
  obtain ⟨k142, hw⟩ := hw
  refine r_iast hx hb hg hC k142.2.1 k142.2.2 dX12_init_328 (fun h143 H locs eh143 hC => ?_)
  replace hw := hw h143 eh143
  refine lv_dup hx hb dX12_init_329 rfl ?_
  refine lv_bipush (v := 35) hx hb dX12_init_330 (by decide) ?_
  refine lv_bipush (v := 32) hx hb dX12_init_332 (by decide) ?_
  obtain ⟨k144, hw⟩ := hw
  refine r_iast hx hb hg hC k144.2.1 k144.2.2 dX12_init_334 (fun h145 H locs eh145 hC => ?_)
  replace hw := hw h145 eh145
  refine lv_dup hx hb dX12_init_335 rfl ?_
  refine lv_bipush (v := 36) hx hb dX12_init_336 (by decide) ?_
  refine lv_bipush (v := 110) hx hb dX12_init_338 (by decide) ?_
  obtain ⟨k146, hw⟩ := hw
  refine r_iast hx hb hg hC k146.2.1 k146.2.2 dX12_init_340 (fun h147 H locs eh147 hC => ?_)
  replace hw := hw h147 eh147
  refine lv_dup hx hb dX12_init_341 rfl ?_
  refine lv_bipush (v := 37) hx hb dX12_init_342 (by decide) ?_
  refine lv_bipush (v := 111) hx hb dX12_init_344 (by decide) ?_
  obtain ⟨k148, hw⟩ := hw
  refine r_iast hx hb hg hC k148.2.1 k148.2.2 dX12_init_346 (fun h149 H locs eh149 hC => ?_)
  replace hw := hw h149 eh149
  refine lv_dup hx hb dX12_init_347 rfl ?_
  refine lv_bipush (v := 38) hx hb dX12_init_348 (by decide) ?_
  refine lv_bipush (v := 32) hx hb dX12_init_350 (by decide) ?_
  obtain ⟨k150, hw⟩ := hw
  refine r_iast hx hb hg hC k150.2.1 k150.2.2 dX12_init_352 (fun h151 H locs eh151 hC => ?_)
  replace hw := hw h151 eh151
  refine lv_dup hx hb dX12_init_353 rfl ?_
  refine lv_bipush (v := 39) hx hb dX12_init_354 (by decide) ?_
  refine lv_bipush (v := 97) hx hb dX12_init_356 (by decide) ?_
  obtain ⟨k152, hw⟩ := hw
  refine r_iast hx hb hg hC k152.2.1 k152.2.2 dX12_init_358 (fun h153 H locs eh153 hC => ?_)
  replace hw := hw h153 eh153
  refine lv_dup hx hb dX12_init_359 rfl ?_
  refine lv_bipush (v := 40) hx hb dX12_init_360 (by decide) ?_
  refine lv_bipush (v := 116) hx hb dX12_init_362 (by decide) ?_
  obtain ⟨k154, hw⟩ := hw
  refine r_iast hx hb hg hC k154.2.1 k154.2.2 dX12_init_364 (fun h155 H locs eh155 hC => ?_)
  replace hw := hw h155 eh155
  refine lv_dup hx hb dX12_init_365 rfl ?_
  refine lv_bipush (v := 41) hx hb dX12_init_366 (by decide) ?_
  refine lv_bipush (v := 32) hx hb dX12_init_368 (by decide) ?_
  obtain ⟨k156, hw⟩ := hw
  refine r_iast hx hb hg hC k156.2.1 k156.2.2 dX12_init_370 (fun h157 H locs eh157 hC => ?_)
  replace hw := hw h157 eh157
  refine lv_dup hx hb dX12_init_371 rfl ?_
  refine lv_bipush (v := 42) hx hb dX12_init_372 (by decide) ?_
  refine lv_bipush (v := 104) hx hb dX12_init_374 (by decide) ?_
  obtain ⟨k158, hw⟩ := hw
  refine r_iast hx hb hg hC k158.2.1 k158.2.2 dX12_init_376 (fun h159 H locs eh159 hC => ?_)
  replace hw := hw h159 eh159
  refine lv_dup hx hb dX12_init_377 rfl ?_
  refine lv_bipush (v := 43) hx hb dX12_init_378 (by decide) ?_
  refine lv_bipush (v := 105) hx hb dX12_init_380 (by decide) ?_
  obtain ⟨k160, hw⟩ := hw
  refine r_iast hx hb hg hC k160.2.1 k160.2.2 dX12_init_382 (fun h161 H locs eh161 hC => ?_)
  replace hw := hw h161 eh161
  refine lv_dup hx hb dX12_init_383 rfl ?_
  refine lv_bipush (v := 44) hx hb dX12_init_384 (by decide) ?_
  refine lv_bipush (v := 103) hx hb dX12_init_386 (by decide) ?_
  exact t_X12_init_J388 hM o (103 : Int32) (44 : Int32) s3 s3 s4 Q  h161 H locs ls hC (lo_sub hl [0] rfl) hw
set_option maxHeartbeats 4000000 in
set_option maxRecDepth 100000 in
theorem c_X12_init (l : Launch) (G : GG) (base : Nat) (o : Nat) (h : Hp) (Q : Hp → Prop) (hw : wp_X12_init o h Q) : Met l yX12_init (ww yX12_init cX12_init 1 none) rm_X12_init (va_Pc [.ref o] (PU G base h)) (va_Qv Q (PU G base) (fun q => base ≤ q)) 38 42891 (fun q => base ≤ q) := by
  refine met_of (own := RX12) (nm := "<init>") (by decide) rfl rfl (List.forall_mem_cons.mpr ⟨rfl, (fun _ h => absurd h List.not_mem_nil)⟩) (Nat.le_of_ble_eq_true rfl) rfl ?_
  intro p e s m below meth c ls hM hC hl
  obtain ⟨hx, hb, hr, hml, hown, hts, hg, hs, hlk, hnm⟩ := id hM
  obtain ⟨args, hargs⟩ : ∃ a : Array Value, a = ([.ref o] : List Value).toArray := ⟨_, rfl⟩
  rw [← hargs] at hM hts ⊢
  obtain ⟨H, hH⟩ : ∃ H : Heap, H = s.heap := ⟨_, rfl⟩
  obtain ⟨locs, hlocs⟩ : ∃ x : List Loc, x = [] := ⟨_, rfl⟩
  have hC : Cx G base h s.heap H locs := by rw [hH, hlocs]; exact hC
  show W p l e rm_X12_init s m args below meth c s.heap [] 0 0 (MQ below (va_Qv Q (PU G base) (fun q => base ≤ q)) args s 38 42891 (fun q => base ≤ q)) (F0 m 0 ls [])
  rw [← hlocs]
  have hgoal : W p l e rm_X12_init s m args below meth c H locs 0 0 (MQ below (va_Qv Q (PU G base) (fun q => base ≤ q)) args s 38 42891 (fun q => base ≤ q)) (F0 m 0 ls []) := ?_
  · rw [hH] at hgoal; exact hgoal
  clear hH hlocs
  unfold wp_X12_init at hw
  refine lv_aload_n hx hb dX12_init_0 rfl (lo_at hl 0 rfl) ?_
  refine r_oi hx hb hown (hts _ mk_m_RX12_1) (hts _ mk_oi_i) (hts _ mk_oi_c) (by rw [hml]; exact hl.1.1) dX12_init_1 (Nat.le_of_ble_eq_true rfl) (Nat.le_of_ble_eq_true rfl) ?_
  refine lv_aload_n hx hb dX12_init_4 rfl (lo_at hl 0 rfl) ?_
  refine lv_sipush (v := 192) hx hb dX12_init_5 (by decide) ?_
  refine r_newI (N := 192) hx hb hts mk_arc_int hg hC (by decide) rfl (by decide) (Nat.le_of_ble_eq_true rfl) (Nat.le_of_ble_eq_true rfl) dX12_init_8 (fun q1 h2 H k3 eh2 hC => ?_)
  replace hw := hw q1 h2 k3 eh2
  refine W.widen (k := 1) (n := 192) (Nat.le_of_ble_eq_true rfl) (Nat.le_of_ble_eq_true rfl) ?_
  obtain ⟨k4, hw⟩ := hw
  refine r_putFR (v := some q1) hx hb hts hown hnm hg hC fb_10_2 k4 (nv_a) (fv_a) mk_f_RX12_7 dX12_init_10 (fun h5 H locs eh5 hC => ?_)
  replace hw := hw h5 eh5
  refine lv_aload_n hx hb dX12_init_13 rfl (lo_at hl 0 rfl) ?_
  refine lv_bipush (v := 6) hx hb dX12_init_14 (by decide) ?_
  refine r_newI (N := 6) hx hb hts mk_arc_int hg hC (by decide) rfl (by decide) (Nat.le_of_ble_eq_true rfl) (Nat.le_of_ble_eq_true rfl) dX12_init_16 (fun q6 h7 H k8 eh7 hC => ?_)
  replace hw := hw q6 h7 k8 eh7
  refine W.widen (k := 2) (n := 198) (Nat.le_of_ble_eq_true rfl) (Nat.le_of_ble_eq_true rfl) ?_
  obtain ⟨k9, hw⟩ := hw
  refine r_putFR (v := some q6) hx hb hts hown hnm hg hC fb_10_3 k9 (nv_a) (fv_a) mk_f_RX12_13 dX12_init_18 (fun h10 H locs eh10 hC => ?_)
  replace hw := hw h10 eh10
  refine lv_aload_n hx hb dX12_init_21 rfl (lo_at hl 0 rfl) ?_
  refine lv_bipush (v := 6) hx hb dX12_init_22 (by decide) ?_
  refine r_newI (N := 6) hx hb hts mk_arc_int hg hC (by decide) rfl (by decide) (Nat.le_of_ble_eq_true rfl) (Nat.le_of_ble_eq_true rfl) dX12_init_24 (fun q11 h12 H k13 eh12 hC => ?_)
  replace hw := hw q11 h12 k13 eh12
  refine W.widen (k := 3) (n := 204) (Nat.le_of_ble_eq_true rfl) (Nat.le_of_ble_eq_true rfl) ?_
  obtain ⟨k14, hw⟩ := hw
  refine r_putFR (v := some q11) hx hb hts hown hnm hg hC fb_10_4 k14 (nv_a) (fv_a) mk_f_RX12_16 dX12_init_26 (fun h15 H locs eh15 hC => ?_)
  replace hw := hw h15 eh15
  refine lv_aload_n hx hb dX12_init_29 rfl (lo_at hl 0 rfl) ?_
  refine lv_sipush (v := 512) hx hb dX12_init_30 (by decide) ?_
  refine r_newI (N := 512) hx hb hts mk_arc_int hg hC (by decide) rfl (by decide) (Nat.le_of_ble_eq_true rfl) (Nat.le_of_ble_eq_true rfl) dX12_init_33 (fun q16 h17 H k18 eh17 hC => ?_)
  replace hw := hw q16 h17 k18 eh17
  refine W.widen (k := 4) (n := 716) (Nat.le_of_ble_eq_true rfl) (Nat.le_of_ble_eq_true rfl) ?_
  obtain ⟨k19, hw⟩ := hw
  refine r_putFR (v := some q16) hx hb hts hown hnm hg hC fb_10_6 k19 (nv_a) (fv_a) mk_f_RX12_19 dX12_init_35 (fun h20 H locs eh20 hC => ?_)
  replace hw := hw h20 eh20
  refine lv_aload_n hx hb dX12_init_38 rfl (lo_at hl 0 rfl) ?_
  refine lv_bipush (v := 16) hx hb dX12_init_39 (by decide) ?_
  refine r_newI (N := 16) hx hb hts mk_arc_int hg hC (by decide) rfl (by decide) (Nat.le_of_ble_eq_true rfl) (Nat.le_of_ble_eq_true rfl) dX12_init_41 (fun q21 h22 H k23 eh22 hC => ?_)
  replace hw := hw q21 h22 k23 eh22
  refine W.widen (k := 5) (n := 732) (Nat.le_of_ble_eq_true rfl) (Nat.le_of_ble_eq_true rfl) ?_
  obtain ⟨k24, hw⟩ := hw
  refine r_putFR (v := some q21) hx hb hts hown hnm hg hC fb_10_7 k24 (nv_a) (fv_a) mk_f_RX12_22 dX12_init_43 (fun h25 H locs eh25 hC => ?_)
  replace hw := hw h25 eh25
  refine lv_aload_n hx hb dX12_init_46 rfl (lo_at hl 0 rfl) ?_
  refine lv_bipush (v := 16) hx hb dX12_init_47 (by decide) ?_
  refine r_newI (N := 16) hx hb hts mk_arc_int hg hC (by decide) rfl (by decide) (Nat.le_of_ble_eq_true rfl) (Nat.le_of_ble_eq_true rfl) dX12_init_49 (fun q26 h27 H k28 eh27 hC => ?_)
  replace hw := hw q26 h27 k28 eh27
  refine W.widen (k := 6) (n := 748) (Nat.le_of_ble_eq_true rfl) (Nat.le_of_ble_eq_true rfl) ?_
  obtain ⟨k29, hw⟩ := hw
  refine r_putFR (v := some q26) hx hb hts hown hnm hg hC fb_10_8 k29 (nv_a) (fv_a) mk_f_RX12_25 dX12_init_51 (fun h30 H locs eh30 hC => ?_)
  replace hw := hw h30 eh30
  refine lv_aload_n hx hb dX12_init_54 rfl (lo_at hl 0 rfl) ?_
  refine lv_bipush (v := 16) hx hb dX12_init_55 (by decide) ?_
  refine r_newI (N := 16) hx hb hts mk_arc_int hg hC (by decide) rfl (by decide) (Nat.le_of_ble_eq_true rfl) (Nat.le_of_ble_eq_true rfl) dX12_init_57 (fun q31 h32 H k33 eh32 hC => ?_)
  replace hw := hw q31 h32 k33 eh32
  refine W.widen (k := 7) (n := 764) (Nat.le_of_ble_eq_true rfl) (Nat.le_of_ble_eq_true rfl) ?_
  obtain ⟨k34, hw⟩ := hw
  refine r_putFR (v := some q31) hx hb hts hown hnm hg hC fb_10_9 k34 (nv_a) (fv_a) mk_f_RX12_28 dX12_init_59 (fun h35 H locs eh35 hC => ?_)
  replace hw := hw h35 eh35
  refine lv_aload_n hx hb dX12_init_62 rfl (lo_at hl 0 rfl) ?_
  refine lv_bipush (v := 16) hx hb dX12_init_63 (by decide) ?_
  refine r_newI (N := 16) hx hb hts mk_arc_int hg hC (by decide) rfl (by decide) (Nat.le_of_ble_eq_true rfl) (Nat.le_of_ble_eq_true rfl) dX12_init_65 (fun q36 h37 H k38 eh37 hC => ?_)
  replace hw := hw q36 h37 k38 eh37
  refine W.widen (k := 8) (n := 780) (Nat.le_of_ble_eq_true rfl) (Nat.le_of_ble_eq_true rfl) ?_
  obtain ⟨k39, hw⟩ := hw
  refine r_putFR (v := some q36) hx hb hts hown hnm hg hC fb_10_10 k39 (nv_a) (fv_a) mk_f_RX12_31 dX12_init_67 (fun h40 H locs eh40 hC => ?_)
  replace hw := hw h40 eh40
  refine lv_aload_n hx hb dX12_init_70 rfl (lo_at hl 0 rfl) ?_
  refine lv_bipush (v := 16) hx hb dX12_init_71 (by decide) ?_
  refine r_newI (N := 16) hx hb hts mk_arc_int hg hC (by decide) rfl (by decide) (Nat.le_of_ble_eq_true rfl) (Nat.le_of_ble_eq_true rfl) dX12_init_73 (fun q41 h42 H k43 eh42 hC => ?_)
  replace hw := hw q41 h42 k43 eh42
  refine W.widen (k := 9) (n := 796) (Nat.le_of_ble_eq_true rfl) (Nat.le_of_ble_eq_true rfl) ?_
  obtain ⟨k44, hw⟩ := hw
  refine r_putFR (v := some q41) hx hb hts hown hnm hg hC fb_10_11 k44 (nv_a) (fv_a) mk_f_RX12_34 dX12_init_75 (fun h45 H locs eh45 hC => ?_)
  replace hw := hw h45 eh45
  refine lv_aload_n hx hb dX12_init_78 rfl (lo_at hl 0 rfl) ?_
  refine lv_sipush (v := 1280) hx hb dX12_init_79 (by decide) ?_
  refine r_newI (N := 1280) hx hb hts mk_arc_int hg hC (by decide) rfl (by decide) (Nat.le_of_ble_eq_true rfl) (Nat.le_of_ble_eq_true rfl) dX12_init_82 (fun q46 h47 H k48 eh47 hC => ?_)
  replace hw := hw q46 h47 k48 eh47
  refine W.widen (k := 10) (n := 2076) (Nat.le_of_ble_eq_true rfl) (Nat.le_of_ble_eq_true rfl) ?_
  obtain ⟨k49, hw⟩ := hw
  refine r_putFR (v := some q46) hx hb hts hown hnm hg hC fb_10_13 k49 (nv_a) (fv_a) mk_f_RX12_37 dX12_init_84 (fun h50 H locs eh50 hC => ?_)
  replace hw := hw h50 eh50
  refine lv_aload_n hx hb dX12_init_87 rfl (lo_at hl 0 rfl) ?_
  refine lv_bipush (v := 40) hx hb dX12_init_88 (by decide) ?_
  refine r_newI (N := 40) hx hb hts mk_arc_int hg hC (by decide) rfl (by decide) (Nat.le_of_ble_eq_true rfl) (Nat.le_of_ble_eq_true rfl) dX12_init_90 (fun q51 h52 H k53 eh52 hC => ?_)
  replace hw := hw q51 h52 k53 eh52
  refine W.widen (k := 11) (n := 2116) (Nat.le_of_ble_eq_true rfl) (Nat.le_of_ble_eq_true rfl) ?_
  obtain ⟨k54, hw⟩ := hw
  refine r_putFR (v := some q51) hx hb hts hown hnm hg hC fb_10_14 k54 (nv_a) (fv_a) mk_f_RX12_40 dX12_init_92 (fun h55 H locs eh55 hC => ?_)
  replace hw := hw h55 eh55
  refine lv_aload_n hx hb dX12_init_95 rfl (lo_at hl 0 rfl) ?_
  refine lv_bipush (v := 40) hx hb dX12_init_96 (by decide) ?_
  refine r_newI (N := 40) hx hb hts mk_arc_int hg hC (by decide) rfl (by decide) (Nat.le_of_ble_eq_true rfl) (Nat.le_of_ble_eq_true rfl) dX12_init_98 (fun q56 h57 H k58 eh57 hC => ?_)
  replace hw := hw q56 h57 k58 eh57
  refine W.widen (k := 12) (n := 2156) (Nat.le_of_ble_eq_true rfl) (Nat.le_of_ble_eq_true rfl) ?_
  obtain ⟨k59, hw⟩ := hw
  refine r_putFR (v := some q56) hx hb hts hown hnm hg hC fb_10_15 k59 (nv_a) (fv_a) mk_f_RX12_43 dX12_init_100 (fun h60 H locs eh60 hC => ?_)
  replace hw := hw h60 eh60
  refine lv_aload_n hx hb dX12_init_103 rfl (lo_at hl 0 rfl) ?_
  refine lv_bipush (v := 40) hx hb dX12_init_104 (by decide) ?_
  refine r_newI (N := 40) hx hb hts mk_arc_int hg hC (by decide) rfl (by decide) (Nat.le_of_ble_eq_true rfl) (Nat.le_of_ble_eq_true rfl) dX12_init_106 (fun q61 h62 H k63 eh62 hC => ?_)
  replace hw := hw q61 h62 k63 eh62
  refine W.widen (k := 13) (n := 2196) (Nat.le_of_ble_eq_true rfl) (Nat.le_of_ble_eq_true rfl) ?_
  obtain ⟨k64, hw⟩ := hw
  refine r_putFR (v := some q61) hx hb hts hown hnm hg hC fb_10_16 k64 (nv_a) (fv_a) mk_f_RX12_46 dX12_init_108 (fun h65 H locs eh65 hC => ?_)
  replace hw := hw h65 eh65
  refine lv_aload_n hx hb dX12_init_111 rfl (lo_at hl 0 rfl) ?_
  refine lv_sipush (v := 600) hx hb dX12_init_112 (by decide) ?_
  refine r_newI (N := 600) hx hb hts mk_arc_int hg hC (by decide) rfl (by decide) (Nat.le_of_ble_eq_true rfl) (Nat.le_of_ble_eq_true rfl) dX12_init_115 (fun q66 h67 H k68 eh67 hC => ?_)
  replace hw := hw q66 h67 k68 eh67
  refine W.widen (k := 14) (n := 2796) (Nat.le_of_ble_eq_true rfl) (Nat.le_of_ble_eq_true rfl) ?_
  obtain ⟨k69, hw⟩ := hw
  refine r_putFR (v := some q66) hx hb hts hown hnm hg hC fb_10_18 k69 (nv_a) (fv_a) mk_f_RX12_49 dX12_init_117 (fun h70 H locs eh70 hC => ?_)
  replace hw := hw h70 eh70
  refine lv_aload_n hx hb dX12_init_120 rfl (lo_at hl 0 rfl) ?_
  refine lv_bipush (v := 115) hx hb dX12_init_121 (by decide) ?_
  refine r_newI (N := 115) hx hb hts mk_arc_int hg hC (by decide) rfl (by decide) (Nat.le_of_ble_eq_true rfl) (Nat.le_of_ble_eq_true rfl) dX12_init_123 (fun q71 h72 H k73 eh72 hC => ?_)
  replace hw := hw q71 h72 k73 eh72
  refine W.widen (k := 15) (n := 2911) (Nat.le_of_ble_eq_true rfl) (Nat.le_of_ble_eq_true rfl) ?_
  refine lv_dup hx hb dX12_init_125 rfl ?_
  refine lv_iconst (v := 0) hx hb dX12_init_126 (by decide) ?_
  refine lv_bipush (v := 32) hx hb dX12_init_127 (by decide) ?_
  obtain ⟨k74, hw⟩ := hw
  refine r_iast hx hb hg hC k74.2.1 k74.2.2 dX12_init_129 (fun h75 H locs eh75 hC => ?_)
  replace hw := hw h75 eh75
  refine lv_dup hx hb dX12_init_130 rfl ?_
  refine lv_iconst (v := 1) hx hb dX12_init_131 (by decide) ?_
  refine lv_bipush (v := 99) hx hb dX12_init_132 (by decide) ?_
  obtain ⟨k76, hw⟩ := hw
  refine r_iast hx hb hg hC k76.2.1 k76.2.2 dX12_init_134 (fun h77 H locs eh77 hC => ?_)
  replace hw := hw h77 eh77
  refine lv_dup hx hb dX12_init_135 rfl ?_
  refine lv_iconst (v := 2) hx hb dX12_init_136 (by decide) ?_
  refine lv_bipush (v := 117) hx hb dX12_init_137 (by decide) ?_
  obtain ⟨k78, hw⟩ := hw
  refine r_iast hx hb hg hC k78.2.1 k78.2.2 dX12_init_139 (fun h79 H locs eh79 hC => ?_)
  replace hw := hw h79 eh79
  refine lv_dup hx hb dX12_init_140 rfl ?_
  refine lv_iconst (v := 3) hx hb dX12_init_141 (by decide) ?_
  refine lv_bipush (v := 116) hx hb dX12_init_142 (by decide) ?_
  obtain ⟨k80, hw⟩ := hw
  refine r_iast hx hb hg hC k80.2.1 k80.2.2 dX12_init_144 (fun h81 H locs eh81 hC => ?_)
  replace hw := hw h81 eh81
  refine lv_dup hx hb dX12_init_145 rfl ?_
  refine lv_iconst (v := 4) hx hb dX12_init_146 (by decide) ?_
  refine lv_bipush (v := 32) hx hb dX12_init_147 (by decide) ?_
  obtain ⟨k82, hw⟩ := hw
  refine r_iast hx hb hg hC k82.2.1 k82.2.2 dX12_init_149 (fun h83 H locs eh83 hC => ?_)
  replace hw := hw h83 eh83
  refine lv_dup hx hb dX12_init_150 rfl ?_
  refine lv_iconst (v := 5) hx hb dX12_init_151 (by decide) ?_
  refine lv_bipush (v := 119) hx hb dX12_init_152 (by decide) ?_
  obtain ⟨k84, hw⟩ := hw
  refine r_iast hx hb hg hC k84.2.1 k84.2.2 dX12_init_154 (fun h85 H locs eh85 hC => ?_)
  replace hw := hw h85 eh85
  refine lv_dup hx hb dX12_init_155 rfl ?_
  refine lv_bipush (v := 6) hx hb dX12_init_156 (by decide) ?_
  refine lv_bipush (v := 101) hx hb dX12_init_158 (by decide) ?_
  obtain ⟨k86, hw⟩ := hw
  refine r_iast hx hb hg hC k86.2.1 k86.2.2 dX12_init_160 (fun h87 H locs eh87 hC => ?_)
  replace hw := hw h87 eh87
  refine lv_dup hx hb dX12_init_161 rfl ?_
  refine lv_bipush (v := 7) hx hb dX12_init_162 (by decide) ?_
  refine lv_bipush (v := 97) hx hb dX12_init_164 (by decide) ?_
  obtain ⟨k88, hw⟩ := hw
  refine r_iast hx hb hg hC k88.2.1 k88.2.2 dX12_init_166 (fun h89 H locs eh89 hC => ?_)
  replace hw := hw h89 eh89
  refine lv_dup hx hb dX12_init_167 rfl ?_
  refine lv_bipush (v := 8) hx hb dX12_init_168 (by decide) ?_
  refine lv_bipush (v := 114) hx hb dX12_init_170 (by decide) ?_
  obtain ⟨k90, hw⟩ := hw
  refine r_iast hx hb hg hC k90.2.1 k90.2.2 dX12_init_172 (fun h91 H locs eh91 hC => ?_)
  replace hw := hw h91 eh91
  refine lv_dup hx hb dX12_init_173 rfl ?_
  refine lv_bipush (v := 9) hx hb dX12_init_174 (by decide) ?_
  refine lv_bipush (v := 32) hx hb dX12_init_176 (by decide) ?_
  obtain ⟨k92, hw⟩ := hw
  refine r_iast hx hb hg hC k92.2.1 k92.2.2 dX12_init_178 (fun h93 H locs eh93 hC => ?_)
  replace hw := hw h93 eh93
  refine lv_dup hx hb dX12_init_179 rfl ?_
  refine lv_bipush (v := 10) hx hb dX12_init_180 (by decide) ?_
  refine lv_bipush (v := 116) hx hb dX12_init_182 (by decide) ?_
  obtain ⟨k94, hw⟩ := hw
  refine r_iast hx hb hg hC k94.2.1 k94.2.2 dX12_init_184 (fun h95 H locs eh95 hC => ?_)
  replace hw := hw h95 eh95
  refine lv_dup hx hb dX12_init_185 rfl ?_
  refine lv_bipush (v := 11) hx hb dX12_init_186 (by decide) ?_
  refine lv_bipush (v := 97) hx hb dX12_init_188 (by decide) ?_
  obtain ⟨k96, hw⟩ := hw
  refine r_iast hx hb hg hC k96.2.1 k96.2.2 dX12_init_190 (fun h97 H locs eh97 hC => ?_)
  replace hw := hw h97 eh97
  refine lv_dup hx hb dX12_init_191 rfl ?_
  refine lv_bipush (v := 12) hx hb dX12_init_192 (by decide) ?_
  refine lv_bipush (v := 107) hx hb dX12_init_194 (by decide) ?_
  obtain ⟨k98, hw⟩ := hw
  refine r_iast hx hb hg hC k98.2.1 k98.2.2 dX12_init_196 (fun h99 H locs eh99 hC => ?_)
  replace hw := hw h99 eh99
  refine lv_dup hx hb dX12_init_197 rfl ?_
  refine lv_bipush (v := 13) hx hb dX12_init_198 (by decide) ?_
  refine lv_bipush (v := 101) hx hb dX12_init_200 (by decide) ?_
  obtain ⟨k100, hw⟩ := hw
  refine r_iast hx hb hg hC k100.2.1 k100.2.2 dX12_init_202 (fun h101 H locs eh101 hC => ?_)
  replace hw := hw h101 eh101
  refine lv_dup hx hb dX12_init_203 rfl ?_
  refine lv_bipush (v := 14) hx hb dX12_init_204 (by decide) ?_
  refine lv_bipush (v := 32) hx hb dX12_init_206 (by decide) ?_
  exact t_X12_init_J208 hM o (32 : Int32) (14 : Int32) q71 q71 o Q  h101 H locs ls hC (lo_sub hl [0] rfl) hw
