abbrev rm_X6_addHair : Room := { frames := 1, cells := 0, slots := 0, locals := 40 }
def wp_X6_addHair_J67 (x0 : Int32) (x1 : Int32) (r2 : Option Nat) (r3 : Option Nat) (x4 : Int32) (x5 : Int32) (x6 : Int32) (KH : Int32 → Hp → Prop) (K90 : Hp → Prop) (Q : Hp → Prop) (h : Hp) : Prop := okA h r2 1 x5 ∧ (∀ v7 : Int32, v7 = hpI h (ad r2) (x5).toNatClampNeg → (okA h r3 1 (x1 + x5) ∧ (∀ h9 : Hp, h9 = stI h (ad r3) (x1 + x5).toNatClampNeg (x6 + ((((v7).toUInt32 >>> ((x0).toUInt32 &&& Int32.toUInt32 31)).toInt32) &&& (1 : Int32))) → (∀ v10 : Int32, v10 = x5 + (1 : Int32) → (KH v10 h9)))))
def wp_X6_addHair_L9 (x0 : Int32) (x1 : Int32) (r2 : Option Nat) (r3 : Option Nat) (x4 : Int32) (K90 : Hp → Prop) (Q : Hp → Prop) : Nat → Int32 → Hp → Prop
  | 0, _, _ => False
  | n + 1, x5, h => (if (32 : Int32) ≤ x5 then (K90 h) else (okA h r3 1 (x1 + x5) ∧ (∀ v4 : Int32, v4 = hpI h (ad r3) (x1 + x5).toNatClampNeg → ((if x4 < 0 then (wp_X6_addHair_J67 x0 x1 r2 r3 x4 x5 v4 (wp_X6_addHair_L9 x0 x1 r2 r3 x4 K90 Q n) K90 Q h) else (okA h r3 1 (x4 + ((x5 - (1 : Int32)) &&& (31 : Int32))) ∧ (∀ v12 : Int32, v12 = hpI h (ad r3) (x4 + ((x5 - (1 : Int32)) &&& (31 : Int32))).toNatClampNeg → (∀ v13 : Int32, v13 = (if v4 < v12 then v12 else v4) → (okA h r3 1 (x4 + ((x5 + (1 : Int32)) &&& (31 : Int32))) ∧ (∀ v15 : Int32, v15 = hpI h (ad r3) (x4 + ((x5 + (1 : Int32)) &&& (31 : Int32))).toNatClampNeg → (∀ v16 : Int32, v16 = (if v13 < v15 then v15 else v13) → (wp_X6_addHair_J67 x0 x1 r2 r3 x4 x5 v16 (wp_X6_addHair_L9 x0 x1 r2 r3 x4 K90 Q n) K90 Q h))))))))))))
def wp_X6_addHair (x0 : Int32) (x1 : Int32) (r2 : Option Nat) (r3 : Option Nat) (h : Hp) (Q : Hp → Prop) : Prop := ∀ v1 : Int32, v1 = x1 - (32 : Int32) → (wp_X6_addHair_L9 x0 x1 r2 r3 v1 (fun (h17 : Hp) => Q h17) Q fuel (0 : Int32) h)
set_option maxHeartbeats 4000000 in
set_option maxRecDepth 100000 in
theorem t_X6_addHair_J67 {p : Program} {l : Launch} {e : Env} {s : State} {m : MethodId} {args : Array Value} {below : List Frame} {meth : Method} {c : Code} {G : GG} {base : Nat} (hM : Mx G base p s m args meth c cX6_addHair 7 none RX6 "addHair") (x0 : Int32) (x1 : Int32) (r2 : Option Nat) (r3 : Option Nat) (x4 : Int32) (x5 : Int32) (x6 : Int32) (KH : Int32 → Hp → Prop) (K90 : Hp → Prop) (Q : Hp → Prop) (hKH : ∀ (y5 : Int32) (h : Hp) (H : Heap) (locs : List Loc) (ls : Array Slot), Cx G base h s.heap H locs → lo_has ls 7 [(0, .int x0), (1, .int x1), (2, va_rf r2), (3, va_rf r3), (4, .int x4), (5, .int y5)] → KH y5 h → W p l e rm_X6_addHair s m args below meth c H locs 0 0 (MQ below (va_Qv Q (PU G base) (fun q => base ≤ q)) args s 0 0 (fun q => base ≤ q)) (F0 m 9 ls [])) (hK90 : ∀ (h : Hp) (H : Heap) (locs : List Loc) (ls : Array Slot), Cx G base h s.heap H locs → lo_has ls 7 [] → K90 h → W p l e rm_X6_addHair s m args below meth c H locs 0 0 (MQ below (va_Qv Q (PU G base) (fun q => base ≤ q)) args s 0 0 (fun q => base ≤ q)) (F0 m 90 ls [])) (h : Hp) (H : Heap) (locs : List Loc) (ls : Array Slot) : Cx G base h s.heap H locs → lo_has ls 7 [(0, .int x0), (1, .int x1), (2, va_rf r2), (3, va_rf r3), (4, .int x4), (5, .int x5), (6, .int x6)] → wp_X6_addHair_J67 x0 x1 r2 r3 x4 x5 x6 KH K90 Q h → W p l e rm_X6_addHair s m args below meth c H locs 0 0 (MQ below (va_Qv Q (PU G base) (fun q => base ≤ q)) args s 0 0 (fun q => base ≤ q)) (F0 m 67 ls []) := by
  intro hC hl hw
  unfold wp_X6_addHair_J67 at hw
  obtain ⟨hx, hb, hr, hml, hown, hts, hg, hs, hlk, hnm⟩ := id hM
  refine lo_aload_n (r := r3) hx hb dX6_addHair_67 rfl (lo_at hl 3 rfl) ?_
  refine lv_iload_n hx hb dX6_addHair_68 rfl (lo_at hl 1 rfl) ?_
  refine lv_iload hx hb dX6_addHair_69 (lo_at hl 5 rfl) ?_
  refine lv_iadd hx hb dX6_addHair_71 ?_
  refine lv_iload hx hb dX6_addHair_72 (lo_at hl 6 rfl) ?_
  refine lo_aload_n (r := r2) hx hb dX6_addHair_74 rfl (lo_at hl 2 rfl) ?_
  refine lv_iload hx hb dX6_addHair_75 (lo_at hl 5 rfl) ?_
  obtain ⟨k6, hw⟩ := hw
  refine rf_2 k6.1 ?_
  refine r_iald hx hb hg hC k6.2.1 k6.2.2 dX6_addHair_77 ?_
  refine lv_topi (fun v7 ev7 => ?_)
  replace hw := hw v7 ev7
  refine lv_iload_n hx hb dX6_addHair_78 rfl (lo_at hl 0 rfl) ?_
  refine lv_iushr hx hb dX6_addHair_79 (v := ((v7).toUInt32 >>> ((x0).toUInt32 &&& Int32.toUInt32 31)).toInt32) rfl ?_
  refine lv_iconst (v := 1) hx hb dX6_addHair_80 (by decide) ?_
  refine lv_iand hx hb dX6_addHair_81 ?_
  refine lv_iadd hx hb dX6_addHair_82 ?_
  obtain ⟨k8, hw⟩ := hw
  refine rf_3 k8.1 ?_
  refine r_iast hx hb hg hC k8.2.1 k8.2.2 dX6_addHair_83 (fun h9 H locs eh9 hC => ?_)
  replace hw := hw h9 eh9
  obtain ⟨v10, ev10⟩ : ∃ y : Int32, y = x5 + (1 : Int32) := ⟨_, rfl⟩
  replace hw := hw v10 ev10
  refine lo_iinc (v := v10) (lv' := [(5, .int v10), (0, .int x0), (1, .int x1), (2, va_rf r2), (3, va_rf r3), (4, .int x4), (6, .int x6)]) hx hb dX6_addHair_84 hl (k := 5) rfl (by rw [ev10]; rfl) (by decide) rfl (fun ls hl => ?_)
  refine lv_goto (tgt := 9) hx hb dX6_addHair_87 (by decide) ?_
  exact hKH v10 h9 H locs ls hC (lo_sub hl [1, 2, 3, 4, 5, 0] rfl) hw
set_option maxHeartbeats 4000000 in
set_option maxRecDepth 100000 in
theorem t_X6_addHair_L9 {p : Program} {l : Launch} {e : Env} {s : State} {m : MethodId} {args : Array Value} {below : List Frame} {meth : Method} {c : Code} {G : GG} {base : Nat} (hM : Mx G base p s m args meth c cX6_addHair 7 none RX6 "addHair") (x0 : Int32) (x1 : Int32) (r2 : Option Nat) (r3 : Option Nat) (x4 : Int32) (K90 : Hp → Prop) (Q : Hp → Prop) (hK90 : ∀ (h : Hp) (H : Heap) (locs : List Loc) (ls : Array Slot), Cx G base h s.heap H locs → lo_has ls 7 [] → K90 h → W p l e rm_X6_addHair s m args below meth c H locs 0 0 (MQ below (va_Qv Q (PU G base) (fun q => base ≤ q)) args s 0 0 (fun q => base ≤ q)) (F0 m 90 ls [])) : ∀ (n : Nat) (x5 : Int32) (h : Hp) (H : Heap) (locs : List Loc) (ls : Array Slot), Cx G base h s.heap H locs → lo_has ls 7 [(0, .int x0), (1, .int x1), (2, va_rf r2), (3, va_rf r3), (4, .int x4), (5, .int x5)] → wp_X6_addHair_L9 x0 x1 r2 r3 x4 K90 Q n x5 h → W p l e rm_X6_addHair s m args below meth c H locs 0 0 (MQ below (va_Qv Q (PU G base) (fun q => base ≤ q)) args s 0 0 (fun q => base ≤ q)) (F0 m 9 ls []) := by
  intro n
  induction n with
  | zero =>
    intro x5 h H locs ls hC hl hw
    rw [wp_X6_addHair_L9] at hw
    exact hw.elim
  | succ n ih =>
    intro x5 h H locs ls hC hl hw
    rw [wp_X6_addHair_L9] at hw
    obtain ⟨hx, hb, hr, hml, hown, hts, hg, hs, hlk, hnm⟩ := id hM
    refine lv_iload hx hb dX6_addHair_9 (lo_at hl 5 rfl) ?_
    refine lv_bipush (v := 32) hx hb dX6_addHair_11 (by decide) ?_
    refine lv_icmp_ge (tgt := 90) hx hb dX6_addHair_13 (by decide) (fun c2 => ?_) (fun c2 => ?_)
    ·
      replace hw := (if_pos c2).mp hw
      exact hK90  h H locs ls hC (lo_sub hl [] rfl) hw
    ·
      replace hw := (if_neg c2).mp hw
      refine lo_aload_n (r := r3) hx hb dX6_addHair_16 rfl (lo_at hl 3 rfl) ?_
      refine lv_iload_n hx hb dX6_addHair_17 rfl (lo_at hl 1 rfl) ?_
      refine lv_iload hx hb dX6_addHair_18 (lo_at hl 5 rfl) ?_
      refine lv_iadd hx hb dX6_addHair_20 ?_
      obtain ⟨k3, hw⟩ := hw
      refine rf_2 k3.1 ?_
      refine r_iald hx hb hg hC k3.2.1 k3.2.2 dX6_addHair_21 ?_
      refine lv_topi (fun v4 ev4 => ?_)
      replace hw := hw v4 ev4
      refine lo_istore (lv' := [(6, .int v4), (0, .int x0), (1, .int x1), (2, va_rf r2), (3, va_rf r3), (4, .int x4), (5, .int x5)]) hx hb dX6_addHair_22 hl (by decide) rfl (fun ls hl => ?_)
      refine lv_iload hx hb dX6_addHair_24 (lo_at hl 5 rfl) ?_
      refine lv_if_lt (tgt := 67) hx hb dX6_addHair_26 (by decide) (fun c5 => ?_) (fun c5 => ?_)
      ·
        replace hw := (if_pos c5).mp hw
        exact t_X6_addHair_J67 hM x0 x1 r2 r3 x4 x5 v4 (wp_X6_addHair_L9 x0 x1 r2 r3 x4 K90 Q n) K90 Q ih hK90 h H locs ls hC (lo_sub hl [1, 2, 3, 4, 5, 6, 0] rfl) hw
      ·
        replace hw := (if_neg c5).mp hw
        refine lv_iload hx hb dX6_addHair_29 (lo_at hl 0 rfl) ?_
        refine lo_aload_n (r := r3) hx hb dX6_addHair_31 rfl (lo_at hl 4 rfl) ?_
        refine lv_iload hx hb dX6_addHair_32 (lo_at hl 5 rfl) ?_
        refine lv_iload hx hb dX6_addHair_34 (lo_at hl 6 rfl) ?_
        refine lv_iconst (v := 1) hx hb dX6_addHair_36 (by decide) ?_
        refine lv_isub hx hb dX6_addHair_37 ?_
        refine lv_bipush (v := 31) hx hb dX6_addHair_38 (by decide) ?_
        refine lv_iand hx hb dX6_addHair_40 ?_
        refine lv_iadd hx hb dX6_addHair_41 ?_
        obtain ⟨k11, hw⟩ := hw
        refine rf_2 k11.1 ?_
        refine r_iald hx hb hg hC k11.2.1 k11.2.2 dX6_addHair_42 ?_
        refine lv_topi (fun v12 ev12 => ?_)
        replace hw := hw v12 ev12
        refine va_mmax hx hb (by rw [hml]; exact hl.1.1.symm) hown (hts _ mk_m_RX6_49) (hts _ mk_math_s_max) (hts _ mk_ini_math) (hts _ mk_math_c_max) (Nat.le_of_ble_eq_true rfl) (Nat.le_of_ble_eq_true rfl) (Nat.le_of_ble_eq_true rfl) (Nat.le_of_ble_eq_true rfl) dX6_addHair_43 ?_
        refine lv_topi (fun v13 ev13 => ?_)
        replace hw := hw v13 ev13
        refine lo_istore (lv' := [(6, .int v13), (0, .int x0), (1, .int x1), (2, va_rf r2), (3, va_rf r3), (4, .int x4), (5, .int x5)]) hx hb dX6_addHair_46 hl (by decide) rfl (fun ls hl => ?_)
        refine lv_iload hx hb dX6_addHair_48 (lo_at hl 0 rfl) ?_
        refine lo_aload_n (r := r3) hx hb dX6_addHair_50 rfl (lo_at hl 4 rfl) ?_
        refine lv_iload hx hb dX6_addHair_51 (lo_at hl 5 rfl) ?_
        refine lv_iload hx hb dX6_addHair_53 (lo_at hl 6 rfl) ?_
        refine lv_iconst (v := 1) hx hb dX6_addHair_55 (by decide) ?_
        refine lv_iadd hx hb dX6_addHair_56 ?_
        refine lv_bipush (v := 31) hx hb dX6_addHair_57 (by decide) ?_
        refine lv_iand hx hb dX6_addHair_59 ?_
        refine lv_iadd hx hb dX6_addHair_60 ?_
        obtain ⟨k14, hw⟩ := hw
        refine rf_2 k14.1 ?_
        refine r_iald hx hb hg hC k14.2.1 k14.2.2 dX6_addHair_61 ?_
        refine lv_topi (fun v15 ev15 => ?_)
        replace hw := hw v15 ev15
        refine va_mmax hx hb (by rw [hml]; exact hl.1.1.symm) hown (hts _ mk_m_RX6_49) (hts _ mk_math_s_max) (hts _ mk_ini_math) (hts _ mk_math_c_max) (Nat.le_of_ble_eq_true rfl) (Nat.le_of_ble_eq_true rfl) (Nat.le_of_ble_eq_true rfl) (Nat.le_of_ble_eq_true rfl) dX6_addHair_62 ?_
        refine lv_topi (fun v16 ev16 => ?_)
        replace hw := hw v16 ev16
        refine lo_istore (lv' := [(6, .int v16), (0, .int x0), (1, .int x1), (2, va_rf r2), (3, va_rf r3), (4, .int x4), (5, .int x5)]) hx hb dX6_addHair_65 hl (by decide) rfl (fun ls hl => ?_)
        exact t_X6_addHair_J67 hM x0 x1 r2 r3 x4 x5 v16 (wp_X6_addHair_L9 x0 x1 r2 r3 x4 K90 Q n) K90 Q ih hK90 h H locs ls hC (lo_sub hl [1, 2, 3, 4, 5, 6, 0] rfl) hw
set_option maxHeartbeats 4000000 in
set_option maxRecDepth 100000 in
theorem c_X6_addHair (l : Launch) (G : GG) (base : Nat) (x0 : Int32) (x1 : Int32) (r2 : Option Nat) (r3 : Option Nat) (h : Hp) (Q : Hp → Prop) (hw : wp_X6_addHair x0 x1 r2 r3 h Q) : Met l yX6_addHair (ww yX6_addHair cX6_addHair 7 none) rm_X6_addHair (va_Pc [.int x0, .int x1, va_rf r2, va_rf r3] (PU G base h)) (va_Qv Q (PU G base) (fun q => base ≤ q)) 0 0 (fun q => base ≤ q) := by
  refine met_of (own := RX6) (nm := "addHair") (by decide) rfl rfl (List.forall_mem_cons.mpr ⟨rfl, (List.forall_mem_cons.mpr ⟨rfl, (List.forall_mem_cons.mpr ⟨va_rf_cat _, (List.forall_mem_cons.mpr ⟨va_rf_cat _, (fun _ h => absurd h List.not_mem_nil)⟩)⟩)⟩)⟩) (Nat.le_of_ble_eq_true rfl) rfl ?_
  intro p e s m below meth c ls hM hC hl
  obtain ⟨hx, hb, hr, hml, hown, hts, hg, hs, hlk, hnm⟩ := id hM
  obtain ⟨args, hargs⟩ : ∃ a : Array Value, a = ([.int x0, .int x1, va_rf r2, va_rf r3] : List Value).toArray := ⟨_, rfl⟩
  rw [← hargs] at hM hts ⊢
  obtain ⟨H, hH⟩ : ∃ H : Heap, H = s.heap := ⟨_, rfl⟩
  obtain ⟨locs, hlocs⟩ : ∃ x : List Loc, x = [] := ⟨_, rfl⟩
  have hC : Cx G base h s.heap H locs := by rw [hH, hlocs]; exact hC
  show W p l e rm_X6_addHair s m args below meth c s.heap [] 0 0 (MQ below (va_Qv Q (PU G base) (fun q => base ≤ q)) args s 0 0 (fun q => base ≤ q)) (F0 m 0 ls [])
  rw [← hlocs]
  have hgoal : W p l e rm_X6_addHair s m args below meth c H locs 0 0 (MQ below (va_Qv Q (PU G base) (fun q => base ≤ q)) args s 0 0 (fun q => base ≤ q)) (F0 m 0 ls []) := ?_
  · rw [hH] at hgoal; exact hgoal
  clear hH hlocs
  unfold wp_X6_addHair at hw
  refine lv_iload_n hx hb dX6_addHair_0 rfl (lo_at hl 1 rfl) ?_
  refine lv_bipush (v := 32) hx hb dX6_addHair_1 (by decide) ?_
  refine lv_isub hx hb dX6_addHair_3 ?_
  refine lv_topi (fun v1 ev1 => ?_)
  replace hw := hw v1 ev1
  refine lo_istore (lv' := [(4, .int v1), (0, .int x0), (1, .int x1), (2, va_rf r2), (3, va_rf r3)]) hx hb dX6_addHair_4 hl (by decide) rfl (fun ls hl => ?_)
  refine lv_iconst (v := 0) hx hb dX6_addHair_6 (by decide) ?_
  refine lo_istore (lv' := [(5, .int ((0 : Int32))), (4, .int v1), (0, .int x0), (1, .int x1), (2, va_rf r2), (3, va_rf r3)]) hx hb dX6_addHair_7 hl (by decide) rfl (fun ls hl => ?_)
  refine t_X6_addHair_L9 hM x0 x1 r2 r3 v1 _ Q ?_ fuel (0 : Int32) h H locs ls hC (lo_sub hl [2, 3, 4, 5, 1, 0] rfl) hw
  intro  h17 H locs ls hC hl hw
  exact ret_v hM hC hw dX6_addHair_90
abbrev rm_X7_init : Room := { frames := 1, cells := 6, slots := 696, locals := 20 }
def wp_X7_init (o : Nat) (h : Hp) (Q : Hp → Prop) : Prop := ∀ (q1 : Nat) (h2 : Hp), (hpK h q1).1 = 0 → h2 = alc h q1 1 16 → (((hpK h2 o).1 = 20 + 5) ∧ (∀ h5 : Hp, h5 = stR h2 o 0 (some q1) → (∀ (q6 : Nat) (h7 : Hp), (hpK h5 q6).1 = 0 → h7 = alc h5 q6 1 16 → (((hpK h7 o).1 = 20 + 5) ∧ (∀ h10 : Hp, h10 = stR h7 o 1 (some q6) → (∀ (q11 : Nat) (h12 : Hp), (hpK h10 q11).1 = 0 → h12 = alc h10 q11 1 16 → (((hpK h12 o).1 = 20 + 5) ∧ (∀ h15 : Hp, h15 = stR h12 o 2 (some q11) → (∀ (q16 : Nat) (h17 : Hp), (hpK h15 q16).1 = 0 → h17 = alc h15 q16 1 16 → (((hpK h17 o).1 = 20 + 5) ∧ (∀ h20 : Hp, h20 = stR h17 o 3 (some q16) → (∀ (q21 : Nat) (h22 : Hp), (hpK h20 q21).1 = 0 → h22 = alc h20 q21 1 600 → (((hpK h22 o).1 = 20 + 5) ∧ (∀ h25 : Hp, h25 = stR h22 o 4 (some q21) → (∀ (q26 : Nat) (h27 : Hp), (hpK h25 q26).1 = 0 → h27 = alc h25 q26 1 32 → (((hpK h27 o).1 = 20 + 5) ∧ (∀ h30 : Hp, h30 = stR h27 o 5 (some q26) → (Q h30))))))))))))))))))
set_option maxHeartbeats 4000000 in
set_option maxRecDepth 100000 in
theorem c_X7_init (l : Launch) (G : GG) (base : Nat) (o : Nat) (h : Hp) (Q : Hp → Prop) (hw : wp_X7_init o h Q) : Met l yX7_init (ww yX7_init cX7_init 1 none) rm_X7_init (va_Pc [.ref o] (PU G base h)) (va_Qv Q (PU G base) (fun q => base ≤ q)) 6 696 (fun q => base ≤ q) := by
  refine met_of (own := RX7) (nm := "<init>") (by decide) rfl rfl (List.forall_mem_cons.mpr ⟨rfl, (fun _ h => absurd h List.not_mem_nil)⟩) (Nat.le_of_ble_eq_true rfl) rfl ?_
  intro p e s m below meth c ls hM hC hl
  obtain ⟨hx, hb, hr, hml, hown, hts, hg, hs, hlk, hnm⟩ := id hM
  obtain ⟨args, hargs⟩ : ∃ a : Array Value, a = ([.ref o] : List Value).toArray := ⟨_, rfl⟩
  rw [← hargs] at hM hts ⊢
  obtain ⟨H, hH⟩ : ∃ H : Heap, H = s.heap := ⟨_, rfl⟩
  obtain ⟨locs, hlocs⟩ : ∃ x : List Loc, x = [] := ⟨_, rfl⟩
  have hC : Cx G base h s.heap H locs := by rw [hH, hlocs]; exact hC
  show W p l e rm_X7_init s m args below meth c s.heap [] 0 0 (MQ below (va_Qv Q (PU G base) (fun q => base ≤ q)) args s 6 696 (fun q => base ≤ q)) (F0 m 0 ls [])
  rw [← hlocs]
  have hgoal : W p l e rm_X7_init s m args below meth c H locs 0 0 (MQ below (va_Qv Q (PU G base) (fun q => base ≤ q)) args s 6 696 (fun q => base ≤ q)) (F0 m 0 ls []) := ?_
  · rw [hH] at hgoal; exact hgoal
  clear hH hlocs
  unfold wp_X7_init at hw
  refine lv_aload_n hx hb dX7_init_0 rfl (lo_at hl 0 rfl) ?_
  refine r_oi hx hb hown (hts _ mk_m_RX7_3) (hts _ mk_oi_i) (hts _ mk_oi_c) (by rw [hml]; exact hl.1.1) dX7_init_1 (Nat.le_of_ble_eq_true rfl) (Nat.le_of_ble_eq_true rfl) ?_
  refine lv_aload_n hx hb dX7_init_4 rfl (lo_at hl 0 rfl) ?_
  refine lv_bipush (v := 16) hx hb dX7_init_5 (by decide) ?_
  refine r_newI (N := 16) hx hb hts mk_arc_int hg hC (by decide) rfl (by decide) (Nat.le_of_ble_eq_true rfl) (Nat.le_of_ble_eq_true rfl) dX7_init_7 (fun q1 h2 H k3 eh2 hC => ?_)
  replace hw := hw q1 h2 k3 eh2
  refine W.widen (k := 1) (n := 16) (Nat.le_of_ble_eq_true rfl) (Nat.le_of_ble_eq_true rfl) ?_
  obtain ⟨k4, hw⟩ := hw
  refine r_putFR (v := some q1) hx hb hts hown hnm hg hC fb_5_0 k4 (nv_a) (fv_a) mk_f_RX7_9 dX7_init_9 (fun h5 H locs eh5 hC => ?_)
  replace hw := hw h5 eh5
  refine lv_aload_n hx hb dX7_init_12 rfl (lo_at hl 0 rfl) ?_
  refine lv_bipush (v := 16) hx hb dX7_init_13 (by decide) ?_
  refine r_newI (N := 16) hx hb hts mk_arc_int hg hC (by decide) rfl (by decide) (Nat.le_of_ble_eq_true rfl) (Nat.le_of_ble_eq_true rfl) dX7_init_15 (fun q6 h7 H k8 eh7 hC => ?_)
  replace hw := hw q6 h7 k8 eh7
  refine W.widen (k := 2) (n := 32) (Nat.le_of_ble_eq_true rfl) (Nat.le_of_ble_eq_true rfl) ?_
  obtain ⟨k9, hw⟩ := hw
  refine r_putFR (v := some q6) hx hb hts hown hnm hg hC fb_5_1 k9 (nv_a) (fv_a) mk_f_RX7_15 dX7_init_17 (fun h10 H locs eh10 hC => ?_)
  replace hw := hw h10 eh10
  refine lv_aload_n hx hb dX7_init_20 rfl (lo_at hl 0 rfl) ?_
  refine lv_bipush (v := 16) hx hb dX7_init_21 (by decide) ?_
  refine r_newI (N := 16) hx hb hts mk_arc_int hg hC (by decide) rfl (by decide) (Nat.le_of_ble_eq_true rfl) (Nat.le_of_ble_eq_true rfl) dX7_init_23 (fun q11 h12 H k13 eh12 hC => ?_)
  replace hw := hw q11 h12 k13 eh12
  refine W.widen (k := 3) (n := 48) (Nat.le_of_ble_eq_true rfl) (Nat.le_of_ble_eq_true rfl) ?_
  obtain ⟨k14, hw⟩ := hw
  refine r_putFR (v := some q11) hx hb hts hown hnm hg hC fb_5_2 k14 (nv_a) (fv_a) mk_f_RX7_18 dX7_init_25 (fun h15 H locs eh15 hC => ?_)
  replace hw := hw h15 eh15
  refine lv_aload_n hx hb dX7_init_28 rfl (lo_at hl 0 rfl) ?_
  refine lv_bipush (v := 16) hx hb dX7_init_29 (by decide) ?_
  refine r_newI (N := 16) hx hb hts mk_arc_int hg hC (by decide) rfl (by decide) (Nat.le_of_ble_eq_true rfl) (Nat.le_of_ble_eq_true rfl) dX7_init_31 (fun q16 h17 H k18 eh17 hC => ?_)
  replace hw := hw q16 h17 k18 eh17
  refine W.widen (k := 4) (n := 64) (Nat.le_of_ble_eq_true rfl) (Nat.le_of_ble_eq_true rfl) ?_
  obtain ⟨k19, hw⟩ := hw
  refine r_putFR (v := some q16) hx hb hts hown hnm hg hC fb_5_3 k19 (nv_a) (fv_a) mk_f_RX7_21 dX7_init_33 (fun h20 H locs eh20 hC => ?_)
  replace hw := hw h20 eh20
  refine lv_aload_n hx hb dX7_init_36 rfl (lo_at hl 0 rfl) ?_
  refine lv_sipush (v := 600) hx hb dX7_init_37 (by decide) ?_
  refine r_newI (N := 600) hx hb hts mk_arc_int hg hC (by decide) rfl (by decide) (Nat.le_of_ble_eq_true rfl) (Nat.le_of_ble_eq_true rfl) dX7_init_40 (fun q21 h22 H k23 eh22 hC => ?_)
  replace hw := hw q21 h22 k23 eh22
  refine W.widen (k := 5) (n := 664) (Nat.le_of_ble_eq_true rfl) (Nat.le_of_ble_eq_true rfl) ?_
  obtain ⟨k24, hw⟩ := hw
  refine r_putFR (v := some q21) hx hb hts hown hnm hg hC fb_5_4 k24 (nv_a) (fv_a) mk_f_RX7_24 dX7_init_42 (fun h25 H locs eh25 hC => ?_)
  replace hw := hw h25 eh25
  refine lv_aload_n hx hb dX7_init_45 rfl (lo_at hl 0 rfl) ?_
  refine lv_bipush (v := 32) hx hb dX7_init_46 (by decide) ?_
  refine r_newI (N := 32) hx hb hts mk_arc_int hg hC (by decide) rfl (by decide) (Nat.le_of_ble_eq_true rfl) (Nat.le_of_ble_eq_true rfl) dX7_init_48 (fun q26 h27 H k28 eh27 hC => ?_)
  replace hw := hw q26 h27 k28 eh27
  refine W.widen (k := 6) (n := 696) (Nat.le_of_ble_eq_true rfl) (Nat.le_of_ble_eq_true rfl) ?_
  obtain ⟨k29, hw⟩ := hw
  refine r_putFR (v := some q26) hx hb hts hown hnm hg hC fb_5_5 k29 (nv_a) (fv_a) mk_f_RX7_27 dX7_init_50 (fun h30 H locs eh30 hC => ?_)
  replace hw := hw h30 eh30
  exact ret_v hM hC hw dX7_init_53
abbrev rm_X7_clear : Room := { frames := 0, cells := 0, slots := 0, locals := 0 }
def wp_X7_clear (o : Nat) (h : Hp) (Q : Hp → Prop) : Prop := ((hpK h o).1 = 20 + 5) ∧ (∀ h2 : Hp, h2 = stI h o 6 (0 : Int32) → (((hpK h2 o).1 = 20 + 5) ∧ (∀ h4 : Hp, h4 = stI h2 o 7 (0 : Int32) → (((hpK h4 o).1 = 20 + 5) ∧ (∀ h6 : Hp, h6 = stI h4 o 8 (0 : Int32) → (Q h6))))))
set_option maxHeartbeats 4000000 in
set_option maxRecDepth 100000 in
theorem c_X7_clear (l : Launch) (G : GG) (base : Nat) (o : Nat) (h : Hp) (Q : Hp → Prop) (hw : wp_X7_clear o h Q) : Met l yX7_clear (ww yX7_clear cX7_clear 1 none) rm_X7_clear (va_Pc [.ref o] (PU G base h)) (va_Qv Q (PU G base) (fun q => base ≤ q)) 0 0 (fun q => base ≤ q) := by
  refine met_of (own := RX7) (nm := "clear") (by decide) rfl rfl (List.forall_mem_cons.mpr ⟨rfl, (fun _ h => absurd h List.not_mem_nil)⟩) (Nat.le_of_ble_eq_true rfl) rfl ?_
  intro p e s m below meth c ls hM hC hl
  obtain ⟨hx, hb, hr, hml, hown, hts, hg, hs, hlk, hnm⟩ := id hM
  obtain ⟨args, hargs⟩ : ∃ a : Array Value, a = ([.ref o] : List Value).toArray := ⟨_, rfl⟩
  rw [← hargs] at hM hts ⊢
  obtain ⟨H, hH⟩ : ∃ H : Heap, H = s.heap := ⟨_, rfl⟩
  obtain ⟨locs, hlocs⟩ : ∃ x : List Loc, x = [] := ⟨_, rfl⟩
  have hC : Cx G base h s.heap H locs := by rw [hH, hlocs]; exact hC
  show W p l e rm_X7_clear s m args below meth c s.heap [] 0 0 (MQ below (va_Qv Q (PU G base) (fun q => base ≤ q)) args s 0 0 (fun q => base ≤ q)) (F0 m 0 ls [])
  rw [← hlocs]
  have hgoal : W p l e rm_X7_clear s m args below meth c H locs 0 0 (MQ below (va_Qv Q (PU G base) (fun q => base ≤ q)) args s 0 0 (fun q => base ≤ q)) (F0 m 0 ls []) := ?_
  · rw [hH] at hgoal; exact hgoal
  clear hH hlocs
  unfold wp_X7_clear at hw
  refine lv_aload_n hx hb dX7_clear_0 rfl (lo_at hl 0 rfl) ?_
  refine lv_iconst (v := 0) hx hb dX7_clear_1 (by decide) ?_
  obtain ⟨k1, hw⟩ := hw
  refine r_putI hx hb hts hown hg hC fb_5_6 k1 rfl rfl mk_f_RX7_30 dX7_clear_2 (fun h2 H locs eh2 hC => ?_)
  replace hw := hw h2 eh2
  refine lv_aload_n hx hb dX7_clear_5 rfl (lo_at hl 0 rfl) ?_
  refine lv_iconst (v := 0) hx hb dX7_clear_6 (by decide) ?_
  obtain ⟨k3, hw⟩ := hw
  refine r_putI hx hb hts hown hg hC fb_5_7 k3 rfl rfl mk_f_RX7_34 dX7_clear_7 (fun h4 H locs eh4 hC => ?_)
  replace hw := hw h4 eh4
  refine lv_aload_n hx hb dX7_clear_10 rfl (lo_at hl 0 rfl) ?_
  refine lv_iconst (v := 0) hx hb dX7_clear_11 (by decide) ?_
  obtain ⟨k5, hw⟩ := hw
  refine r_putI hx hb hts hown hg hC fb_5_8 k5 rfl rfl mk_f_RX7_37 dX7_clear_12 (fun h6 H locs eh6 hC => ?_)
  replace hw := hw h6 eh6
  exact ret_v hM hC hw dX7_clear_15
abbrev rm_X7_isFull : Room := { frames := 0, cells := 0, slots := 0, locals := 0 }
def wp_X7_isFull (o : Nat) (h : Hp) (Q : Int32 → Hp → Prop) : Prop := ((hpK h o).1 = 20 + 5) ∧ ((if (hpI h o 7) < (16 : Int32) then (Q (0 : Int32) h) else (Q (1 : Int32) h)))
set_option maxHeartbeats 4000000 in
set_option maxRecDepth 100000 in
theorem c_X7_isFull (l : Launch) (G : GG) (base : Nat) (o : Nat) (h : Hp) (Q : Int32 → Hp → Prop) (hw : wp_X7_isFull o h Q) : Met l yX7_isFull (ww yX7_isFull cX7_isFull 1 (some .boolean)) rm_X7_isFull (va_Pc [.ref o] (PU G base h)) (va_Qi Q (PU G base) (fun q => base ≤ q)) 0 0 (fun q => base ≤ q) := by
  refine met_of (own := RX7) (nm := "isFull") (by decide) rfl rfl (List.forall_mem_cons.mpr ⟨rfl, (fun _ h => absurd h List.not_mem_nil)⟩) (Nat.le_of_ble_eq_true rfl) rfl ?_
  intro p e s m below meth c ls hM hC hl
  obtain ⟨hx, hb, hr, hml, hown, hts, hg, hs, hlk, hnm⟩ := id hM
  obtain ⟨args, hargs⟩ : ∃ a : Array Value, a = ([.ref o] : List Value).toArray := ⟨_, rfl⟩
  rw [← hargs] at hM hts ⊢
  obtain ⟨H, hH⟩ : ∃ H : Heap, H = s.heap := ⟨_, rfl⟩
  obtain ⟨locs, hlocs⟩ : ∃ x : List Loc, x = [] := ⟨_, rfl⟩
  have hC : Cx G base h s.heap H locs := by rw [hH, hlocs]; exact hC
  show W p l e rm_X7_isFull s m args below meth c s.heap [] 0 0 (MQ below (va_Qi Q (PU G base) (fun q => base ≤ q)) args s 0 0 (fun q => base ≤ q)) (F0 m 0 ls [])
  rw [← hlocs]
  have hgoal : W p l e rm_X7_isFull s m args below meth c H locs 0 0 (MQ below (va_Qi Q (PU G base) (fun q => base ≤ q)) args s 0 0 (fun q => base ≤ q)) (F0 m 0 ls []) := ?_
  · rw [hH] at hgoal; exact hgoal
  clear hH hlocs
  unfold wp_X7_isFull at hw
  refine lv_aload_n hx hb dX7_isFull_0 rfl (lo_at hl 0 rfl) ?_
  obtain ⟨k1, hw⟩ := hw
  refine r_getI hx hb hts hown hg hC fb_5_7 k1 mk_f_RX7_34 dX7_isFull_1 ?_
  refine lv_bipush (v := 16) hx hb dX7_isFull_4 (by decide) ?_
  refine lv_icmp_lt (tgt := 13) hx hb dX7_isFull_6 (by decide) (fun c2 => ?_) (fun c2 => ?_)
  ·
    replace hw := (if_pos c2).mp hw
    refine lv_iconst (v := 0) hx hb dX7_isFull_13 (by decide) ?_
    exact ret_z hM hC rfl hw dX7_isFull_14
  ·
    replace hw := (if_neg c2).mp hw
    refine lv_iconst (v := 1) hx hb dX7_isFull_9 (by decide) ?_
    refine lv_goto (tgt := 14) hx hb dX7_isFull_10 (by decide) ?_
    exact ret_z hM hC rfl hw dX7_isFull_14
abbrev rm_X7_beginLine : Room := { frames := 1, cells := 0, slots := 0, locals := 20 }
def wp_X7_beginLine (o : Nat) (x1 : Int32) (h : Hp) (Q : Hp → Prop) : Prop := ((hpK h o).1 = 20 + 5) ∧ (wp_X7_isFull o h (fun (z3 : Int32) (h2 : Hp) => (if z3 = 0 then (((hpK h2 o).1 = 20 + 5) ∧ (okA h2 (hpR h2 o 0) 1 (hpI h2 o 7) ∧ (∀ h7 : Hp, h7 = stI h2 (ad (hpR h2 o 0)) (hpI h2 o 7).toNatClampNeg x1 → (((hpK h7 o).1 = 20 + 5) ∧ (okA h7 (hpR h7 o 1) 1 (hpI h7 o 7) ∧ (∀ h10 : Hp, h10 = stI h7 (ad (hpR h7 o 1)) (hpI h7 o 7).toNatClampNeg (hpI h7 o 6) → (((hpK h10 o).1 = 20 + 5) ∧ (okA h10 (hpR h10 o 2) 1 (hpI h10 o 7) ∧ (∀ h13 : Hp, h13 = stI h10 (ad (hpR h10 o 2)) (hpI h10 o 7).toNatClampNeg (hpI h10 o 6) → (Q h13)))))))))) else (Q h2))))
set_option maxHeartbeats 4000000 in
set_option maxRecDepth 100000 in
theorem c_X7_beginLine (l : Launch) (G : GG) (base : Nat) (o : Nat) (x1 : Int32) (h : Hp) (Q : Hp → Prop) (hw : wp_X7_beginLine o x1 h Q) : Met l yX7_beginLine (ww yX7_beginLine cX7_beginLine 2 none) rm_X7_beginLine (va_Pc [.ref o, .int x1] (PU G base h)) (va_Qv Q (PU G base) (fun q => base ≤ q)) 0 0 (fun q => base ≤ q) := by
  refine met_of (own := RX7) (nm := "beginLine") (by decide) rfl rfl (List.forall_mem_cons.mpr ⟨rfl, (List.forall_mem_cons.mpr ⟨rfl, (fun _ h => absurd h List.not_mem_nil)⟩)⟩) (Nat.le_of_ble_eq_true rfl) rfl ?_
  intro p e s m below meth c ls hM hC hl
  obtain ⟨hx, hb, hr, hml, hown, hts, hg, hs, hlk, hnm⟩ := id hM
  obtain ⟨args, hargs⟩ : ∃ a : Array Value, a = ([.ref o, .int x1] : List Value).toArray := ⟨_, rfl⟩
  rw [← hargs] at hM hts ⊢
  obtain ⟨H, hH⟩ : ∃ H : Heap, H = s.heap := ⟨_, rfl⟩
  obtain ⟨locs, hlocs⟩ : ∃ x : List Loc, x = [] := ⟨_, rfl⟩
  have hC : Cx G base h s.heap H locs := by rw [hH, hlocs]; exact hC
  show W p l e rm_X7_beginLine s m args below meth c s.heap [] 0 0 (MQ below (va_Qv Q (PU G base) (fun q => base ≤ q)) args s 0 0 (fun q => base ≤ q)) (F0 m 0 ls [])
  rw [← hlocs]
  have hgoal : W p l e rm_X7_beginLine s m args below meth c H locs 0 0 (MQ below (va_Qv Q (PU G base) (fun q => base ≤ q)) args s 0 0 (fun q => base ≤ q)) (F0 m 0 ls []) := ?_
  · rw [hH] at hgoal; exact hgoal
  clear hH hlocs
  unfold wp_X7_beginLine at hw
  refine lv_aload_n hx hb dX7_beginLine_0 rfl (lo_at hl 0 rfl) ?_
  obtain ⟨k1, hw⟩ := hw
  refine res_i hC (run_V (As := []) (rest := []) hM hC hl.1.1 kv_RX7_41 (c_X7_isFull l G base o h _ hw) (hc_5) k1 rfl rfl rfl ⟨Nat.le_of_ble_eq_true rfl, Nat.le_of_ble_eq_true rfl⟩ (Nat.le_of_ble_eq_true rfl) ⟨Nat.le_of_ble_eq_true rfl, Nat.le_of_ble_eq_true rfl⟩ dX7_beginLine_1) (fun z3 h2 H locs hw hC => ?_)
  refine lv_if_ne (tgt := 43) hx hb dX7_beginLine_4 (by decide) (fun c4 => ?_) (fun c4 => ?_)
  ·
    replace hw := (if_neg c4).mp hw
    exact ret_v hM hC hw dX7_beginLine_43
  ·
    replace hw := (if_pos c4).mp hw
    refine lv_aload_n hx hb dX7_beginLine_7 rfl (lo_at hl 0 rfl) ?_
    obtain ⟨k5, hw⟩ := hw
    refine r_getR hx hb hts hown hg hC fb_5_0 k5 mk_f_RX7_9 dX7_beginLine_8 ?_
    refine lv_aload_n hx hb dX7_beginLine_11 rfl (lo_at hl 0 rfl) ?_
    refine r_getI hx hb hts hown hg hC fb_5_7 k5 mk_f_RX7_34 dX7_beginLine_12 ?_
    refine lv_iload_n hx hb dX7_beginLine_15 rfl (lo_at hl 1 rfl) ?_
    obtain ⟨k6, hw⟩ := hw
    refine rf_3 k6.1 ?_
    refine r_iast hx hb hg hC k6.2.1 k6.2.2 dX7_beginLine_16 (fun h7 H locs eh7 hC => ?_)
    replace hw := hw h7 eh7
    refine lv_aload_n hx hb dX7_beginLine_17 rfl (lo_at hl 0 rfl) ?_
    obtain ⟨k8, hw⟩ := hw
    refine r_getR hx hb hts hown hg hC fb_5_1 k8 mk_f_RX7_15 dX7_beginLine_18 ?_
    refine lv_aload_n hx hb dX7_beginLine_21 rfl (lo_at hl 0 rfl) ?_
    refine r_getI hx hb hts hown hg hC fb_5_7 k8 mk_f_RX7_34 dX7_beginLine_22 ?_
    refine lv_aload_n hx hb dX7_beginLine_25 rfl (lo_at hl 0 rfl) ?_
    refine r_getI hx hb hts hown hg hC fb_5_6 k8 mk_f_RX7_30 dX7_beginLine_26 ?_
    obtain ⟨k9, hw⟩ := hw
    refine rf_3 k9.1 ?_
    refine r_iast hx hb hg hC k9.2.1 k9.2.2 dX7_beginLine_29 (fun h10 H locs eh10 hC => ?_)
    replace hw := hw h10 eh10
    refine lv_aload_n hx hb dX7_beginLine_30 rfl (lo_at hl 0 rfl) ?_
    obtain ⟨k11, hw⟩ := hw
    refine r_getR hx hb hts hown hg hC fb_5_2 k11 mk_f_RX7_18 dX7_beginLine_31 ?_
    refine lv_aload_n hx hb dX7_beginLine_34 rfl (lo_at hl 0 rfl) ?_
    refine r_getI hx hb hts hown hg hC fb_5_7 k11 mk_f_RX7_34 dX7_beginLine_35 ?_
    refine lv_aload_n hx hb dX7_beginLine_38 rfl (lo_at hl 0 rfl) ?_
    refine r_getI hx hb hts hown hg hC fb_5_6 k11 mk_f_RX7_30 dX7_beginLine_39 ?_
    obtain ⟨k12, hw⟩ := hw
    refine rf_3 k12.1 ?_
    refine r_iast hx hb hg hC k12.2.1 k12.2.2 dX7_beginLine_42 (fun h13 H locs eh13 hC => ?_)
    replace hw := hw h13 eh13
    exact ret_v hM hC hw dX7_beginLine_43
abbrev rm_X7_beginClaim : Room := { frames := 1, cells := 0, slots := 0, locals := 20 }
def wp_X7_beginClaim (o : Nat) (h : Hp) (Q : Hp → Prop) : Prop := ((hpK h o).1 = 20 + 5) ∧ (wp_X7_isFull o h (fun (z3 : Int32) (h2 : Hp) => (if z3 = 0 then (((hpK h2 o).1 = 20 + 5) ∧ (okA h2 (hpR h2 o 2) 1 (hpI h2 o 7) ∧ (∀ h7 : Hp, h7 = stI h2 (ad (hpR h2 o 2)) (hpI h2 o 7).toNatClampNeg (hpI h2 o 6) → (Q h7)))) else (Q h2))))
set_option maxHeartbeats 4000000 in
set_option maxRecDepth 100000 in
theorem c_X7_beginClaim (l : Launch) (G : GG) (base : Nat) (o : Nat) (h : Hp) (Q : Hp → Prop) (hw : wp_X7_beginClaim o h Q) : Met l yX7_beginClaim (ww yX7_beginClaim cX7_beginClaim 1 none) rm_X7_beginClaim (va_Pc [.ref o] (PU G base h)) (va_Qv Q (PU G base) (fun q => base ≤ q)) 0 0 (fun q => base ≤ q) := by
  refine met_of (own := RX7) (nm := "beginClaim") (by decide) rfl rfl (List.forall_mem_cons.mpr ⟨rfl, (fun _ h => absurd h List.not_mem_nil)⟩) (Nat.le_of_ble_eq_true rfl) rfl ?_
  intro p e s m below meth c ls hM hC hl
  obtain ⟨hx, hb, hr, hml, hown, hts, hg, hs, hlk, hnm⟩ := id hM
  obtain ⟨args, hargs⟩ : ∃ a : Array Value, a = ([.ref o] : List Value).toArray := ⟨_, rfl⟩
  rw [← hargs] at hM hts ⊢
  obtain ⟨H, hH⟩ : ∃ H : Heap, H = s.heap := ⟨_, rfl⟩
  obtain ⟨locs, hlocs⟩ : ∃ x : List Loc, x = [] := ⟨_, rfl⟩
  have hC : Cx G base h s.heap H locs := by rw [hH, hlocs]; exact hC
  show W p l e rm_X7_beginClaim s m args below meth c s.heap [] 0 0 (MQ below (va_Qv Q (PU G base) (fun q => base ≤ q)) args s 0 0 (fun q => base ≤ q)) (F0 m 0 ls [])
  rw [← hlocs]
  have hgoal : W p l e rm_X7_beginClaim s m args below meth c H locs 0 0 (MQ below (va_Qv Q (PU G base) (fun q => base ≤ q)) args s 0 0 (fun q => base ≤ q)) (F0 m 0 ls []) := ?_
  · rw [hH] at hgoal; exact hgoal
  clear hH hlocs
  unfold wp_X7_beginClaim at hw
  refine lv_aload_n hx hb dX7_beginClaim_0 rfl (lo_at hl 0 rfl) ?_
  obtain ⟨k1, hw⟩ := hw
  refine res_i hC (run_V (As := []) (rest := []) hM hC hl.1.1 kv_RX7_41 (c_X7_isFull l G base o h _ hw) (hc_5) k1 rfl rfl rfl ⟨Nat.le_of_ble_eq_true rfl, Nat.le_of_ble_eq_true rfl⟩ (Nat.le_of_ble_eq_true rfl) ⟨Nat.le_of_ble_eq_true rfl, Nat.le_of_ble_eq_true rfl⟩ dX7_beginClaim_1) (fun z3 h2 H locs hw hC => ?_)
  refine lv_if_ne (tgt := 20) hx hb dX7_beginClaim_4 (by decide) (fun c4 => ?_) (fun c4 => ?_)
  ·
    replace hw := (if_neg c4).mp hw
    exact ret_v hM hC hw dX7_beginClaim_20
  ·
    replace hw := (if_pos c4).mp hw
    refine lv_aload_n hx hb dX7_beginClaim_7 rfl (lo_at hl 0 rfl) ?_
    obtain ⟨k5, hw⟩ := hw
    refine r_getR hx hb hts hown hg hC fb_5_2 k5 mk_f_RX7_18 dX7_beginClaim_8 ?_
    refine lv_aload_n hx hb dX7_beginClaim_11 rfl (lo_at hl 0 rfl) ?_
    refine r_getI hx hb hts hown hg hC fb_5_7 k5 mk_f_RX7_34 dX7_beginClaim_12 ?_
    refine lv_aload_n hx hb dX7_beginClaim_15 rfl (lo_at hl 0 rfl) ?_
    refine r_getI hx hb hts hown hg hC fb_5_6 k5 mk_f_RX7_30 dX7_beginClaim_16 ?_
    obtain ⟨k6, hw⟩ := hw
    refine rf_3 k6.1 ?_
    refine r_iast hx hb hg hC k6.2.1 k6.2.2 dX7_beginClaim_19 (fun h7 H locs eh7 hC => ?_)
    replace hw := hw h7 eh7
    exact ret_v hM hC hw dX7_beginClaim_20
abbrev rm_X7_finishLine : Room := { frames := 1, cells := 0, slots := 0, locals := 20 }
def wp_X7_finishLine (o : Nat) (h : Hp) (Q : Hp → Prop) : Prop := ((hpK h o).1 = 20 + 5) ∧ (wp_X7_isFull o h (fun (z3 : Int32) (h2 : Hp) => (if z3 = 0 then (((hpK h2 o).1 = 20 + 5) ∧ (okA h2 (hpR h2 o 3) 1 (hpI h2 o 7) ∧ (∀ h7 : Hp, h7 = stI h2 (ad (hpR h2 o 3)) (hpI h2 o 7).toNatClampNeg (hpI h2 o 6) → (((hpK h7 o).1 = 20 + 5) ∧ (∀ h9 : Hp, h9 = stI h7 o 7 ((hpI h7 o 7) + (1 : Int32)) → (Q h9)))))) else (Q h2))))
set_option maxHeartbeats 4000000 in
set_option maxRecDepth 100000 in
theorem c_X7_finishLine (l : Launch) (G : GG) (base : Nat) (o : Nat) (h : Hp) (Q : Hp → Prop) (hw : wp_X7_finishLine o h Q) : Met l yX7_finishLine (ww yX7_finishLine cX7_finishLine 1 none) rm_X7_finishLine (va_Pc [.ref o] (PU G base h)) (va_Qv Q (PU G base) (fun q => base ≤ q)) 0 0 (fun q => base ≤ q) := by
  refine met_of (own := RX7) (nm := "finishLine") (by decide) rfl rfl (List.forall_mem_cons.mpr ⟨rfl, (fun _ h => absurd h List.not_mem_nil)⟩) (Nat.le_of_ble_eq_true rfl) rfl ?_
  intro p e s m below meth c ls hM hC hl
  obtain ⟨hx, hb, hr, hml, hown, hts, hg, hs, hlk, hnm⟩ := id hM
  obtain ⟨args, hargs⟩ : ∃ a : Array Value, a = ([.ref o] : List Value).toArray := ⟨_, rfl⟩
  rw [← hargs] at hM hts ⊢
  obtain ⟨H, hH⟩ : ∃ H : Heap, H = s.heap := ⟨_, rfl⟩
  obtain ⟨locs, hlocs⟩ : ∃ x : List Loc, x = [] := ⟨_, rfl⟩
  have hC : Cx G base h s.heap H locs := by rw [hH, hlocs]; exact hC
  show W p l e rm_X7_finishLine s m args below meth c s.heap [] 0 0 (MQ below (va_Qv Q (PU G base) (fun q => base ≤ q)) args s 0 0 (fun q => base ≤ q)) (F0 m 0 ls [])
  rw [← hlocs]
  have hgoal : W p l e rm_X7_finishLine s m args below meth c H locs 0 0 (MQ below (va_Qv Q (PU G base) (fun q => base ≤ q)) args s 0 0 (fun q => base ≤ q)) (F0 m 0 ls []) := ?_
  · rw [hH] at hgoal; exact hgoal
  clear hH hlocs
  unfold wp_X7_finishLine at hw
  refine lv_aload_n hx hb dX7_finishLine_0 rfl (lo_at hl 0 rfl) ?_
  obtain ⟨k1, hw⟩ := hw
  refine res_i hC (run_V (As := []) (rest := []) hM hC hl.1.1 kv_RX7_41 (c_X7_isFull l G base o h _ hw) (hc_5) k1 rfl rfl rfl ⟨Nat.le_of_ble_eq_true rfl, Nat.le_of_ble_eq_true rfl⟩ (Nat.le_of_ble_eq_true rfl) ⟨Nat.le_of_ble_eq_true rfl, Nat.le_of_ble_eq_true rfl⟩ dX7_finishLine_1) (fun z3 h2 H locs hw hC => ?_)
  refine lv_if_ne (tgt := 30) hx hb dX7_finishLine_4 (by decide) (fun c4 => ?_) (fun c4 => ?_)
  ·
    replace hw := (if_neg c4).mp hw
    exact ret_v hM hC hw dX7_finishLine_30
  ·
    replace hw := (if_pos c4).mp hw
    refine lv_aload_n hx hb dX7_finishLine_7 rfl (lo_at hl 0 rfl) ?_
    obtain ⟨k5, hw⟩ := hw
    refine r_getR hx hb hts hown hg hC fb_5_3 k5 mk_f_RX7_21 dX7_finishLine_8 ?_
    refine lv_aload_n hx hb dX7_finishLine_11 rfl (lo_at hl 0 rfl) ?_
    refine r_getI hx hb hts hown hg hC fb_5_7 k5 mk_f_RX7_34 dX7_finishLine_12 ?_
    refine lv_aload_n hx hb dX7_finishLine_15 rfl (lo_at hl 0 rfl) ?_
    refine r_getI hx hb hts hown hg hC fb_5_6 k5 mk_f_RX7_30 dX7_finishLine_16 ?_
    obtain ⟨k6, hw⟩ := hw
    refine rf_3 k6.1 ?_
    refine r_iast hx hb hg hC k6.2.1 k6.2.2 dX7_finishLine_19 (fun h7 H locs eh7 hC => ?_)
    replace hw := hw h7 eh7
    refine lv_aload_n hx hb dX7_finishLine_20 rfl (lo_at hl 0 rfl) ?_
    refine lv_dup hx hb dX7_finishLine_21 rfl ?_
    obtain ⟨k8, hw⟩ := hw
    refine r_getI hx hb hts hown hg hC fb_5_7 k8 mk_f_RX7_34 dX7_finishLine_22 ?_
    refine lv_iconst (v := 1) hx hb dX7_finishLine_25 (by decide) ?_
    refine lv_iadd hx hb dX7_finishLine_26 ?_
    refine r_putI hx hb hts hown hg hC fb_5_7 k8 rfl rfl mk_f_RX7_34 dX7_finishLine_27 (fun h9 H locs eh9 hC => ?_)
    replace hw := hw h9 eh9
    exact ret_v hM hC hw dX7_finishLine_30
abbrev rm_X7_put : Room := { frames := 0, cells := 0, slots := 0, locals := 0 }
def wp_X7_put (o : Nat) (x1 : Int32) (h : Hp) (Q : Hp → Prop) : Prop := ((hpK h o).1 = 20 + 5) ∧ (okN h (hpR h o 4) 1 ∧ ((if (nI (hpK h (ad (hpR h o 4))).2) ≤ (hpI h o 6) then (Q h) else (okA h (hpR h o 4) 1 (hpI h o 6) ∧ (∀ h5 : Hp, h5 = stI h (ad (hpR h o 4)) (hpI h o 6).toNatClampNeg x1 → (((hpK h5 o).1 = 20 + 5) ∧ (∀ h7 : Hp, h7 = stI h5 o 6 ((hpI h5 o 6) + (1 : Int32)) → (((hpK h7 o).1 = 20 + 5) ∧ ((if (hpI h7 o 8) = 0 then ((if x1 = (276 : Int32) then (∀ h15 : Hp, h15 = stI h7 o 8 (1 : Int32) → (Q h15)) else (∀ h13 : Hp, h13 = stI h7 o 8 (0 : Int32) → (Q h13)))) else (∀ h10 : Hp, h10 = stI h7 o 8 (1 : Int32) → (Q h10))))))))))))
set_option maxHeartbeats 4000000 in
set_option maxRecDepth 100000 in
theorem c_X7_put (l : Launch) (G : GG) (base : Nat) (o : Nat) (x1 : Int32) (h : Hp) (Q : Hp → Prop) (hw : wp_X7_put o x1 h Q) : Met l yX7_put (ww yX7_put cX7_put 2 none) rm_X7_put (va_Pc [.ref o, .int x1] (PU G base h)) (va_Qv Q (PU G base) (fun q => base ≤ q)) 0 0 (fun q => base ≤ q) := by
  refine met_of (own := RX7) (nm := "put") (by decide) rfl rfl (List.forall_mem_cons.mpr ⟨rfl, (List.forall_mem_cons.mpr ⟨rfl, (fun _ h => absurd h List.not_mem_nil)⟩)⟩) (Nat.le_of_ble_eq_true rfl) rfl ?_
  intro p e s m below meth c ls hM hC hl
  obtain ⟨hx, hb, hr, hml, hown, hts, hg, hs, hlk, hnm⟩ := id hM
  obtain ⟨args, hargs⟩ : ∃ a : Array Value, a = ([.ref o, .int x1] : List Value).toArray := ⟨_, rfl⟩
  rw [← hargs] at hM hts ⊢
  obtain ⟨H, hH⟩ : ∃ H : Heap, H = s.heap := ⟨_, rfl⟩
  obtain ⟨locs, hlocs⟩ : ∃ x : List Loc, x = [] := ⟨_, rfl⟩
  have hC : Cx G base h s.heap H locs := by rw [hH, hlocs]; exact hC
  show W p l e rm_X7_put s m args below meth c s.heap [] 0 0 (MQ below (va_Qv Q (PU G base) (fun q => base ≤ q)) args s 0 0 (fun q => base ≤ q)) (F0 m 0 ls [])
  rw [← hlocs]
  have hgoal : W p l e rm_X7_put s m args below meth c H locs 0 0 (MQ below (va_Qv Q (PU G base) (fun q => base ≤ q)) args s 0 0 (fun q => base ≤ q)) (F0 m 0 ls []) := ?_
  · rw [hH] at hgoal; exact hgoal
  clear hH hlocs
  unfold wp_X7_put at hw
  refine lv_aload_n hx hb dX7_put_0 rfl (lo_at hl 0 rfl) ?_
  obtain ⟨k1, hw⟩ := hw
  refine r_getI hx hb hts hown hg hC fb_5_6 k1 mk_f_RX7_30 dX7_put_1 ?_
  refine lv_aload_n hx hb dX7_put_4 rfl (lo_at hl 0 rfl) ?_
  refine r_getR hx hb hts hown hg hC fb_5_4 k1 mk_f_RX7_24 dX7_put_5 ?_
  obtain ⟨k2, hw⟩ := hw
  refine rf_1 k2.1 ?_
  refine r_alen hx hb hg hC k2.2 dX7_put_8 ?_
  refine lv_icmp_ge (tgt := 55) hx hb dX7_put_9 (by decide) (fun c3 => ?_) (fun c3 => ?_)
  ·
    replace hw := (if_pos c3).mp hw
    exact ret_v hM hC hw dX7_put_55
  ·
    replace hw := (if_neg c3).mp hw
    refine lv_aload_n hx hb dX7_put_12 rfl (lo_at hl 0 rfl) ?_
    refine r_getR hx hb hts hown hg hC fb_5_4 k1 mk_f_RX7_24 dX7_put_13 ?_
    refine lv_aload_n hx hb dX7_put_16 rfl (lo_at hl 0 rfl) ?_
    refine r_getI hx hb hts hown hg hC fb_5_6 k1 mk_f_RX7_30 dX7_put_17 ?_
    refine lv_iload_n hx hb dX7_put_20 rfl (lo_at hl 1 rfl) ?_
    obtain ⟨k4, hw⟩ := hw
    refine rf_3 k4.1 ?_
    refine r_iast hx hb hg hC k4.2.1 k4.2.2 dX7_put_21 (fun h5 H locs eh5 hC => ?_)
    replace hw := hw h5 eh5
    refine lv_aload_n hx hb dX7_put_22 rfl (lo_at hl 0 rfl) ?_
    refine lv_dup hx hb dX7_put_23 rfl ?_
    obtain ⟨k6, hw⟩ := hw
    refine r_getI hx hb hts hown hg hC fb_5_6 k6 mk_f_RX7_30 dX7_put_24 ?_
    refine lv_iconst (v := 1) hx hb dX7_put_27 (by decide) ?_
    refine lv_iadd hx hb dX7_put_28 ?_
    refine r_putI hx hb hts hown hg hC fb_5_6 k6 rfl rfl mk_f_RX7_30 dX7_put_29 (fun h7 H locs eh7 hC => ?_)
    replace hw := hw h7 eh7
    refine lv_aload_n hx hb dX7_put_32 rfl (lo_at hl 0 rfl) ?_
    refine lv_aload_n hx hb dX7_put_33 rfl (lo_at hl 0 rfl) ?_
    obtain ⟨k8, hw⟩ := hw
    refine r_getI hx hb hts hown hg hC fb_5_8 k8 mk_f_RX7_37 dX7_put_34 ?_
    refine lv_if_ne (tgt := 47) hx hb dX7_put_37 (by decide) (fun c9 => ?_) (fun c9 => ?_)
    ·
      replace hw := (if_neg c9).mp hw
      refine lv_iconst (v := 1) hx hb dX7_put_47 (by decide) ?_
      refine lv_goto (tgt := 52) hx hb dX7_put_48 (by decide) ?_
      refine r_putI hx hb hts hown hg hC fb_5_8 k8 rfl rfl mk_f_RX7_37 dX7_put_52 (fun h10 H locs eh10 hC => ?_)
      replace hw := hw h10 eh10
      exact ret_v hM hC hw dX7_put_55
    ·
      replace hw := (if_pos c9).mp hw
      refine lv_iload_n hx hb dX7_put_40 rfl (lo_at hl 1 rfl) ?_
      refine lv_sipush (v := 276) hx hb dX7_put_41 (by decide) ?_
      refine lv_icmp_ne (tgt := 51) hx hb dX7_put_44 (by decide) (fun c12 => ?_) (fun c12 => ?_)
      ·
        replace hw := (if_neg c12).mp hw
        refine lv_iconst (v := 0) hx hb dX7_put_51 (by decide) ?_
        refine r_putI hx hb hts hown hg hC fb_5_8 k8 rfl rfl mk_f_RX7_37 dX7_put_52 (fun h13 H locs eh13 hC => ?_)
        replace hw := hw h13 eh13
        exact ret_v hM hC hw dX7_put_55
      ·
        replace hw := (if_pos c12).mp hw
        refine lv_iconst (v := 1) hx hb dX7_put_47 (by decide) ?_
        refine lv_goto (tgt := 52) hx hb dX7_put_48 (by decide) ?_
        refine r_putI hx hb hts hown hg hC fb_5_8 k8 rfl rfl mk_f_RX7_37 dX7_put_52 (fun h15 H locs eh15 hC => ?_)
        replace hw := hw h15 eh15
        exact ret_v hM hC hw dX7_put_55
abbrev rm_X7_combined : Room := { frames := 0, cells := 0, slots := 0, locals := 0 }
def wp_X7_combined (x0 : Int32) (x1 : Int32) (x2 : Int32) (h : Hp) (Q : Int32 → Hp → Prop) : Prop := (if x0 = (42 : Int32) then (Q (x1 * x2) h) else if x0 = (43 : Int32) then (Q (x1 + x2) h) else if x0 = (45 : Int32) then (Q (x1 - x2) h) else if x0 = (47 : Int32) then ((if x2 = 0 then (Q (0 : Int32) h) else ((¬ x2 = 0) ∧ (Q (x1 / x2) h)))) else if x0 = (60 : Int32) then ((if x2 ≤ x1 then (Q (0 : Int32) h) else (Q (1 : Int32) h))) else if x0 = (61 : Int32) then ((if x1 = x2 then (Q (1 : Int32) h) else (Q (0 : Int32) h))) else if x0 = (62 : Int32) then ((if x1 ≤ x2 then (Q (0 : Int32) h) else (Q (1 : Int32) h))) else if x0 = (256 : Int32) then (Q (x1 ||| x2) h) else if x0 = (257 : Int32) then (Q (x1 &&& x2) h) else Q (0 : Int32) h)
set_option maxHeartbeats 4000000 in
set_option maxRecDepth 100000 in
theorem c_X7_combined (l : Launch) (G : GG) (base : Nat) (x0 : Int32) (x1 : Int32) (x2 : Int32) (h : Hp) (Q : Int32 → Hp → Prop) (hw : wp_X7_combined x0 x1 x2 h Q) : Met l yX7_combined (ww yX7_combined cX7_combined 3 (some .int)) rm_X7_combined (va_Pc [.int x0, .int x1, .int x2] (PU G base h)) (va_Qi Q (PU G base) (fun q => base ≤ q)) 0 0 (fun q => base ≤ q) := by
  refine met_of (own := RX7) (nm := "combined") (by decide) rfl rfl (List.forall_mem_cons.mpr ⟨rfl, (List.forall_mem_cons.mpr ⟨rfl, (List.forall_mem_cons.mpr ⟨rfl, (fun _ h => absurd h List.not_mem_nil)⟩)⟩)⟩) (Nat.le_of_ble_eq_true rfl) rfl ?_
  intro p e s m below meth c ls hM hC hl
  obtain ⟨hx, hb, hr, hml, hown, hts, hg, hs, hlk, hnm⟩ := id hM
  obtain ⟨args, hargs⟩ : ∃ a : Array Value, a = ([.int x0, .int x1, .int x2] : List Value).toArray := ⟨_, rfl⟩
  rw [← hargs] at hM hts ⊢
  obtain ⟨H, hH⟩ : ∃ H : Heap, H = s.heap := ⟨_, rfl⟩
  obtain ⟨locs, hlocs⟩ : ∃ x : List Loc, x = [] := ⟨_, rfl⟩
  have hC : Cx G base h s.heap H locs := by rw [hH, hlocs]; exact hC
  show W p l e rm_X7_combined s m args below meth c s.heap [] 0 0 (MQ below (va_Qi Q (PU G base) (fun q => base ≤ q)) args s 0 0 (fun q => base ≤ q)) (F0 m 0 ls [])
  rw [← hlocs]
  have hgoal : W p l e rm_X7_combined s m args below meth c H locs 0 0 (MQ below (va_Qi Q (PU G base) (fun q => base ≤ q)) args s 0 0 (fun q => base ≤ q)) (F0 m 0 ls []) := ?_
  · rw [hH] at hgoal; exact hgoal
  clear hH hlocs
  unfold wp_X7_combined at hw
  refine lv_iload_n hx hb dX7_combined_0 rfl (lo_at hl 0 rfl) ?_
  by_cases c1 : x0 = (42 : Int32)
  ·
    replace hw := (if_pos c1).mp hw
    refine lv_lookup (off := 91) (tgt := 92) hx hb dX7_combined_1 (by decide) (by rw [c1]; first | done | rfl) (by decide) ?_
    refine lv_iload_n hx hb dX7_combined_92 rfl (lo_at hl 1 rfl) ?_
    refine lv_iload_n hx hb dX7_combined_93 rfl (lo_at hl 2 rfl) ?_
    refine lv_imul hx hb dX7_combined_94 ?_
    exact ret_i hM hC hw dX7_combined_95
  replace hw := (if_neg c1).mp hw
  by_cases c2 : x0 = (43 : Int32)
  ·
    replace hw := (if_pos c2).mp hw
    refine lv_lookup (off := 83) (tgt := 84) hx hb dX7_combined_1 (by decide) (by rw [c2]; first | done | rfl) (by decide) ?_
    refine lv_iload_n hx hb dX7_combined_84 rfl (lo_at hl 1 rfl) ?_
    refine lv_iload_n hx hb dX7_combined_85 rfl (lo_at hl 2 rfl) ?_
    refine lv_iadd hx hb dX7_combined_86 ?_
    exact ret_i hM hC hw dX7_combined_87
  replace hw := (if_neg c2).mp hw
  by_cases c3 : x0 = (45 : Int32)
  ·
    replace hw := (if_pos c3).mp hw
    refine lv_lookup (off := 87) (tgt := 88) hx hb dX7_combined_1 (by decide) (by rw [c3]; first | done | rfl) (by decide) ?_
    refine lv_iload_n hx hb dX7_combined_88 rfl (lo_at hl 1 rfl) ?_
    refine lv_iload_n hx hb dX7_combined_89 rfl (lo_at hl 2 rfl) ?_
    refine lv_isub hx hb dX7_combined_90 ?_
    exact ret_i hM hC hw dX7_combined_91
  replace hw := (if_neg c3).mp hw
  by_cases c4 : x0 = (47 : Int32)
  ·
    replace hw := (if_pos c4).mp hw
    refine lv_lookup (off := 95) (tgt := 96) hx hb dX7_combined_1 (by decide) (by rw [c4]; first | done | rfl) (by decide) ?_
    refine lv_iload_n hx hb dX7_combined_96 rfl (lo_at hl 2 rfl) ?_
    refine lv_if_ne (tgt := 104) hx hb dX7_combined_97 (by decide) (fun c5 => ?_) (fun c5 => ?_)
    ·
      replace hw := (if_neg c5).mp hw
      refine lv_iload_n hx hb dX7_combined_104 rfl (lo_at hl 1 rfl) ?_
      refine lv_iload_n hx hb dX7_combined_105 rfl (lo_at hl 2 rfl) ?_
      obtain ⟨k6, hw⟩ := hw
      refine lv_idiv hx hb dX7_combined_106 k6 ?_
      exact ret_i hM hC hw dX7_combined_107
    ·
      replace hw := (if_pos c5).mp hw
      refine lv_iconst (v := 0) hx hb dX7_combined_100 (by decide) ?_
      refine lv_goto (tgt := 107) hx hb dX7_combined_101 (by decide) ?_
      exact ret_i hM hC hw dX7_combined_107
  replace hw := (if_neg c4).mp hw
  by_cases c7 : x0 = (60 : Int32)
  ·
    replace hw := (if_pos c7).mp hw
    refine lv_lookup (off := 107) (tgt := 108) hx hb dX7_combined_1 (by decide) (by rw [c7]; first | done | rfl) (by decide) ?_
    refine lv_iload_n hx hb dX7_combined_108 rfl (lo_at hl 1 rfl) ?_
    refine lv_iload_n hx hb dX7_combined_109 rfl (lo_at hl 2 rfl) ?_
    refine lv_icmp_ge (tgt := 117) hx hb dX7_combined_110 (by decide) (fun c8 => ?_) (fun c8 => ?_)
    ·
      replace hw := (if_pos c8).mp hw
      refine lv_iconst (v := 0) hx hb dX7_combined_117 (by decide) ?_
      exact ret_i hM hC hw dX7_combined_118
    ·
      replace hw := (if_neg c8).mp hw
      refine lv_iconst (v := 1) hx hb dX7_combined_113 (by decide) ?_
      refine lv_goto (tgt := 118) hx hb dX7_combined_114 (by decide) ?_
      exact ret_i hM hC hw dX7_combined_118
  replace hw := (if_neg c7).mp hw
  by_cases c9 : x0 = (61 : Int32)
  ·
    replace hw := (if_pos c9).mp hw
    refine lv_lookup (off := 118) (tgt := 119) hx hb dX7_combined_1 (by decide) (by rw [c9]; first | done | rfl) (by decide) ?_
    refine lv_iload_n hx hb dX7_combined_119 rfl (lo_at hl 1 rfl) ?_
    refine lv_iload_n hx hb dX7_combined_120 rfl (lo_at hl 2 rfl) ?_
    refine lv_icmp_ne (tgt := 128) hx hb dX7_combined_121 (by decide) (fun c10 => ?_) (fun c10 => ?_)
    ·
      replace hw := (if_neg c10).mp hw
      refine lv_iconst (v := 0) hx hb dX7_combined_128 (by decide) ?_
      exact ret_i hM hC hw dX7_combined_129
    ·
      replace hw := (if_pos c10).mp hw
      refine lv_iconst (v := 1) hx hb dX7_combined_124 (by decide) ?_
      refine lv_goto (tgt := 129) hx hb dX7_combined_125 (by decide) ?_
      exact ret_i hM hC hw dX7_combined_129
  replace hw := (if_neg c9).mp hw
  by_cases c11 : x0 = (62 : Int32)
  ·
    replace hw := (if_pos c11).mp hw
    refine lv_lookup (off := 129) (tgt := 130) hx hb dX7_combined_1 (by decide) (by rw [c11]; first | done | rfl) (by decide) ?_
    refine lv_iload_n hx hb dX7_combined_130 rfl (lo_at hl 1 rfl) ?_
    refine lv_iload_n hx hb dX7_combined_131 rfl (lo_at hl 2 rfl) ?_
    refine lv_icmp_le (tgt := 139) hx hb dX7_combined_132 (by decide) (fun c12 => ?_) (fun c12 => ?_)
    ·
      replace hw := (if_pos c12).mp hw
      refine lv_iconst (v := 0) hx hb dX7_combined_139 (by decide) ?_
      exact ret_i hM hC hw dX7_combined_140
    ·
      replace hw := (if_neg c12).mp hw
      refine lv_iconst (v := 1) hx hb dX7_combined_135 (by decide) ?_
      refine lv_goto (tgt := 140) hx hb dX7_combined_136 (by decide) ?_
      exact ret_i hM hC hw dX7_combined_140
  replace hw := (if_neg c11).mp hw
  by_cases c13 : x0 = (256 : Int32)
  ·
    replace hw := (if_pos c13).mp hw
    refine lv_lookup (off := 144) (tgt := 145) hx hb dX7_combined_1 (by decide) (by rw [c13]; first | done | rfl) (by decide) ?_
    refine lv_iload_n hx hb dX7_combined_145 rfl (lo_at hl 1 rfl) ?_
    refine lv_iload_n hx hb dX7_combined_146 rfl (lo_at hl 2 rfl) ?_
    refine lv_ior hx hb dX7_combined_147 ?_
    exact ret_i hM hC hw dX7_combined_148
  replace hw := (if_neg c13).mp hw
  by_cases c14 : x0 = (257 : Int32)
  ·
    replace hw := (if_pos c14).mp hw
    refine lv_lookup (off := 140) (tgt := 141) hx hb dX7_combined_1 (by decide) (by rw [c14]; first | done | rfl) (by decide) ?_
    refine lv_iload_n hx hb dX7_combined_141 rfl (lo_at hl 1 rfl) ?_
    refine lv_iload_n hx hb dX7_combined_142 rfl (lo_at hl 2 rfl) ?_
    refine lv_iand hx hb dX7_combined_143 ?_
    exact ret_i hM hC hw dX7_combined_144
  replace hw := (if_neg c14).mp hw
  refine lv_lookup (off := 148) (tgt := 149) hx hb dX7_combined_1 (by decide) (by have dc1 := i_ne c1 (k := 42) rfl; have dc2 := i_ne c2 (k := 43) rfl; have dc3 := i_ne c3 (k := 45) rfl; have dc4 := i_ne c4 (k := 47) rfl; have dc7 := i_ne c7 (k := 60) rfl; have dc9 := i_ne c9 (k := 61) rfl; have dc11 := i_ne c11 (k := 62) rfl; have dc13 := i_ne c13 (k := 256) rfl; have dc14 := i_ne c14 (k := 257) rfl; simp [Op.lookupswitch.offset, Ne.symm dc1, dc1, Ne.symm dc2, dc2, Ne.symm dc3, dc3, Ne.symm dc4, dc4, Ne.symm dc7, dc7, Ne.symm dc9, dc9, Ne.symm dc11, dc11, Ne.symm dc13, dc13, Ne.symm dc14, dc14]) (by decide) ?_
  refine lv_iconst (v := 0) hx hb dX7_combined_149 (by decide) ?_
  exact ret_i hM hC hw dX7_combined_150
abbrev rm_X8_init : Room := { frames := 1, cells := 3, slots := 1802, locals := 20 }
def wp_X8_init (o : Nat) (h : Hp) (Q : Hp → Prop) : Prop := ∀ (q1 : Nat) (h2 : Hp), (hpK h q1).1 = 0 → h2 = alc h q1 1 600 → (((hpK h2 o).1 = 20 + 6) ∧ (∀ h5 : Hp, h5 = stR h2 o 0 (some q1) → (∀ (q6 : Nat) (h7 : Hp), (hpK h5 q6).1 = 0 → h7 = alc h5 q6 1 601 → (((hpK h7 o).1 = 20 + 6) ∧ (∀ h10 : Hp, h10 = stR h7 o 2 (some q6) → (∀ (q11 : Nat) (h12 : Hp), (hpK h10 q11).1 = 0 → h12 = alc h10 q11 1 601 → (((hpK h12 o).1 = 20 + 6) ∧ (∀ h15 : Hp, h15 = stR h12 o 3 (some q11) → (Q h15)))))))))
set_option maxHeartbeats 4000000 in
set_option maxRecDepth 100000 in
theorem c_X8_init (l : Launch) (G : GG) (base : Nat) (o : Nat) (h : Hp) (Q : Hp → Prop) (hw : wp_X8_init o h Q) : Met l yX8_init (ww yX8_init cX8_init 1 none) rm_X8_init (va_Pc [.ref o] (PU G base h)) (va_Qv Q (PU G base) (fun q => base ≤ q)) 3 1802 (fun q => base ≤ q) := by
  refine met_of (own := RX8) (nm := "<init>") (by decide) rfl rfl (List.forall_mem_cons.mpr ⟨rfl, (fun _ h => absurd h List.not_mem_nil)⟩) (Nat.le_of_ble_eq_true rfl) rfl ?_
  intro p e s m below meth c ls hM hC hl
  obtain ⟨hx, hb, hr, hml, hown, hts, hg, hs, hlk, hnm⟩ := id hM
  obtain ⟨args, hargs⟩ : ∃ a : Array Value, a = ([.ref o] : List Value).toArray := ⟨_, rfl⟩
  rw [← hargs] at hM hts ⊢
  obtain ⟨H, hH⟩ : ∃ H : Heap, H = s.heap := ⟨_, rfl⟩
  obtain ⟨locs, hlocs⟩ : ∃ x : List Loc, x = [] := ⟨_, rfl⟩
  have hC : Cx G base h s.heap H locs := by rw [hH, hlocs]; exact hC
  show W p l e rm_X8_init s m args below meth c s.heap [] 0 0 (MQ below (va_Qv Q (PU G base) (fun q => base ≤ q)) args s 3 1802 (fun q => base ≤ q)) (F0 m 0 ls [])
  rw [← hlocs]
  have hgoal : W p l e rm_X8_init s m args below meth c H locs 0 0 (MQ below (va_Qv Q (PU G base) (fun q => base ≤ q)) args s 3 1802 (fun q => base ≤ q)) (F0 m 0 ls []) := ?_
  · rw [hH] at hgoal; exact hgoal
  clear hH hlocs
  unfold wp_X8_init at hw
  refine lv_aload_n hx hb dX8_init_0 rfl (lo_at hl 0 rfl) ?_
  refine r_oi hx hb hown (hts _ mk_m_RX8_3) (hts _ mk_oi_i) (hts _ mk_oi_c) (by rw [hml]; exact hl.1.1) dX8_init_1 (Nat.le_of_ble_eq_true rfl) (Nat.le_of_ble_eq_true rfl) ?_
  refine lv_aload_n hx hb dX8_init_4 rfl (lo_at hl 0 rfl) ?_
  refine lv_sipush (v := 600) hx hb dX8_init_5 (by decide) ?_
  refine r_newI (N := 600) hx hb hts mk_arc_int hg hC (by decide) rfl (by decide) (Nat.le_of_ble_eq_true rfl) (Nat.le_of_ble_eq_true rfl) dX8_init_8 (fun q1 h2 H k3 eh2 hC => ?_)
  replace hw := hw q1 h2 k3 eh2
  refine W.widen (k := 1) (n := 600) (Nat.le_of_ble_eq_true rfl) (Nat.le_of_ble_eq_true rfl) ?_
  obtain ⟨k4, hw⟩ := hw
  refine r_putFR (v := some q1) hx hb hts hown hnm hg hC fb_6_0 k4 (nv_a) (fv_a) mk_f_RX8_9 dX8_init_10 (fun h5 H locs eh5 hC => ?_)
  replace hw := hw h5 eh5
  refine lv_aload_n hx hb dX8_init_13 rfl (lo_at hl 0 rfl) ?_
  refine lv_sipush (v := 601) hx hb dX8_init_14 (by decide) ?_
  refine r_newI (N := 601) hx hb hts mk_arc_int hg hC (by decide) rfl (by decide) (Nat.le_of_ble_eq_true rfl) (Nat.le_of_ble_eq_true rfl) dX8_init_17 (fun q6 h7 H k8 eh7 hC => ?_)
  replace hw := hw q6 h7 k8 eh7
  refine W.widen (k := 2) (n := 1201) (Nat.le_of_ble_eq_true rfl) (Nat.le_of_ble_eq_true rfl) ?_
  obtain ⟨k9, hw⟩ := hw
  refine r_putFR (v := some q6) hx hb hts hown hnm hg hC fb_6_2 k9 (nv_a) (fv_a) mk_f_RX8_15 dX8_init_19 (fun h10 H locs eh10 hC => ?_)
  replace hw := hw h10 eh10
  refine lv_aload_n hx hb dX8_init_22 rfl (lo_at hl 0 rfl) ?_
  refine lv_sipush (v := 601) hx hb dX8_init_23 (by decide) ?_
  refine r_newI (N := 601) hx hb hts mk_arc_int hg hC (by decide) rfl (by decide) (Nat.le_of_ble_eq_true rfl) (Nat.le_of_ble_eq_true rfl) dX8_init_26 (fun q11 h12 H k13 eh12 hC => ?_)
  replace hw := hw q11 h12 k13 eh12
  refine W.widen (k := 3) (n := 1802) (Nat.le_of_ble_eq_true rfl) (Nat.le_of_ble_eq_true rfl) ?_
  obtain ⟨k14, hw⟩ := hw
  refine r_putFR (v := some q11) hx hb hts hown hnm hg hC fb_6_3 k14 (nv_a) (fv_a) mk_f_RX8_18 dX8_init_28 (fun h15 H locs eh15 hC => ?_)
  replace hw := hw h15 eh15
  exact ret_v hM hC hw dX8_init_31
abbrev rm_X8_put : Room := { frames := 0, cells := 0, slots := 0, locals := 0 }
def wp_X8_put_L3 (o : Nat) (x1 : Int32) (K49 : Hp → Prop) (Q : Hp → Prop) : Nat → Int32 → Hp → Prop
  | 0, _, _ => False
  | n + 1, x2, h => (if x2 < 0 then (K49 h) else (((hpK h o).1 = 20 + 6) ∧ ((if (600 : Int32) ≤ (hpI h o 1) then (∀ v4 : Int32, v4 = x2 + (-8 : Int32) → (wp_X8_put_L3 o x1 K49 Q n v4 h)) else (okA h (hpR h o 0) 1 (hpI h o 1) ∧ (∀ h6 : Hp, h6 = stI h (ad (hpR h o 0)) (hpI h o 1).toNatClampNeg ((((x1).toUInt32 >>> ((x2).toUInt32 &&& Int32.toUInt32 31)).toInt32) &&& (255 : Int32)) → (((hpK h6 o).1 = 20 + 6) ∧ (∀ h8 : Hp, h8 = stI h6 o 1 ((hpI h6 o 1) + (1 : Int32)) → (∀ v9 : Int32, v9 = x2 + (-8 : Int32) → (wp_X8_put_L3 o x1 K49 Q n v9 h8))))))))))
def wp_X8_put (o : Nat) (x1 : Int32) (h : Hp) (Q : Hp → Prop) : Prop := wp_X8_put_L3 o x1 (fun (h10 : Hp) => Q h10) Q fuel (24 : Int32) h
set_option maxHeartbeats 4000000 in
set_option maxRecDepth 100000 in
theorem t_X8_put_L3 {p : Program} {l : Launch} {e : Env} {s : State} {m : MethodId} {args : Array Value} {below : List Frame} {meth : Method} {c : Code} {G : GG} {base : Nat} (hM : Mx G base p s m args meth c cX8_put 3 none RX8 "put") (o : Nat) (x1 : Int32) (K49 : Hp → Prop) (Q : Hp → Prop) (hK49 : ∀ (h : Hp) (H : Heap) (locs : List Loc) (ls : Array Slot), Cx G base h s.heap H locs → lo_has ls 3 [] → K49 h → W p l e rm_X8_put s m args below meth c H locs 0 0 (MQ below (va_Qv Q (PU G base) (fun q => base ≤ q)) args s 0 0 (fun q => base ≤ q)) (F0 m 49 ls [])) : ∀ (n : Nat) (x2 : Int32) (h : Hp) (H : Heap) (locs : List Loc) (ls : Array Slot), Cx G base h s.heap H locs → lo_has ls 3 [(0, .ref o), (1, .int x1), (2, .int x2)] → wp_X8_put_L3 o x1 K49 Q n x2 h → W p l e rm_X8_put s m args below meth c H locs 0 0 (MQ below (va_Qv Q (PU G base) (fun q => base ≤ q)) args s 0 0 (fun q => base ≤ q)) (F0 m 3 ls []) := by
  intro n
  induction n with
  | zero =>
    intro x2 h H locs ls hC hl hw
    rw [wp_X8_put_L3] at hw
    exact hw.elim
  | succ n ih =>
    intro x2 h H locs ls hC hl hw
    rw [wp_X8_put_L3] at hw
    obtain ⟨hx, hb, hr, hml, hown, hts, hg, hs, hlk, hnm⟩ := id hM
    refine lv_iload_n hx hb dX8_put_3 rfl (lo_at hl 2 rfl) ?_
    refine lv_if_lt (tgt := 49) hx hb dX8_put_4 (by decide) (fun c1 => ?_) (fun c1 => ?_)
    ·
      replace hw := (if_pos c1).mp hw
      exact hK49  h H locs ls hC (lo_sub hl [] rfl) hw
    ·
      replace hw := (if_neg c1).mp hw
      refine lv_aload_n hx hb dX8_put_7 rfl (lo_at hl 0 rfl) ?_
      obtain ⟨k2, hw⟩ := hw
      refine r_getI hx hb hts hown hg hC fb_6_1 k2 mk_f_RX8_21 dX8_put_8 ?_
      refine lv_sipush (v := 600) hx hb dX8_put_11 (by decide) ?_
      refine lv_icmp_ge (tgt := 43) hx hb dX8_put_14 (by decide) (fun c3 => ?_) (fun c3 => ?_)
      ·
        replace hw := (if_pos c3).mp hw
        obtain ⟨v4, ev4⟩ : ∃ y : Int32, y = x2 + (-8 : Int32) := ⟨_, rfl⟩
        replace hw := hw v4 ev4
        refine lo_iinc (v := v4) (lv' := [(2, .int v4), (0, .ref o), (1, .int x1)]) hx hb dX8_put_43 hl (k := 2) rfl (by rw [ev4]; rfl) (by decide) rfl (fun ls hl => ?_)
        refine lv_goto (tgt := 3) hx hb dX8_put_46 (by decide) ?_
        exact ih v4 h H locs ls hC (lo_sub hl [1, 2, 0] rfl) hw
      ·
        replace hw := (if_neg c3).mp hw
        refine lv_aload_n hx hb dX8_put_17 rfl (lo_at hl 0 rfl) ?_
        refine r_getR hx hb hts hown hg hC fb_6_0 k2 mk_f_RX8_9 dX8_put_18 ?_
        refine lv_aload_n hx hb dX8_put_21 rfl (lo_at hl 0 rfl) ?_
        refine r_getI hx hb hts hown hg hC fb_6_1 k2 mk_f_RX8_21 dX8_put_22 ?_
        refine lv_iload_n hx hb dX8_put_25 rfl (lo_at hl 1 rfl) ?_
        refine lv_iload_n hx hb dX8_put_26 rfl (lo_at hl 2 rfl) ?_
        refine lv_iushr hx hb dX8_put_27 (v := ((x1).toUInt32 >>> ((x2).toUInt32 &&& Int32.toUInt32 31)).toInt32) rfl ?_
        refine lv_sipush (v := 255) hx hb dX8_put_28 (by decide) ?_
        refine lv_iand hx hb dX8_put_31 ?_
        obtain ⟨k5, hw⟩ := hw
        refine rf_3 k5.1 ?_
        refine r_iast hx hb hg hC k5.2.1 k5.2.2 dX8_put_32 (fun h6 H locs eh6 hC => ?_)
        replace hw := hw h6 eh6
        refine lv_aload_n hx hb dX8_put_33 rfl (lo_at hl 0 rfl) ?_
        refine lv_dup hx hb dX8_put_34 rfl ?_
        obtain ⟨k7, hw⟩ := hw
        refine r_getI hx hb hts hown hg hC fb_6_1 k7 mk_f_RX8_21 dX8_put_35 ?_
        refine lv_iconst (v := 1) hx hb dX8_put_38 (by decide) ?_
        refine lv_iadd hx hb dX8_put_39 ?_
        refine r_putI hx hb hts hown hg hC fb_6_1 k7 rfl rfl mk_f_RX8_21 dX8_put_40 (fun h8 H locs eh8 hC => ?_)
        replace hw := hw h8 eh8
        obtain ⟨v9, ev9⟩ : ∃ y : Int32, y = x2 + (-8 : Int32) := ⟨_, rfl⟩
        replace hw := hw v9 ev9
        refine lo_iinc (v := v9) (lv' := [(2, .int v9), (0, .ref o), (1, .int x1)]) hx hb dX8_put_43 hl (k := 2) rfl (by rw [ev9]; rfl) (by decide) rfl (fun ls hl => ?_)
        refine lv_goto (tgt := 3) hx hb dX8_put_46 (by decide) ?_
        exact ih v9 h8 H locs ls hC (lo_sub hl [1, 2, 0] rfl) hw
set_option maxHeartbeats 4000000 in
set_option maxRecDepth 100000 in
theorem c_X8_put (l : Launch) (G : GG) (base : Nat) (o : Nat) (x1 : Int32) (h : Hp) (Q : Hp → Prop) (hw : wp_X8_put o x1 h Q) : Met l yX8_put (ww yX8_put cX8_put 3 none) rm_X8_put (va_Pc [.ref o, .int x1] (PU G base h)) (va_Qv Q (PU G base) (fun q => base ≤ q)) 0 0 (fun q => base ≤ q) := by
  refine met_of (own := RX8) (nm := "put") (by decide) rfl rfl (List.forall_mem_cons.mpr ⟨rfl, (List.forall_mem_cons.mpr ⟨rfl, (fun _ h => absurd h List.not_mem_nil)⟩)⟩) (Nat.le_of_ble_eq_true rfl) rfl ?_
  intro p e s m below meth c ls hM hC hl
  obtain ⟨hx, hb, hr, hml, hown, hts, hg, hs, hlk, hnm⟩ := id hM
  obtain ⟨args, hargs⟩ : ∃ a : Array Value, a = ([.ref o, .int x1] : List Value).toArray := ⟨_, rfl⟩
  rw [← hargs] at hM hts ⊢
  obtain ⟨H, hH⟩ : ∃ H : Heap, H = s.heap := ⟨_, rfl⟩
  obtain ⟨locs, hlocs⟩ : ∃ x : List Loc, x = [] := ⟨_, rfl⟩
  have hC : Cx G base h s.heap H locs := by rw [hH, hlocs]; exact hC
  show W p l e rm_X8_put s m args below meth c s.heap [] 0 0 (MQ below (va_Qv Q (PU G base) (fun q => base ≤ q)) args s 0 0 (fun q => base ≤ q)) (F0 m 0 ls [])
  rw [← hlocs]
  have hgoal : W p l e rm_X8_put s m args below meth c H locs 0 0 (MQ below (va_Qv Q (PU G base) (fun q => base ≤ q)) args s 0 0 (fun q => base ≤ q)) (F0 m 0 ls []) := ?_
  · rw [hH] at hgoal; exact hgoal
  clear hH hlocs
  unfold wp_X8_put at hw
  refine lv_bipush (v := 24) hx hb dX8_put_0 (by decide) ?_
  refine lo_istore_n (lv' := [(2, .int ((24 : Int32))), (0, .ref o), (1, .int x1)]) hx hb dX8_put_2 rfl hl (by decide) rfl (fun ls hl => ?_)
  refine t_X8_put_L3 hM o x1 _ Q ?_ fuel (24 : Int32) h H locs ls hC (lo_sub hl [1, 2, 0] rfl) hw
  intro  h10 H locs ls hC hl hw
  exact ret_v hM hC hw dX8_put_49
abbrev rm_X8_sortOf : Room := { frames := 0, cells := 0, slots := 0, locals := 0 }
def wp_X8_sortOf_J40 (x0 : Int32) (Q : Int32 → Hp → Prop) (h : Hp) : Prop := (if x0 < (48 : Int32) then (Q (3 : Int32) h) else ((if (57 : Int32) < x0 then (Q (3 : Int32) h) else (Q (2 : Int32) h))))
def wp_X8_sortOf_J26 (x0 : Int32) (Q : Int32 → Hp → Prop) (h : Hp) : Prop := (if x0 < (65 : Int32) then (wp_X8_sortOf_J40 x0 Q h) else ((if (90 : Int32) < x0 then (wp_X8_sortOf_J40 x0 Q h) else (Q (1 : Int32) h))))
def wp_X8_sortOf (x0 : Int32) (h : Hp) (Q : Int32 → Hp → Prop) : Prop := (if x0 = (32 : Int32) then (Q (0 : Int32) h) else ((if x0 = (10 : Int32) then (Q (0 : Int32) h) else ((if x0 < (97 : Int32) then (wp_X8_sortOf_J26 x0 Q h) else ((if x0 ≤ (122 : Int32) then (Q (1 : Int32) h) else (wp_X8_sortOf_J26 x0 Q h))))))))
set_option maxHeartbeats 4000000 in
set_option maxRecDepth 100000 in
theorem t_X8_sortOf_J40 {p : Program} {l : Launch} {e : Env} {s : State} {m : MethodId} {args : Array Value} {below : List Frame} {meth : Method} {c : Code} {G : GG} {base : Nat} (hM : Mx G base p s m args meth c cX8_sortOf 1 (some .int) RX8 "sortOf") (x0 : Int32) (Q : Int32 → Hp → Prop) (h : Hp) (H : Heap) (locs : List Loc) (ls : Array Slot) : Cx G base h s.heap H locs → lo_has ls 1 [(0, .int x0)] → wp_X8_sortOf_J40 x0 Q h → W p l e rm_X8_sortOf s m args below meth c H locs 0 0 (MQ below (va_Qi Q (PU G base) (fun q => base ≤ q)) args s 0 0 (fun q => base ≤ q)) (F0 m 40 ls []) := by
  intro hC hl hw
  unfold wp_X8_sortOf_J40 at hw
  obtain ⟨hx, hb, hr, hml, hown, hts, hg, hs, hlk, hnm⟩ := id hM
  refine lv_iload_n hx hb dX8_sortOf_40 rfl (lo_at hl 0 rfl) ?_
  refine lv_bipush (v := 48) hx hb dX8_sortOf_41 (by decide) ?_
  refine lv_icmp_lt (tgt := 56) hx hb dX8_sortOf_43 (by decide) (fun c5 => ?_) (fun c5 => ?_)
  ·
    replace hw := (if_pos c5).mp hw
    refine lv_iconst (v := 3) hx hb dX8_sortOf_56 (by decide) ?_
    exact ret_i hM hC hw dX8_sortOf_57
  ·
    replace hw := (if_neg c5).mp hw
    refine lv_iload_n hx hb dX8_sortOf_46 rfl (lo_at hl 0 rfl) ?_
    refine lv_bipush (v := 57) hx hb dX8_sortOf_47 (by decide) ?_
    refine lv_icmp_gt (tgt := 56) hx hb dX8_sortOf_49 (by decide) (fun c6 => ?_) (fun c6 => ?_)
    ·
      replace hw := (if_pos c6).mp hw
      refine lv_iconst (v := 3) hx hb dX8_sortOf_56 (by decide) ?_
      exact ret_i hM hC hw dX8_sortOf_57
    ·
      replace hw := (if_neg c6).mp hw
      refine lv_iconst (v := 2) hx hb dX8_sortOf_52 (by decide) ?_
      refine lv_goto (tgt := 57) hx hb dX8_sortOf_53 (by decide) ?_
      exact ret_i hM hC hw dX8_sortOf_57
set_option maxHeartbeats 4000000 in
set_option maxRecDepth 100000 in
theorem t_X8_sortOf_J26 {p : Program} {l : Launch} {e : Env} {s : State} {m : MethodId} {args : Array Value} {below : List Frame} {meth : Method} {c : Code} {G : GG} {base : Nat} (hM : Mx G base p s m args meth c cX8_sortOf 1 (some .int) RX8 "sortOf") (x0 : Int32) (Q : Int32 → Hp → Prop) (h : Hp) (H : Heap) (locs : List Loc) (ls : Array Slot) : Cx G base h s.heap H locs → lo_has ls 1 [(0, .int x0)] → wp_X8_sortOf_J26 x0 Q h → W p l e rm_X8_sortOf s m args below meth c H locs 0 0 (MQ below (va_Qi Q (PU G base) (fun q => base ≤ q)) args s 0 0 (fun q => base ≤ q)) (F0 m 26 ls []) := by
  intro hC hl hw
  unfold wp_X8_sortOf_J26 at hw
  obtain ⟨hx, hb, hr, hml, hown, hts, hg, hs, hlk, hnm⟩ := id hM
  refine lv_iload_n hx hb dX8_sortOf_26 rfl (lo_at hl 0 rfl) ?_
  refine lv_bipush (v := 65) hx hb dX8_sortOf_27 (by decide) ?_
  refine lv_icmp_lt (tgt := 40) hx hb dX8_sortOf_29 (by decide) (fun c4 => ?_) (fun c4 => ?_)
  ·
    replace hw := (if_pos c4).mp hw
    exact t_X8_sortOf_J40 hM x0 Q  h H locs ls hC (lo_sub hl [0] rfl) hw
  ·
    replace hw := (if_neg c4).mp hw
    refine lv_iload_n hx hb dX8_sortOf_32 rfl (lo_at hl 0 rfl) ?_
    refine lv_bipush (v := 90) hx hb dX8_sortOf_33 (by decide) ?_
    refine lv_icmp_gt (tgt := 40) hx hb dX8_sortOf_35 (by decide) (fun c7 => ?_) (fun c7 => ?_)
    ·
      replace hw := (if_pos c7).mp hw
      exact t_X8_sortOf_J40 hM x0 Q  h H locs ls hC (lo_sub hl [0] rfl) hw
    ·
      replace hw := (if_neg c7).mp hw
      refine lv_iconst (v := 1) hx hb dX8_sortOf_38 (by decide) ?_
      exact ret_i hM hC hw dX8_sortOf_39
set_option maxHeartbeats 4000000 in
set_option maxRecDepth 100000 in
theorem c_X8_sortOf (l : Launch) (G : GG) (base : Nat) (x0 : Int32) (h : Hp) (Q : Int32 → Hp → Prop) (hw : wp_X8_sortOf x0 h Q) : Met l yX8_sortOf (ww yX8_sortOf cX8_sortOf 1 (some .int)) rm_X8_sortOf (va_Pc [.int x0] (PU G base h)) (va_Qi Q (PU G base) (fun q => base ≤ q)) 0 0 (fun q => base ≤ q) := by
  refine met_of (own := RX8) (nm := "sortOf") (by decide) rfl rfl (List.forall_mem_cons.mpr ⟨rfl, (fun _ h => absurd h List.not_mem_nil)⟩) (Nat.le_of_ble_eq_true rfl) rfl ?_
  intro p e s m below meth c ls hM hC hl
  obtain ⟨hx, hb, hr, hml, hown, hts, hg, hs, hlk, hnm⟩ := id hM
  obtain ⟨args, hargs⟩ : ∃ a : Array Value, a = ([.int x0] : List Value).toArray := ⟨_, rfl⟩
  rw [← hargs] at hM hts ⊢
  obtain ⟨H, hH⟩ : ∃ H : Heap, H = s.heap := ⟨_, rfl⟩
  obtain ⟨locs, hlocs⟩ : ∃ x : List Loc, x = [] := ⟨_, rfl⟩
  have hC : Cx G base h s.heap H locs := by rw [hH, hlocs]; exact hC
  show W p l e rm_X8_sortOf s m args below meth c s.heap [] 0 0 (MQ below (va_Qi Q (PU G base) (fun q => base ≤ q)) args s 0 0 (fun q => base ≤ q)) (F0 m 0 ls [])
  rw [← hlocs]
  have hgoal : W p l e rm_X8_sortOf s m args below meth c H locs 0 0 (MQ below (va_Qi Q (PU G base) (fun q => base ≤ q)) args s 0 0 (fun q => base ≤ q)) (F0 m 0 ls []) := ?_
  · rw [hH] at hgoal; exact hgoal
  clear hH hlocs
  unfold wp_X8_sortOf at hw
  refine lv_iload_n hx hb dX8_sortOf_0 rfl (lo_at hl 0 rfl) ?_
  refine lv_bipush (v := 32) hx hb dX8_sortOf_1 (by decide) ?_
  refine lv_icmp_eq (tgt := 12) hx hb dX8_sortOf_3 (by decide) (fun c1 => ?_) (fun c1 => ?_)
  ·
    replace hw := (if_pos c1).mp hw
    refine lv_iconst (v := 0) hx hb dX8_sortOf_12 (by decide) ?_
    exact ret_i hM hC hw dX8_sortOf_13
  ·
    replace hw := (if_neg c1).mp hw
    refine lv_iload_n hx hb dX8_sortOf_6 rfl (lo_at hl 0 rfl) ?_
    refine lv_bipush (v := 10) hx hb dX8_sortOf_7 (by decide) ?_
    refine lv_icmp_ne (tgt := 14) hx hb dX8_sortOf_9 (by decide) (fun c2 => ?_) (fun c2 => ?_)
    ·
      replace hw := (if_neg c2).mp hw
      refine lv_iload_n hx hb dX8_sortOf_14 rfl (lo_at hl 0 rfl) ?_
      refine lv_bipush (v := 97) hx hb dX8_sortOf_15 (by decide) ?_
      refine lv_icmp_lt (tgt := 26) hx hb dX8_sortOf_17 (by decide) (fun c3 => ?_) (fun c3 => ?_)
      ·
        replace hw := (if_pos c3).mp hw
        exact t_X8_sortOf_J26 hM x0 Q  h H locs ls hC (lo_sub hl [0] rfl) hw
      ·
        replace hw := (if_neg c3).mp hw
        refine lv_iload_n hx hb dX8_sortOf_20 rfl (lo_at hl 0 rfl) ?_
        refine lv_bipush (v := 122) hx hb dX8_sortOf_21 (by decide) ?_
        refine lv_icmp_le (tgt := 38) hx hb dX8_sortOf_23 (by decide) (fun c8 => ?_) (fun c8 => ?_)
        ·
          replace hw := (if_pos c8).mp hw
          refine lv_iconst (v := 1) hx hb dX8_sortOf_38 (by decide) ?_
          exact ret_i hM hC hw dX8_sortOf_39
        ·
          replace hw := (if_neg c8).mp hw
          exact t_X8_sortOf_J26 hM x0 Q  h H locs ls hC (lo_sub hl [0] rfl) hw
    ·
      replace hw := (if_pos c2).mp hw
      refine lv_iconst (v := 0) hx hb dX8_sortOf_12 (by decide) ?_
      exact ret_i hM hC hw dX8_sortOf_13
abbrev rm_X8_runFrom : Room := { frames := 1, cells := 0, slots := 0, locals := 20 }
def wp_X8_runFrom_L17 (o : Nat) (x2 : Int32) (K49 : Int32 → Hp → Prop) (Q : Int32 → Hp → Prop) : Nat → Int32 → Int32 → Hp → Prop
  | 0, _, _, _ => False
  | n + 1, x3, x4, h => ((hpK h o).1 = 20 + 6) ∧ ((if (hpI h o 1) ≤ x4 then (K49 x3 h) else (okA h (hpR h o 0) 1 x4 ∧ (∀ v10 : Int32, v10 = hpI h (ad (hpR h o 0)) (x4).toNatClampNeg → (wp_X8_sortOf v10 h (fun (z12 : Int32) (h11 : Hp) => (if z12 = x2 then (∀ v14 : Int32, v14 = x3 + (1 : Int32) → (∀ v15 : Int32, v15 = x4 + (1 : Int32) → (wp_X8_runFrom_L17 o x2 K49 Q n v14 v15 h11))) else (K49 x3 h11))))))))
def wp_X8_runFrom (o : Nat) (x1 : Int32) (h : Hp) (Q : Int32 → Hp → Prop) : Prop := ((hpK h o).1 = 20 + 6) ∧ (okA h (hpR h o 0) 1 x1 ∧ (∀ v3 : Int32, v3 = hpI h (ad (hpR h o 0)) (x1).toNatClampNeg → (wp_X8_sortOf v3 h (fun (z5 : Int32) (h4 : Hp) => ∀ v6 : Int32, v6 = x1 + (1 : Int32) → (wp_X8_runFrom_L17 o z5 (fun (y17 : Int32) (h16 : Hp) => Q y17 h16) Q fuel (1 : Int32) v6 h4)))))
set_option maxHeartbeats 4000000 in
set_option maxRecDepth 100000 in
theorem t_X8_runFrom_L17 {p : Program} {l : Launch} {e : Env} {s : State} {m : MethodId} {args : Array Value} {below : List Frame} {meth : Method} {c : Code} {G : GG} {base : Nat} (hM : Mx G base p s m args meth c cX8_runFrom 5 (some .int) RX8 "runFrom") (o : Nat) (x2 : Int32) (K49 : Int32 → Hp → Prop) (Q : Int32 → Hp → Prop) (hK49 : ∀ (y3 : Int32) (h : Hp) (H : Heap) (locs : List Loc) (ls : Array Slot), Cx G base h s.heap H locs → lo_has ls 5 [(3, .int y3)] → K49 y3 h → W p l e rm_X8_runFrom s m args below meth c H locs 0 0 (MQ below (va_Qi Q (PU G base) (fun q => base ≤ q)) args s 0 0 (fun q => base ≤ q)) (F0 m 49 ls [])) : ∀ (n : Nat) (x3 : Int32) (x4 : Int32) (h : Hp) (H : Heap) (locs : List Loc) (ls : Array Slot), Cx G base h s.heap H locs → lo_has ls 5 [(0, .ref o), (2, .int x2), (3, .int x3), (4, .int x4)] → wp_X8_runFrom_L17 o x2 K49 Q n x3 x4 h → W p l e rm_X8_runFrom s m args below meth c H locs 0 0 (MQ below (va_Qi Q (PU G base) (fun q => base ≤ q)) args s 0 0 (fun q => base ≤ q)) (F0 m 17 ls []) := by
  intro n
  induction n with
  | zero =>
    intro x3 x4 h H locs ls hC hl hw
    rw [wp_X8_runFrom_L17] at hw
    exact hw.elim
  | succ n ih =>
    intro x3 x4 h H locs ls hC hl hw
    rw [wp_X8_runFrom_L17] at hw
    obtain ⟨hx, hb, hr, hml, hown, hts, hg, hs, hlk, hnm⟩ := id hM
    refine lv_iload hx hb dX8_runFrom_17 (lo_at hl 3 rfl) ?_
    refine lv_aload_n hx hb dX8_runFrom_19 rfl (lo_at hl 0 rfl) ?_
    obtain ⟨k7, hw⟩ := hw
    refine r_getI hx hb hts hown hg hC fb_6_1 k7 mk_f_RX8_21 dX8_runFrom_20 ?_
    refine lv_icmp_ge (tgt := 49) hx hb dX8_runFrom_23 (by decide) (fun c8 => ?_) (fun c8 => ?_)
    ·
      replace hw := (if_pos c8).mp hw
      exact hK49 x3 h H locs ls hC (lo_sub hl [2] rfl) hw
    ·
      replace hw := (if_neg c8).mp hw
      refine lv_aload_n hx hb dX8_runFrom_26 rfl (lo_at hl 0 rfl) ?_
      refine r_getR hx hb hts hown hg hC fb_6_0 k7 mk_f_RX8_9 dX8_runFrom_27 ?_
      refine lv_iload hx hb dX8_runFrom_30 (lo_at hl 3 rfl) ?_
      obtain ⟨k9, hw⟩ := hw
      refine rf_2 k9.1 ?_
      refine r_iald hx hb hg hC k9.2.1 k9.2.2 dX8_runFrom_32 ?_
      refine lv_topi (fun v10 ev10 => ?_)
      replace hw := hw v10 ev10
      refine res_i hC (run_S (As := [.int v10]) (rest := []) hM hC hl.1.1 kv_RX8_36 (c_X8_sortOf l G base v10 h _ hw) rfl rfl rfl ⟨Nat.le_of_ble_eq_true rfl, Nat.le_of_ble_eq_true rfl⟩ (Nat.le_of_ble_eq_true rfl) ⟨Nat.le_of_ble_eq_true rfl, Nat.le_of_ble_eq_true rfl⟩ dX8_runFrom_33) (fun z12 h11 H locs hw hC => ?_)
      refine lv_iload_n hx hb dX8_runFrom_36 rfl (lo_at hl 1 rfl) ?_
      refine lv_icmp_ne (tgt := 49) hx hb dX8_runFrom_37 (by decide) (fun c13 => ?_) (fun c13 => ?_)
      ·
        replace hw := (if_neg c13).mp hw
        exact hK49 x3 h11 H locs ls hC (lo_sub hl [2] rfl) hw
      ·
        replace hw := (if_pos c13).mp hw
        obtain ⟨v14, ev14⟩ : ∃ y : Int32, y = x3 + (1 : Int32) := ⟨_, rfl⟩
        replace hw := hw v14 ev14
        refine lo_iinc (v := v14) (lv' := [(3, .int v14), (0, .ref o), (2, .int x2), (4, .int x4)]) hx hb dX8_runFrom_40 hl (k := 2) rfl (by rw [ev14]; rfl) (by decide) rfl (fun ls hl => ?_)
        obtain ⟨v15, ev15⟩ : ∃ y : Int32, y = x4 + (1 : Int32) := ⟨_, rfl⟩
        replace hw := hw v15 ev15
        refine lo_iinc (v := v15) (lv' := [(4, .int v15), (3, .int v14), (0, .ref o), (2, .int x2)]) hx hb dX8_runFrom_43 hl (k := 3) rfl (by rw [ev15]; rfl) (by decide) rfl (fun ls hl => ?_)
        refine lv_goto (tgt := 17) hx hb dX8_runFrom_46 (by decide) ?_
        exact ih v14 v15 h11 H locs ls hC (lo_sub hl [2, 3, 1, 0] rfl) hw
set_option maxHeartbeats 4000000 in
set_option maxRecDepth 100000 in
theorem c_X8_runFrom (l : Launch) (G : GG) (base : Nat) (o : Nat) (x1 : Int32) (h : Hp) (Q : Int32 → Hp → Prop) (hw : wp_X8_runFrom o x1 h Q) : Met l yX8_runFrom (ww yX8_runFrom cX8_runFrom 5 (some .int)) rm_X8_runFrom (va_Pc [.ref o, .int x1] (PU G base h)) (va_Qi Q (PU G base) (fun q => base ≤ q)) 0 0 (fun q => base ≤ q) := by
  refine met_of (own := RX8) (nm := "runFrom") (by decide) rfl rfl (List.forall_mem_cons.mpr ⟨rfl, (List.forall_mem_cons.mpr ⟨rfl, (fun _ h => absurd h List.not_mem_nil)⟩)⟩) (Nat.le_of_ble_eq_true rfl) rfl ?_
  intro p e s m below meth c ls hM hC hl
  obtain ⟨hx, hb, hr, hml, hown, hts, hg, hs, hlk, hnm⟩ := id hM
  obtain ⟨args, hargs⟩ : ∃ a : Array Value, a = ([.ref o, .int x1] : List Value).toArray := ⟨_, rfl⟩
  rw [← hargs] at hM hts ⊢
  obtain ⟨H, hH⟩ : ∃ H : Heap, H = s.heap := ⟨_, rfl⟩
  obtain ⟨locs, hlocs⟩ : ∃ x : List Loc, x = [] := ⟨_, rfl⟩
  have hC : Cx G base h s.heap H locs := by rw [hH, hlocs]; exact hC
  show W p l e rm_X8_runFrom s m args below meth c s.heap [] 0 0 (MQ below (va_Qi Q (PU G base) (fun q => base ≤ q)) args s 0 0 (fun q => base ≤ q)) (F0 m 0 ls [])
  rw [← hlocs]
  have hgoal : W p l e rm_X8_runFrom s m args below meth c H locs 0 0 (MQ below (va_Qi Q (PU G base) (fun q => base ≤ q)) args s 0 0 (fun q => base ≤ q)) (F0 m 0 ls []) := ?_
  · rw [hH] at hgoal; exact hgoal
  clear hH hlocs
  unfold wp_X8_runFrom at hw
  refine lv_aload_n hx hb dX8_runFrom_0 rfl (lo_at hl 0 rfl) ?_
  obtain ⟨k1, hw⟩ := hw
  refine r_getR hx hb hts hown hg hC fb_6_0 k1 mk_f_RX8_9 dX8_runFrom_1 ?_
  refine lv_iload_n hx hb dX8_runFrom_4 rfl (lo_at hl 1 rfl) ?_
  obtain ⟨k2, hw⟩ := hw
  refine rf_2 k2.1 ?_
  refine r_iald hx hb hg hC k2.2.1 k2.2.2 dX8_runFrom_5 ?_
  refine lv_topi (fun v3 ev3 => ?_)
  replace hw := hw v3 ev3
  refine res_i hC (run_S (As := [.int v3]) (rest := []) hM hC hl.1.1 kv_RX8_36 (c_X8_sortOf l G base v3 h _ hw) rfl rfl rfl ⟨Nat.le_of_ble_eq_true rfl, Nat.le_of_ble_eq_true rfl⟩ (Nat.le_of_ble_eq_true rfl) ⟨Nat.le_of_ble_eq_true rfl, Nat.le_of_ble_eq_true rfl⟩ dX8_runFrom_6) (fun z5 h4 H locs hw hC => ?_)
  refine lo_istore_n (lv' := [(2, .int z5), (0, .ref o), (1, .int x1)]) hx hb dX8_runFrom_9 rfl hl (by decide) rfl (fun ls hl => ?_)
  refine lv_iconst (v := 1) hx hb dX8_runFrom_10 (by decide) ?_
  refine lo_istore_n (lv' := [(3, .int ((1 : Int32))), (2, .int z5), (0, .ref o), (1, .int x1)]) hx hb dX8_runFrom_11 rfl hl (by decide) rfl (fun ls hl => ?_)
  refine lv_iload_n hx hb dX8_runFrom_12 rfl (lo_at hl 3 rfl) ?_
  refine lv_iconst (v := 1) hx hb dX8_runFrom_13 (by decide) ?_
  refine lv_iadd hx hb dX8_runFrom_14 ?_
  refine lv_topi (fun v6 ev6 => ?_)
  replace hw := hw v6 ev6
  refine lo_istore (lv' := [(4, .int v6), (3, .int ((1 : Int32))), (2, .int z5), (0, .ref o), (1, .int x1)]) hx hb dX8_runFrom_15 hl (by decide) rfl (fun ls hl => ?_)
  refine t_X8_runFrom_L17 hM o z5 _ Q ?_ fuel (1 : Int32) v6 h4 H locs ls hC (lo_sub hl [3, 2, 1, 0] rfl) hw
  intro y17 h16 H locs ls hC hl hw
  refine lv_iload_n hx hb dX8_runFrom_49 rfl (lo_at hl 0 rfl) ?_
  exact ret_i hM hC hw dX8_runFrom_50
abbrev rm_X8_numberKind : Room := { frames := 0, cells := 0, slots := 0, locals := 0 }
def wp_X8_numberKind_L12 (o : Nat) (x1 : Int32) (x2 : Int32) (K42 : Int32 → Hp → Prop) (Q : Int32 → Hp → Prop) : Nat → Int32 → Int32 → Hp → Prop
  | 0, _, _, _ => False
  | n + 1, x3, x4, h => (if (x1 + x2) ≤ x4 then (K42 x3 h) else (((hpK h o).1 = 20 + 6) ∧ (okA h (hpR h o 0) 1 x4 ∧ (∀ v5 : Int32, v5 = hpI h (ad (hpR h o 0)) (x4).toNatClampNeg → (∀ v6 : Int32, v6 = ((x3 * (10 : Int32)) + v5) - (48 : Int32) → (∀ v7 : Int32, v7 = x4 + (1 : Int32) → (wp_X8_numberKind_L12 o x1 x2 K42 Q n v6 v7 h)))))))
def wp_X8_numberKind (o : Nat) (x1 : Int32) (x2 : Int32) (h : Hp) (Q : Int32 → Hp → Prop) : Prop := (if x2 ≤ (4 : Int32) then (wp_X8_numberKind_L12 o x1 x2 (fun (y9 : Int32) (h8 : Hp) => Q (y9 ^^^ (-1 : Int32)) h8) Q fuel (0 : Int32) x1 h) else (Q (1 : Int32) h))
set_option maxHeartbeats 4000000 in
set_option maxRecDepth 100000 in
theorem t_X8_numberKind_L12 {p : Program} {l : Launch} {e : Env} {s : State} {m : MethodId} {args : Array Value} {below : List Frame} {meth : Method} {c : Code} {G : GG} {base : Nat} (hM : Mx G base p s m args meth c cX8_numberKind 5 (some .int) RX8 "numberKind") (o : Nat) (x1 : Int32) (x2 : Int32) (K42 : Int32 → Hp → Prop) (Q : Int32 → Hp → Prop) (hK42 : ∀ (y3 : Int32) (h : Hp) (H : Heap) (locs : List Loc) (ls : Array Slot), Cx G base h s.heap H locs → lo_has ls 5 [(3, .int y3)] → K42 y3 h → W p l e rm_X8_numberKind s m args below meth c H locs 0 0 (MQ below (va_Qi Q (PU G base) (fun q => base ≤ q)) args s 0 0 (fun q => base ≤ q)) (F0 m 42 ls [])) : ∀ (n : Nat) (x3 : Int32) (x4 : Int32) (h : Hp) (H : Heap) (locs : List Loc) (ls : Array Slot), Cx G base h s.heap H locs → lo_has ls 5 [(0, .ref o), (1, .int x1), (2, .int x2), (3, .int x3), (4, .int x4)] → wp_X8_numberKind_L12 o x1 x2 K42 Q n x3 x4 h → W p l e rm_X8_numberKind s m args below meth c H locs 0 0 (MQ below (va_Qi Q (PU G base) (fun q => base ≤ q)) args s 0 0 (fun q => base ≤ q)) (F0 m 12 ls []) := by
  intro n
  induction n with
  | zero =>
    intro x3 x4 h H locs ls hC hl hw
    rw [wp_X8_numberKind_L12] at hw
    exact hw.elim
  | succ n ih =>
    intro x3 x4 h H locs ls hC hl hw
    rw [wp_X8_numberKind_L12] at hw
    obtain ⟨hx, hb, hr, hml, hown, hts, hg, hs, hlk, hnm⟩ := id hM
    refine lv_iload hx hb dX8_numberKind_12 (lo_at hl 4 rfl) ?_
    refine lv_iload_n hx hb dX8_numberKind_14 rfl (lo_at hl 1 rfl) ?_
    refine lv_iload_n hx hb dX8_numberKind_15 rfl (lo_at hl 2 rfl) ?_
    refine lv_iadd hx hb dX8_numberKind_16 ?_
    refine lv_icmp_ge (tgt := 42) hx hb dX8_numberKind_17 (by decide) (fun c2 => ?_) (fun c2 => ?_)
    ·
      replace hw := (if_pos c2).mp hw
      exact hK42 x3 h H locs ls hC (lo_sub hl [3] rfl) hw
    ·
      replace hw := (if_neg c2).mp hw
      refine lv_iload_n hx hb dX8_numberKind_20 rfl (lo_at hl 3 rfl) ?_
      refine lv_bipush (v := 10) hx hb dX8_numberKind_21 (by decide) ?_
      refine lv_imul hx hb dX8_numberKind_23 ?_
      refine lv_aload_n hx hb dX8_numberKind_24 rfl (lo_at hl 0 rfl) ?_
      obtain ⟨k3, hw⟩ := hw
      refine r_getR hx hb hts hown hg hC fb_6_0 k3 mk_f_RX8_9 dX8_numberKind_25 ?_
      refine lv_iload hx hb dX8_numberKind_28 (lo_at hl 4 rfl) ?_
      obtain ⟨k4, hw⟩ := hw
      refine rf_2 k4.1 ?_
      refine r_iald hx hb hg hC k4.2.1 k4.2.2 dX8_numberKind_30 ?_
      refine lv_topi (fun v5 ev5 => ?_)
      replace hw := hw v5 ev5
      refine lv_iadd hx hb dX8_numberKind_31 ?_
      refine lv_bipush (v := 48) hx hb dX8_numberKind_32 (by decide) ?_
      refine lv_isub hx hb dX8_numberKind_34 ?_
      refine lv_topi (fun v6 ev6 => ?_)
      replace hw := hw v6 ev6
      refine lo_istore_n (lv' := [(3, .int v6), (0, .ref o), (1, .int x1), (2, .int x2), (4, .int x4)]) hx hb dX8_numberKind_35 rfl hl (by decide) rfl (fun ls hl => ?_)
      obtain ⟨v7, ev7⟩ : ∃ y : Int32, y = x4 + (1 : Int32) := ⟨_, rfl⟩
      replace hw := hw v7 ev7
      refine lo_iinc (v := v7) (lv' := [(4, .int v7), (3, .int v6), (0, .ref o), (1, .int x1), (2, .int x2)]) hx hb dX8_numberKind_36 hl (k := 4) rfl (by rw [ev7]; rfl) (by decide) rfl (fun ls hl => ?_)
      refine lv_goto (tgt := 12) hx hb dX8_numberKind_39 (by decide) ?_
      exact ih v6 v7 h H locs ls hC (lo_sub hl [2, 3, 4, 1, 0] rfl) hw
set_option maxHeartbeats 4000000 in
set_option maxRecDepth 100000 in
theorem c_X8_numberKind (l : Launch) (G : GG) (base : Nat) (o : Nat) (x1 : Int32) (x2 : Int32) (h : Hp) (Q : Int32 → Hp → Prop) (hw : wp_X8_numberKind o x1 x2 h Q) : Met l yX8_numberKind (ww yX8_numberKind cX8_numberKind 5 (some .int)) rm_X8_numberKind (va_Pc [.ref o, .int x1, .int x2] (PU G base h)) (va_Qi Q (PU G base) (fun q => base ≤ q)) 0 0 (fun q => base ≤ q) := by
  refine met_of (own := RX8) (nm := "numberKind") (by decide) rfl rfl (List.forall_mem_cons.mpr ⟨rfl, (List.forall_mem_cons.mpr ⟨rfl, (List.forall_mem_cons.mpr ⟨rfl, (fun _ h => absurd h List.not_mem_nil)⟩)⟩)⟩) (Nat.le_of_ble_eq_true rfl) rfl ?_
  intro p e s m below meth c ls hM hC hl
  obtain ⟨hx, hb, hr, hml, hown, hts, hg, hs, hlk, hnm⟩ := id hM
  obtain ⟨args, hargs⟩ : ∃ a : Array Value, a = ([.ref o, .int x1, .int x2] : List Value).toArray := ⟨_, rfl⟩
  rw [← hargs] at hM hts ⊢
  obtain ⟨H, hH⟩ : ∃ H : Heap, H = s.heap := ⟨_, rfl⟩
  obtain ⟨locs, hlocs⟩ : ∃ x : List Loc, x = [] := ⟨_, rfl⟩
  have hC : Cx G base h s.heap H locs := by rw [hH, hlocs]; exact hC
  show W p l e rm_X8_numberKind s m args below meth c s.heap [] 0 0 (MQ below (va_Qi Q (PU G base) (fun q => base ≤ q)) args s 0 0 (fun q => base ≤ q)) (F0 m 0 ls [])
  rw [← hlocs]
  have hgoal : W p l e rm_X8_numberKind s m args below meth c H locs 0 0 (MQ below (va_Qi Q (PU G base) (fun q => base ≤ q)) args s 0 0 (fun q => base ≤ q)) (F0 m 0 ls []) := ?_
  · rw [hH] at hgoal; exact hgoal
  clear hH hlocs
  unfold wp_X8_numberKind at hw
  refine lv_iload_n hx hb dX8_numberKind_0 rfl (lo_at hl 2 rfl) ?_
  refine lv_iconst (v := 4) hx hb dX8_numberKind_1 (by decide) ?_
  refine lv_icmp_le (tgt := 7) hx hb dX8_numberKind_2 (by decide) (fun c1 => ?_) (fun c1 => ?_)
  ·
    replace hw := (if_pos c1).mp hw
    refine lv_iconst (v := 0) hx hb dX8_numberKind_7 (by decide) ?_
    refine lo_istore_n (lv' := [(3, .int ((0 : Int32))), (0, .ref o), (1, .int x1), (2, .int x2)]) hx hb dX8_numberKind_8 rfl hl (by decide) rfl (fun ls hl => ?_)
    refine lv_iload_n hx hb dX8_numberKind_9 rfl (lo_at hl 2 rfl) ?_
    refine lo_istore (lv' := [(4, .int x1), (3, .int ((0 : Int32))), (0, .ref o), (1, .int x1), (2, .int x2)]) hx hb dX8_numberKind_10 hl (by decide) rfl (fun ls hl => ?_)
    refine t_X8_numberKind_L12 hM o x1 x2 _ Q ?_ fuel (0 : Int32) x1 h H locs ls hC (lo_sub hl [2, 3, 4, 1, 0] rfl) hw
    intro y9 h8 H locs ls hC hl hw
    refine lv_iload_n hx hb dX8_numberKind_42 rfl (lo_at hl 0 rfl) ?_
    refine lv_iconst (v := -1) hx hb dX8_numberKind_43 (by decide) ?_
    refine lv_ixor hx hb dX8_numberKind_44 ?_
    exact ret_i hM hC hw dX8_numberKind_45
  ·
    replace hw := (if_neg c1).mp hw
    refine lv_iconst (v := 1) hx hb dX8_numberKind_5 (by decide) ?_
    exact ret_i hM hC hw dX8_numberKind_6
abbrev rm_X10_init : Room := { frames := 1, cells := 6, slots := 224, locals := 20 }
def wp_X10_init (o : Nat) (h : Hp) (Q : Hp → Prop) : Prop := ∀ (q1 : Nat) (h2 : Hp), (hpK h q1).1 = 0 → h2 = alc h q1 1 14 → (((hpK h2 o).1 = 20 + 8) ∧ (∀ h5 : Hp, h5 = stR h2 o 0 (some q1) → (∀ (q6 : Nat) (h7 : Hp), (hpK h5 q6).1 = 0 → h7 = alc h5 q6 1 32 → (((hpK h7 o).1 = 20 + 8) ∧ (∀ h10 : Hp, h10 = stR h7 o 1 (some q6) → (∀ (q11 : Nat) (h12 : Hp), (hpK h10 q11).1 = 0 → h12 = alc h10 q11 1 32 → (((hpK h12 o).1 = 20 + 8) ∧ (∀ h15 : Hp, h15 = stR h12 o 2 (some q11) → (∀ (q16 : Nat) (h17 : Hp), (hpK h15 q16).1 = 0 → h17 = alc h15 q16 1 128 → (((hpK h17 o).1 = 20 + 8) ∧ (∀ h20 : Hp, h20 = stR h17 o 3 (some q16) → (∀ (q21 : Nat) (h22 : Hp), (hpK h20 q21).1 = 0 → h22 = alc h20 q21 1 10 → (((hpK h22 o).1 = 20 + 8) ∧ (∀ h25 : Hp, h25 = stR h22 o 4 (some q21) → (∀ (q26 : Nat) (h27 : Hp), (hpK h25 q26).1 = 0 → h27 = alc h25 q26 1 8 → (((hpK h27 o).1 = 20 + 8) ∧ (∀ h30 : Hp, h30 = stR h27 o 5 (some q26) → (Q h30))))))))))))))))))
set_option maxHeartbeats 4000000 in
set_option maxRecDepth 100000 in
theorem c_X10_init (l : Launch) (G : GG) (base : Nat) (o : Nat) (h : Hp) (Q : Hp → Prop) (hw : wp_X10_init o h Q) : Met l yX10_init (ww yX10_init cX10_init 1 none) rm_X10_init (va_Pc [.ref o] (PU G base h)) (va_Qv Q (PU G base) (fun q => base ≤ q)) 6 224 (fun q => base ≤ q) := by
  refine met_of (own := RX10) (nm := "<init>") (by decide) rfl rfl (List.forall_mem_cons.mpr ⟨rfl, (fun _ h => absurd h List.not_mem_nil)⟩) (Nat.le_of_ble_eq_true rfl) rfl ?_
  intro p e s m below meth c ls hM hC hl
  obtain ⟨hx, hb, hr, hml, hown, hts, hg, hs, hlk, hnm⟩ := id hM
  obtain ⟨args, hargs⟩ : ∃ a : Array Value, a = ([.ref o] : List Value).toArray := ⟨_, rfl⟩
  rw [← hargs] at hM hts ⊢
  obtain ⟨H, hH⟩ : ∃ H : Heap, H = s.heap := ⟨_, rfl⟩
  obtain ⟨locs, hlocs⟩ : ∃ x : List Loc, x = [] := ⟨_, rfl⟩
  have hC : Cx G base h s.heap H locs := by rw [hH, hlocs]; exact hC
  show W p l e rm_X10_init s m args below meth c s.heap [] 0 0 (MQ below (va_Qv Q (PU G base) (fun q => base ≤ q)) args s 6 224 (fun q => base ≤ q)) (F0 m 0 ls [])
  rw [← hlocs]
  have hgoal : W p l e rm_X10_init s m args below meth c H locs 0 0 (MQ below (va_Qv Q (PU G base) (fun q => base ≤ q)) args s 6 224 (fun q => base ≤ q)) (F0 m 0 ls []) := ?_
  · rw [hH] at hgoal; exact hgoal
  clear hH hlocs
  unfold wp_X10_init at hw
  refine lv_aload_n hx hb dX10_init_0 rfl (lo_at hl 0 rfl) ?_
  refine r_oi hx hb hown (hts _ mk_m_RX10_3) (hts _ mk_oi_i) (hts _ mk_oi_c) (by rw [hml]; exact hl.1.1) dX10_init_1 (Nat.le_of_ble_eq_true rfl) (Nat.le_of_ble_eq_true rfl) ?_
  refine lv_aload_n hx hb dX10_init_4 rfl (lo_at hl 0 rfl) ?_
  refine lv_bipush (v := 14) hx hb dX10_init_5 (by decide) ?_
  refine r_newI (N := 14) hx hb hts mk_arc_int hg hC (by decide) rfl (by decide) (Nat.le_of_ble_eq_true rfl) (Nat.le_of_ble_eq_true rfl) dX10_init_7 (fun q1 h2 H k3 eh2 hC => ?_)
  replace hw := hw q1 h2 k3 eh2
  refine W.widen (k := 1) (n := 14) (Nat.le_of_ble_eq_true rfl) (Nat.le_of_ble_eq_true rfl) ?_
  obtain ⟨k4, hw⟩ := hw
  refine r_putFR (v := some q1) hx hb hts hown hnm hg hC fb_8_0 k4 (nv_a) (fv_a) mk_f_RX10_9 dX10_init_9 (fun h5 H locs eh5 hC => ?_)
  replace hw := hw h5 eh5
  refine lv_aload_n hx hb dX10_init_12 rfl (lo_at hl 0 rfl) ?_
  refine lv_bipush (v := 32) hx hb dX10_init_13 (by decide) ?_
  refine r_newI (N := 32) hx hb hts mk_arc_int hg hC (by decide) rfl (by decide) (Nat.le_of_ble_eq_true rfl) (Nat.le_of_ble_eq_true rfl) dX10_init_15 (fun q6 h7 H k8 eh7 hC => ?_)
  replace hw := hw q6 h7 k8 eh7
  refine W.widen (k := 2) (n := 46) (Nat.le_of_ble_eq_true rfl) (Nat.le_of_ble_eq_true rfl) ?_
  obtain ⟨k9, hw⟩ := hw
  refine r_putFR (v := some q6) hx hb hts hown hnm hg hC fb_8_1 k9 (nv_a) (fv_a) mk_f_RX10_15 dX10_init_17 (fun h10 H locs eh10 hC => ?_)
  replace hw := hw h10 eh10
  refine lv_aload_n hx hb dX10_init_20 rfl (lo_at hl 0 rfl) ?_
  refine lv_bipush (v := 32) hx hb dX10_init_21 (by decide) ?_
  refine r_newI (N := 32) hx hb hts mk_arc_int hg hC (by decide) rfl (by decide) (Nat.le_of_ble_eq_true rfl) (Nat.le_of_ble_eq_true rfl) dX10_init_23 (fun q11 h12 H k13 eh12 hC => ?_)
  replace hw := hw q11 h12 k13 eh12
  refine W.widen (k := 3) (n := 78) (Nat.le_of_ble_eq_true rfl) (Nat.le_of_ble_eq_true rfl) ?_
  obtain ⟨k14, hw⟩ := hw
  refine r_putFR (v := some q11) hx hb hts hown hnm hg hC fb_8_2 k14 (nv_a) (fv_a) mk_f_RX10_18 dX10_init_25 (fun h15 H locs eh15 hC => ?_)
  replace hw := hw h15 eh15
  refine lv_aload_n hx hb dX10_init_28 rfl (lo_at hl 0 rfl) ?_
  refine lv_sipush (v := 128) hx hb dX10_init_29 (by decide) ?_
  refine r_newI (N := 128) hx hb hts mk_arc_int hg hC (by decide) rfl (by decide) (Nat.le_of_ble_eq_true rfl) (Nat.le_of_ble_eq_true rfl) dX10_init_32 (fun q16 h17 H k18 eh17 hC => ?_)
  replace hw := hw q16 h17 k18 eh17
  refine W.widen (k := 4) (n := 206) (Nat.le_of_ble_eq_true rfl) (Nat.le_of_ble_eq_true rfl) ?_
  obtain ⟨k19, hw⟩ := hw
  refine r_putFR (v := some q16) hx hb hts hown hnm hg hC fb_8_3 k19 (nv_a) (fv_a) mk_f_RX10_21 dX10_init_34 (fun h20 H locs eh20 hC => ?_)
  replace hw := hw h20 eh20
  refine lv_aload_n hx hb dX10_init_37 rfl (lo_at hl 0 rfl) ?_
  refine lv_bipush (v := 10) hx hb dX10_init_38 (by decide) ?_
  refine r_newI (N := 10) hx hb hts mk_arc_int hg hC (by decide) rfl (by decide) (Nat.le_of_ble_eq_true rfl) (Nat.le_of_ble_eq_true rfl) dX10_init_40 (fun q21 h22 H k23 eh22 hC => ?_)
  replace hw := hw q21 h22 k23 eh22
  refine W.widen (k := 5) (n := 216) (Nat.le_of_ble_eq_true rfl) (Nat.le_of_ble_eq_true rfl) ?_
  obtain ⟨k24, hw⟩ := hw
  refine r_putFR (v := some q21) hx hb hts hown hnm hg hC fb_8_4 k24 (nv_a) (fv_a) mk_f_RX10_24 dX10_init_42 (fun h25 H locs eh25 hC => ?_)
  replace hw := hw h25 eh25
  refine lv_aload_n hx hb dX10_init_45 rfl (lo_at hl 0 rfl) ?_
  refine lv_bipush (v := 8) hx hb dX10_init_46 (by decide) ?_
  refine r_newI (N := 8) hx hb hts mk_arc_int hg hC (by decide) rfl (by decide) (Nat.le_of_ble_eq_true rfl) (Nat.le_of_ble_eq_true rfl) dX10_init_48 (fun q26 h27 H k28 eh27 hC => ?_)
  replace hw := hw q26 h27 k28 eh27
  refine W.widen (k := 6) (n := 224) (Nat.le_of_ble_eq_true rfl) (Nat.le_of_ble_eq_true rfl) ?_
  obtain ⟨k29, hw⟩ := hw
  refine r_putFR (v := some q26) hx hb hts hown hnm hg hC fb_8_5 k29 (nv_a) (fv_a) mk_f_RX10_27 dX10_init_50 (fun h30 H locs eh30 hC => ?_)
  replace hw := hw h30 eh30
  exact ret_v hM hC hw dX10_init_53
abbrev rm_X10_tellShot : Room := { frames := 0, cells := 0, slots := 0, locals := 0 }
def wp_X10_tellShot (o : Nat) (x1 : Int32) (x2 : Int32) (x3 : Int32) (h : Hp) (Q : Hp → Prop) : Prop := ((hpK h o).1 = 20 + 8) ∧ (okA h (hpR h o 0) 1 (5 : Int32) ∧ (∀ h3 : Hp, h3 = stI h (ad (hpR h o 0)) ((5 : Int32)).toNatClampNeg x1 → (((hpK h3 o).1 = 20 + 8) ∧ (okA h3 (hpR h3 o 0) 1 (6 : Int32) ∧ (∀ h6 : Hp, h6 = stI h3 (ad (hpR h3 o 0)) ((6 : Int32)).toNatClampNeg x2 → (((hpK h6 o).1 = 20 + 8) ∧ (okA h6 (hpR h6 o 0) 1 (7 : Int32) ∧ (∀ h9 : Hp, h9 = stI h6 (ad (hpR h6 o 0)) ((7 : Int32)).toNatClampNeg x3 → (Q h9)))))))))
set_option maxHeartbeats 4000000 in
set_option maxRecDepth 100000 in
theorem c_X10_tellShot (l : Launch) (G : GG) (base : Nat) (o : Nat) (x1 : Int32) (x2 : Int32) (x3 : Int32) (h : Hp) (Q : Hp → Prop) (hw : wp_X10_tellShot o x1 x2 x3 h Q) : Met l yX10_tellShot (ww yX10_tellShot cX10_tellShot 4 none) rm_X10_tellShot (va_Pc [.ref o, .int x1, .int x2, .int x3] (PU G base h)) (va_Qv Q (PU G base) (fun q => base ≤ q)) 0 0 (fun q => base ≤ q) := by
  refine met_of (own := RX10) (nm := "tellShot") (by decide) rfl rfl (List.forall_mem_cons.mpr ⟨rfl, (List.forall_mem_cons.mpr ⟨rfl, (List.forall_mem_cons.mpr ⟨rfl, (List.forall_mem_cons.mpr ⟨rfl, (fun _ h => absurd h List.not_mem_nil)⟩)⟩)⟩)⟩) (Nat.le_of_ble_eq_true rfl) rfl ?_
  intro p e s m below meth c ls hM hC hl
  obtain ⟨hx, hb, hr, hml, hown, hts, hg, hs, hlk, hnm⟩ := id hM
  obtain ⟨args, hargs⟩ : ∃ a : Array Value, a = ([.ref o, .int x1, .int x2, .int x3] : List Value).toArray := ⟨_, rfl⟩
  rw [← hargs] at hM hts ⊢
  obtain ⟨H, hH⟩ : ∃ H : Heap, H = s.heap := ⟨_, rfl⟩
  obtain ⟨locs, hlocs⟩ : ∃ x : List Loc, x = [] := ⟨_, rfl⟩
  have hC : Cx G base h s.heap H locs := by rw [hH, hlocs]; exact hC
  show W p l e rm_X10_tellShot s m args below meth c s.heap [] 0 0 (MQ below (va_Qv Q (PU G base) (fun q => base ≤ q)) args s 0 0 (fun q => base ≤ q)) (F0 m 0 ls [])
  rw [← hlocs]
  have hgoal : W p l e rm_X10_tellShot s m args below meth c H locs 0 0 (MQ below (va_Qv Q (PU G base) (fun q => base ≤ q)) args s 0 0 (fun q => base ≤ q)) (F0 m 0 ls []) := ?_
  · rw [hH] at hgoal; exact hgoal
  clear hH hlocs
  unfold wp_X10_tellShot at hw
  refine lv_aload_n hx hb dX10_tellShot_0 rfl (lo_at hl 0 rfl) ?_
  obtain ⟨k1, hw⟩ := hw
  refine r_getR hx hb hts hown hg hC fb_8_0 k1 mk_f_RX10_9 dX10_tellShot_1 ?_
  refine lv_iconst (v := 5) hx hb dX10_tellShot_4 (by decide) ?_
  refine lv_iload_n hx hb dX10_tellShot_5 rfl (lo_at hl 1 rfl) ?_
  obtain ⟨k2, hw⟩ := hw
  refine rf_3 k2.1 ?_
  refine r_iast hx hb hg hC k2.2.1 k2.2.2 dX10_tellShot_6 (fun h3 H locs eh3 hC => ?_)
  replace hw := hw h3 eh3
  refine lv_aload_n hx hb dX10_tellShot_7 rfl (lo_at hl 0 rfl) ?_
  obtain ⟨k4, hw⟩ := hw
  refine r_getR hx hb hts hown hg hC fb_8_0 k4 mk_f_RX10_9 dX10_tellShot_8 ?_
  refine lv_bipush (v := 6) hx hb dX10_tellShot_11 (by decide) ?_
  refine lv_iload_n hx hb dX10_tellShot_13 rfl (lo_at hl 2 rfl) ?_
  obtain ⟨k5, hw⟩ := hw
  refine rf_3 k5.1 ?_
  refine r_iast hx hb hg hC k5.2.1 k5.2.2 dX10_tellShot_14 (fun h6 H locs eh6 hC => ?_)
  replace hw := hw h6 eh6
  refine lv_aload_n hx hb dX10_tellShot_15 rfl (lo_at hl 0 rfl) ?_
  obtain ⟨k7, hw⟩ := hw
  refine r_getR hx hb hts hown hg hC fb_8_0 k7 mk_f_RX10_9 dX10_tellShot_16 ?_
  refine lv_bipush (v := 7) hx hb dX10_tellShot_19 (by decide) ?_
  refine lv_iload_n hx hb dX10_tellShot_21 rfl (lo_at hl 3 rfl) ?_
  obtain ⟨k8, hw⟩ := hw
  refine rf_3 k8.1 ?_
  refine r_iast hx hb hg hC k8.2.1 k8.2.2 dX10_tellShot_22 (fun h9 H locs eh9 hC => ?_)
  replace hw := hw h9 eh9
  exact ret_v hM hC hw dX10_tellShot_23
