abbrev rm_X12_joined : Room := { frames := 7, cells := 0, slots := 0, locals := 183 }
set_option maxRecDepth 100000 in
def wp_X12_joined_L101 (o : Nat) (K142 : Int32 → Hp → Prop) (Q : Int32 → Hp → Prop) : Nat → Int32 → Int32 → Hp → Prop
  | 0, _, _, _ => False
  | n + 1, x3, x4, h => (if (8 : Int32) ≤ x4 then (K142 x3 h) else (((hpK h o).1 = 20 + 10) ∧ (okA h (hpR h o 58) 2 x4 ∧ (∀ v20 : Int64, v20 = hpL h (ad (hpR h o 58)) (x4).toNatClampNeg → ((if (lg_cmp v20 (0 : Int64)) = 0 then (∀ v22 : Int32, v22 = x4 + (1 : Int32) → (wp_X12_joined_L101 o K142 Q n x3 v22 h)) else (okA h (hpR h o 59) 1 x4 ∧ (∀ v24 : Int32, v24 = hpI h (ad (hpR h o 59)) (x4).toNatClampNeg → ((if v24 = x4 then (∀ v27 : Int32, v27 = x3 + (1 : Int32) → (∀ v28 : Int32, v28 = x4 + (1 : Int32) → (wp_X12_joined_L101 o K142 Q n v27 v28 h))) else (∀ v26 : Int32, v26 = x4 + (1 : Int32) → (wp_X12_joined_L101 o K142 Q n x3 v26 h))))))))))))
set_option maxRecDepth 100000 in
def wp_X12_joined_J37 (o : Nat) (x1 : Int32) (x2 : Int32) (Q : Int32 → Hp → Prop) (h : Hp) : Prop := ((hpK h o).1 = 20 + 10) ∧ (wp_X12_findsGroups o x1 h (fun (h12 : Hp) => (if x2 = (1 : Int32) then (((hpK h12 o).1 = 20 + 10) ∧ (Q (hpI h12 o 60) h12)) else ((if x2 = (2 : Int32) then (((hpK h12 o).1 = 20 + 10) ∧ (Q (hpI h12 o 61) h12)) else ((if x2 < (10 : Int32) then (wp_X12_joined_L101 o (fun (y30 : Int32) (h29 : Hp) => Q y30 h29) Q fuel (0 : Int32) (0 : Int32) h12) else (((hpK h12 o).1 = 20 + 10) ∧ (okA h12 (hpR h12 o 58) 2 (x2 - (10 : Int32)) ∧ (∀ v33 : Int64, v33 = hpL h12 (ad (hpR h12 o 58)) (x2 - (10 : Int32)).toNatClampNeg → ((if (lg_cmp v33 (0 : Int64)) = 0 then (Q (-1 : Int32) h12) else (okA h12 (hpR h12 o 59) 1 (x2 - (10 : Int32)) ∧ (∀ v36 : Int32, v36 = hpI h12 (ad (hpR h12 o 59)) (x2 - (10 : Int32)).toNatClampNeg → (Q v36 h12)))))))))))))))
set_option maxRecDepth 100000 in
def wp_X12_joined (o : Nat) (x1 : Int32) (x2 : Int32) (h : Hp) (Q : Int32 → Hp → Prop) : Prop := ((hpK h o).1 = 20 + 10) ∧ (∀ h2 : Hp, h2 = stI h o 0 (0 : Int32) → (((hpK h2 o).1 = 20 + 10) ∧ (wp_X12_isLooker o x1 h2 (fun (z5 : Int32) (h4 : Hp) => (if z5 = 0 then (Q (-1 : Int32) h4) else (((hpK h4 o).1 = 20 + 10) ∧ (wp_X12_isIn o x2 (0 : Int32) (2 : Int32) h4 (fun (z9 : Int32) (h8 : Hp) => (if z9 = 0 then (((hpK h8 o).1 = 20 + 10) ∧ (wp_X12_isIn o x2 (10 : Int32) (17 : Int32) h8 (fun (z41 : Int32) (h40 : Hp) => (if z41 = 0 then (Q (-1 : Int32) h40) else (wp_X12_joined_J37 o x1 x2 Q h40))))) else (wp_X12_joined_J37 o x1 x2 Q h8))))))))))
set_option maxHeartbeats 4000000 in
set_option maxRecDepth 100000 in
theorem t_X12_joined_L101 {p : Program} {l : Launch} {e : Env} {s : State} {m : MethodId} {args : Array Value} {below : List Frame} {meth : Method} {c : Code} {G : GG} {base : Nat} {A : Nat → Nat} {g0 : Hp} (hM : Mx G base p s m args meth c cX12_joined 5 (some .int) RX12 "joined") (o : Nat) (K142 : Int32 → Hp → Prop) (Q : Int32 → Hp → Prop) (hK142 : ∀ (y3 : Int32) (h : Hp) (H : Heap) (locs : List Loc) (ls : Array Slot), Cx2 G base A g0 A h s.heap H locs → lo_has ls 5 [(3, .int y3)] → K142 y3 h → W p l e rm_X12_joined s m args below meth c H locs 0 0 (MQ below (va_Qi Q (PU2 G base A g0 A) (fun q => base ≤ q)) args s 0 0 (fun q => base ≤ q)) (F0 m 142 ls [])) : ∀ (n : Nat) (x3 : Int32) (x4 : Int32) (h : Hp) (H : Heap) (locs : List Loc) (ls : Array Slot), Cx2 G base A g0 A h s.heap H locs → lo_has ls 5 [(0, .ref (A o)), (3, .int x3), (4, .int x4)] → wp_X12_joined_L101 o K142 Q n x3 x4 h → W p l e rm_X12_joined s m args below meth c H locs 0 0 (MQ below (va_Qi Q (PU2 G base A g0 A) (fun q => base ≤ q)) args s 0 0 (fun q => base ≤ q)) (F0 m 101 ls []) := by
  intro n
  induction n with
  | zero =>
    intro x3 x4 h H locs ls hC hl hw
    rw [wp_X12_joined_L101] at hw
    exact hw.elim
  | succ n ih =>
    intro x3 x4 h H locs ls hC hl hw
    rw [wp_X12_joined_L101] at hw
    obtain ⟨hx, hb, hr, hml, hown, hts, hg, hs, hlk, hnm⟩ := id hM
    refine lv_iload hx hb dX12_joined_101 (lo_at hl 2 rfl) ?_
    refine lv_bipush (v := 8) hx hb dX12_joined_103 (by decide) ?_
    refine lv_icmp_ge (tgt := 142) hx hb dX12_joined_105 (by decide) (fun c17 => ?_) (fun c17 => ?_)
    ·
      replace hw := (if_pos c17).mp hw
      exact hK142 x3 h H locs ls hC (lo_sub hl [1] rfl) hw
    ·
      replace hw := (if_neg c17).mp hw
      refine lv_aload_n hx hb dX12_joined_108 rfl (lo_at hl 0 rfl) ?_
      obtain ⟨k18, hw⟩ := hw
      refine s_getR hx hb hts hown hg hC fb_10_58 k18 mk_f_RX12_125 dX12_joined_109 ?_
      refine lv_iload hx hb dX12_joined_112 (lo_at hl 2 rfl) ?_
      obtain ⟨k19, hw⟩ := hw
      refine sf_2 k19.1 ?_
      refine s_lald hx hb hg hC k19.2.1 k19.2.2 dX12_joined_114 ?_
      refine lv_topl (fun v20 ev20 => ?_)
      replace hw := hw v20 ev20
      refine lv_lconst (v := 0) hx hb dX12_joined_115 (by decide) ?_
      refine W.lcmp hx hb dX12_joined_116 ?_
      refine lv_if_eq (tgt := 136) hx hb dX12_joined_117 (by decide) (fun c21 => ?_) (fun c21 => ?_)
      ·
        replace hw := (if_pos c21).mp hw
        obtain ⟨v22, ev22⟩ : ∃ y : Int32, y = x4 + (1 : Int32) := ⟨_, rfl⟩
        replace hw := hw v22 ev22
        refine lo_iinc (v := v22) (lv' := [(4, .int v22), (0, .ref (A o)), (3, .int x3)]) hx hb dX12_joined_136 hl (k := 2) rfl (by rw [ev22]; rfl) (by decide) rfl (fun ls hl => ?_)
        refine lv_goto (tgt := 101) hx hb dX12_joined_139 (by decide) ?_
        exact ih x3 v22 h H locs ls hC (lo_sub hl [1, 2, 0] rfl) hw
      ·
        replace hw := (if_neg c21).mp hw
        refine lv_aload_n hx hb dX12_joined_120 rfl (lo_at hl 0 rfl) ?_
        refine s_getR hx hb hts hown hg hC fb_10_59 k18 mk_f_RX12_129 dX12_joined_121 ?_
        refine lv_iload hx hb dX12_joined_124 (lo_at hl 2 rfl) ?_
        obtain ⟨k23, hw⟩ := hw
        refine sf_2 k23.1 ?_
        refine s_iald hx hb hg hC k23.2.1 k23.2.2 dX12_joined_126 ?_
        refine lv_topi (fun v24 ev24 => ?_)
        replace hw := hw v24 ev24
        refine lv_iload hx hb dX12_joined_127 (lo_at hl 2 rfl) ?_
        refine lv_icmp_ne (tgt := 136) hx hb dX12_joined_129 (by decide) (fun c25 => ?_) (fun c25 => ?_)
        ·
          replace hw := (if_neg c25).mp hw
          obtain ⟨v26, ev26⟩ : ∃ y : Int32, y = x4 + (1 : Int32) := ⟨_, rfl⟩
          replace hw := hw v26 ev26
          refine lo_iinc (v := v26) (lv' := [(4, .int v26), (0, .ref (A o)), (3, .int x3)]) hx hb dX12_joined_136 hl (k := 2) rfl (by rw [ev26]; rfl) (by decide) rfl (fun ls hl => ?_)
          refine lv_goto (tgt := 101) hx hb dX12_joined_139 (by decide) ?_
          exact ih x3 v26 h H locs ls hC (lo_sub hl [1, 2, 0] rfl) hw
        ·
          replace hw := (if_pos c25).mp hw
          refine lv_iload_n hx hb dX12_joined_132 rfl (lo_at hl 1 rfl) ?_
          refine lv_iconst (v := 1) hx hb dX12_joined_133 (by decide) ?_
          refine lv_iadd hx hb dX12_joined_134 ?_
          refine lv_topi (fun v27 ev27 => ?_)
          replace hw := hw v27 ev27
          refine lo_istore_n (lv' := [(3, .int v27), (0, .ref (A o)), (4, .int x4)]) hx hb dX12_joined_135 rfl hl (by decide) rfl (fun ls hl => ?_)
          obtain ⟨v28, ev28⟩ : ∃ y : Int32, y = x4 + (1 : Int32) := ⟨_, rfl⟩
          replace hw := hw v28 ev28
          refine lo_iinc (v := v28) (lv' := [(4, .int v28), (3, .int v27), (0, .ref (A o))]) hx hb dX12_joined_136 hl (k := 2) rfl (by rw [ev28]; rfl) (by decide) rfl (fun ls hl => ?_)
          refine lv_goto (tgt := 101) hx hb dX12_joined_139 (by decide) ?_
          exact ih v27 v28 h H locs ls hC (lo_sub hl [2, 1, 0] rfl) hw
set_option maxHeartbeats 4000000 in
set_option maxRecDepth 100000 in
theorem t_X12_joined_J37 {p : Program} {l : Launch} {e : Env} {s : State} {m : MethodId} {args : Array Value} {below : List Frame} {meth : Method} {c : Code} {G : GG} {base : Nat} {A : Nat → Nat} {g0 : Hp} (hM : Mx G base p s m args meth c cX12_joined 5 (some .int) RX12 "joined") (o : Nat) (x1 : Int32) (x2 : Int32) (Q : Int32 → Hp → Prop) (h : Hp) (H : Heap) (locs : List Loc) (ls : Array Slot) : Cx2 G base A g0 A h s.heap H locs → lo_has ls 5 [(0, .ref (A o)), (1, .int x1), (2, .int x2)] → wp_X12_joined_J37 o x1 x2 Q h → W p l e rm_X12_joined s m args below meth c H locs 0 0 (MQ below (va_Qi Q (PU2 G base A g0 A) (fun q => base ≤ q)) args s 0 0 (fun q => base ≤ q)) (F0 m 37 ls []) := by
  intro hC hl hw
  unfold wp_X12_joined_J37 at hw
  obtain ⟨hx, hb, hr, hml, hown, hts, hg, hs, hlk, hnm⟩ := id hM
  refine lv_aload_n hx hb dX12_joined_37 rfl (lo_at hl 0 rfl) ?_
  refine lv_iload_n hx hb dX12_joined_38 rfl (lo_at hl 1 rfl) ?_
  obtain ⟨k11, hw⟩ := hw
  refine res2_v hC (run2_V (As := [.int x1]) (rest := []) hM hC hl.1.1 kv_RX12_370 (c_X12_findsGroups l G base A o x1 h _ hw) (hc_10) k11 rfl rfl rfl ⟨Nat.le_of_ble_eq_true rfl, Nat.le_of_ble_eq_true rfl⟩ (Nat.le_of_ble_eq_true rfl) ⟨Nat.le_of_ble_eq_true rfl, Nat.le_of_ble_eq_true rfl⟩ dX12_joined_39) (fun h12 H locs hw hC => ?_)
  refine lv_iload_n hx hb dX12_joined_42 rfl (lo_at hl 2 rfl) ?_
  refine lv_iconst (v := 1) hx hb dX12_joined_43 (by decide) ?_
  refine lv_icmp_ne (tgt := 52) hx hb dX12_joined_44 (by decide) (fun c14 => ?_) (fun c14 => ?_)
  ·
    replace hw := (if_neg c14).mp hw
    refine lv_iload_n hx hb dX12_joined_52 rfl (lo_at hl 2 rfl) ?_
    refine lv_iconst (v := 2) hx hb dX12_joined_53 (by decide) ?_
    refine lv_icmp_ne (tgt := 62) hx hb dX12_joined_54 (by decide) (fun c15 => ?_) (fun c15 => ?_)
    ·
      replace hw := (if_neg c15).mp hw
      refine lv_iload_n hx hb dX12_joined_62 rfl (lo_at hl 2 rfl) ?_
      refine lv_bipush (v := 10) hx hb dX12_joined_63 (by decide) ?_
      refine lv_icmp_lt (tgt := 96) hx hb dX12_joined_65 (by decide) (fun c16 => ?_) (fun c16 => ?_)
      ·
        replace hw := (if_pos c16).mp hw
        refine lv_iconst (v := 0) hx hb dX12_joined_96 (by decide) ?_
        refine lo_istore_n (lv' := [(3, .int ((0 : Int32))), (0, .ref (A o)), (1, .int x1), (2, .int x2)]) hx hb dX12_joined_97 rfl hl (by decide) rfl (fun ls hl => ?_)
        refine lv_iconst (v := 0) hx hb dX12_joined_98 (by decide) ?_
        refine lo_istore (lv' := [(4, .int ((0 : Int32))), (3, .int ((0 : Int32))), (0, .ref (A o)), (1, .int x1), (2, .int x2)]) hx hb dX12_joined_99 hl (by decide) rfl (fun ls hl => ?_)
        refine t_X12_joined_L101 hM o _ Q ?_ fuel (0 : Int32) (0 : Int32) h12 H locs ls hC (lo_sub hl [2, 1, 0] rfl) hw
        intro y30 h29 H locs ls hC hl hw
        refine lv_iload_n hx hb dX12_joined_142 rfl (lo_at hl 0 rfl) ?_
        exact ret2_i hM hC hw dX12_joined_143
      ·
        replace hw := (if_neg c16).mp hw
        refine lv_aload_n hx hb dX12_joined_68 rfl (lo_at hl 0 rfl) ?_
        obtain ⟨k31, hw⟩ := hw
        refine s_getR hx hb hts hown hg hC fb_10_58 k31 mk_f_RX12_125 dX12_joined_69 ?_
        refine lv_iload_n hx hb dX12_joined_72 rfl (lo_at hl 2 rfl) ?_
        refine lv_bipush (v := 10) hx hb dX12_joined_73 (by decide) ?_
        refine lv_isub hx hb dX12_joined_75 ?_
        obtain ⟨k32, hw⟩ := hw
        refine sf_2 k32.1 ?_
        refine s_lald hx hb hg hC k32.2.1 k32.2.2 dX12_joined_76 ?_
        refine lv_topl (fun v33 ev33 => ?_)
        replace hw := hw v33 ev33
        refine lv_lconst (v := 0) hx hb dX12_joined_77 (by decide) ?_
        refine W.lcmp hx hb dX12_joined_78 ?_
        refine lv_if_ne (tgt := 86) hx hb dX12_joined_79 (by decide) (fun c34 => ?_) (fun c34 => ?_)
        ·
          replace hw := (if_neg c34).mp hw
          refine lv_aload_n hx hb dX12_joined_86 rfl (lo_at hl 0 rfl) ?_
          refine s_getR hx hb hts hown hg hC fb_10_59 k31 mk_f_RX12_129 dX12_joined_87 ?_
          refine lv_iload_n hx hb dX12_joined_90 rfl (lo_at hl 2 rfl) ?_
          refine lv_bipush (v := 10) hx hb dX12_joined_91 (by decide) ?_
          refine lv_isub hx hb dX12_joined_93 ?_
          obtain ⟨k35, hw⟩ := hw
          refine sf_2 k35.1 ?_
          refine s_iald hx hb hg hC k35.2.1 k35.2.2 dX12_joined_94 ?_
          refine lv_topi (fun v36 ev36 => ?_)
          replace hw := hw v36 ev36
          exact ret2_i hM hC hw dX12_joined_95
        ·
          replace hw := (if_pos c34).mp hw
          refine lv_iconst (v := -1) hx hb dX12_joined_82 (by decide) ?_
          refine lv_goto (tgt := 95) hx hb dX12_joined_83 (by decide) ?_
          exact ret2_i hM hC hw dX12_joined_95
    ·
      replace hw := (if_pos c15).mp hw
      refine lv_aload_n hx hb dX12_joined_57 rfl (lo_at hl 0 rfl) ?_
      obtain ⟨k37, hw⟩ := hw
      refine s_getI hx hb hts hown hg hC fb_10_61 k37 mk_f_RX12_361 dX12_joined_58 ?_
      exact ret2_i hM hC hw dX12_joined_61
  ·
    replace hw := (if_pos c14).mp hw
    refine lv_aload_n hx hb dX12_joined_47 rfl (lo_at hl 0 rfl) ?_
    obtain ⟨k38, hw⟩ := hw
    refine s_getI hx hb hts hown hg hC fb_10_60 k38 mk_f_RX12_358 dX12_joined_48 ?_
    exact ret2_i hM hC hw dX12_joined_51
set_option maxHeartbeats 4000000 in
set_option maxRecDepth 100000 in
theorem c_X12_joined (l : Launch) (G : GG) (base : Nat) (A : Nat → Nat) (o : Nat) (x1 : Int32) (x2 : Int32) (h : Hp) (Q : Int32 → Hp → Prop) (hw : wp_X12_joined o x1 x2 h Q) : Met l yX12_joined (ww yX12_joined cX12_joined 5 (some .int)) rm_X12_joined (va_Pc [.ref (A o), .int x1, .int x2] (PU2 G base A h A h)) (va_Qi Q (PU2 G base A h A) (fun q => base ≤ q)) 0 0 (fun q => base ≤ q) := by
  refine met2_of (own := RX12) (nm := "joined") (by decide) rfl rfl (List.forall_mem_cons.mpr ⟨rfl, (List.forall_mem_cons.mpr ⟨rfl, (List.forall_mem_cons.mpr ⟨rfl, (fun _ h => absurd h List.not_mem_nil)⟩)⟩)⟩) (Nat.le_of_ble_eq_true rfl) rfl ?_
  intro p e s m args below meth c H locs ls hM hC hl
  obtain ⟨hx, hb, hr, hml, hown, hts, hg, hs, hlk, hnm⟩ := id hM
  unfold wp_X12_joined at hw
  refine lv_aload_n hx hb dX12_joined_0 rfl (lo_at hl 0 rfl) ?_
  refine lv_iconst (v := 0) hx hb dX12_joined_1 (by decide) ?_
  obtain ⟨k1, hw⟩ := hw
  refine s_putI hx hb hts hown hg hC fb_10_0 k1 rfl rfl mk_f_RX12_132 dX12_joined_2 (fun h2 H locs eh2 hC => ?_)
  replace hw := hw h2 eh2
  refine lv_aload_n hx hb dX12_joined_5 rfl (lo_at hl 0 rfl) ?_
  refine lv_iload_n hx hb dX12_joined_6 rfl (lo_at hl 1 rfl) ?_
  obtain ⟨k3, hw⟩ := hw
  refine res2_i hC (run2_V (As := [.int x1]) (rest := []) hM hC hl.1.1 kv_RX12_309 (c_X12_isLooker l G base A o x1 h2 _ hw) (hc_10) k3 rfl rfl rfl ⟨Nat.le_of_ble_eq_true rfl, Nat.le_of_ble_eq_true rfl⟩ (Nat.le_of_ble_eq_true rfl) ⟨Nat.le_of_ble_eq_true rfl, Nat.le_of_ble_eq_true rfl⟩ dX12_joined_7) (fun z5 h4 H locs hw hC => ?_)
  refine lv_if_eq (tgt := 35) hx hb dX12_joined_10 (by decide) (fun c6 => ?_) (fun c6 => ?_)
  ·
    replace hw := (if_pos c6).mp hw
    refine lv_iconst (v := -1) hx hb dX12_joined_35 (by decide) ?_
    exact ret2_i hM hC hw dX12_joined_36
  ·
    replace hw := (if_neg c6).mp hw
    refine lv_aload_n hx hb dX12_joined_13 rfl (lo_at hl 0 rfl) ?_
    refine lv_iload_n hx hb dX12_joined_14 rfl (lo_at hl 2 rfl) ?_
    refine lv_iconst (v := 0) hx hb dX12_joined_15 (by decide) ?_
    refine lv_iconst (v := 2) hx hb dX12_joined_16 (by decide) ?_
    obtain ⟨k7, hw⟩ := hw
    refine res2_i hC (run2_V (As := [.int x2, .int ((0 : Int32)), .int ((2 : Int32))]) (rest := []) hM hC hl.1.1 kv_RX12_144 (c_X12_isIn l G base A o x2 (0 : Int32) (2 : Int32) h4 _ hw) (hc_10) k7 rfl rfl rfl ⟨Nat.le_of_ble_eq_true rfl, Nat.le_of_ble_eq_true rfl⟩ (Nat.le_of_ble_eq_true rfl) ⟨Nat.le_of_ble_eq_true rfl, Nat.le_of_ble_eq_true rfl⟩ dX12_joined_17) (fun z9 h8 H locs hw hC => ?_)
    refine lv_if_ne (tgt := 37) hx hb dX12_joined_20 (by decide) (fun c10 => ?_) (fun c10 => ?_)
    ·
      replace hw := (if_neg c10).mp hw
      exact t_X12_joined_J37 hM o x1 x2 Q  h8 H locs ls hC (lo_sub hl [0, 1, 2] rfl) hw
    ·
      replace hw := (if_pos c10).mp hw
      refine lv_aload_n hx hb dX12_joined_23 rfl (lo_at hl 0 rfl) ?_
      refine lv_iload_n hx hb dX12_joined_24 rfl (lo_at hl 2 rfl) ?_
      refine lv_bipush (v := 10) hx hb dX12_joined_25 (by decide) ?_
      refine lv_bipush (v := 17) hx hb dX12_joined_27 (by decide) ?_
      obtain ⟨k39, hw⟩ := hw
      refine res2_i hC (run2_V (As := [.int x2, .int ((10 : Int32)), .int ((17 : Int32))]) (rest := []) hM hC hl.1.1 kv_RX12_144 (c_X12_isIn l G base A o x2 (10 : Int32) (17 : Int32) h8 _ hw) (hc_10) k39 rfl rfl rfl ⟨Nat.le_of_ble_eq_true rfl, Nat.le_of_ble_eq_true rfl⟩ (Nat.le_of_ble_eq_true rfl) ⟨Nat.le_of_ble_eq_true rfl, Nat.le_of_ble_eq_true rfl⟩ dX12_joined_29) (fun z41 h40 H locs hw hC => ?_)
      refine lv_if_ne (tgt := 37) hx hb dX12_joined_32 (by decide) (fun c42 => ?_) (fun c42 => ?_)
      ·
        replace hw := (if_neg c42).mp hw
        exact t_X12_joined_J37 hM o x1 x2 Q  h40 H locs ls hC (lo_sub hl [0, 1, 2] rfl) hw
      ·
        replace hw := (if_pos c42).mp hw
        refine lv_iconst (v := -1) hx hb dX12_joined_35 (by decide) ?_
        exact ret2_i hM hC hw dX12_joined_36
abbrev rm_X12_look : Room := { frames := 1, cells := 0, slots := 0, locals := 21 }
set_option maxRecDepth 100000 in
def wp_X12_look_L78 (o : Nat) (K104 : Int32 → Hp → Prop) (Q : Int32 → Hp → Prop) : Nat → Int32 → Int32 → Hp → Prop
  | 0, _, _, _ => False
  | n + 1, x2, x3, h => ((hpK h o).1 = 20 + 10) ∧ ((if (hpI h o 12) ≤ x3 then (K104 x2 h) else (wp_X12_isShot o x3 h (fun (z13 : Int32) (h12 : Hp) => (if z13 = 0 then (∀ v16 : Int32, v16 = x2 + (1 : Int32) → (∀ v17 : Int32, v17 = x3 + (1 : Int32) → (wp_X12_look_L78 o K104 Q n v16 v17 h12))) else (∀ v15 : Int32, v15 = x3 + (1 : Int32) → (wp_X12_look_L78 o K104 Q n x2 v15 h12)))))))
set_option maxRecDepth 100000 in
def wp_X12_look (o : Nat) (x1 : Int32) (h : Hp) (Q : Int32 → Hp → Prop) : Prop := ((hpK h o).1 = 20 + 10) ∧ (∀ h2 : Hp, h2 = stI h o 0 (0 : Int32) → ((if x1 = 0 then (((hpK h2 o).1 = 20 + 10) ∧ (Q (hpI h2 o 1) h2)) else ((if x1 = (1 : Int32) then (((hpK h2 o).1 = 20 + 10) ∧ (Q (hpI h2 o 5) h2)) else ((if x1 = (2 : Int32) then (((hpK h2 o).1 = 20 + 10) ∧ (Q (hpI h2 o 12) h2)) else ((if x1 = (3 : Int32) then (((hpK h2 o).1 = 20 + 10) ∧ (Q (hpI h2 o 45) h2)) else ((if x1 = (4 : Int32) then (((hpK h2 o).1 = 20 + 10) ∧ (Q (hpI h2 o 53) h2)) else ((if x1 = (5 : Int32) then (((hpK h2 o).1 = 20 + 10) ∧ (okA h2 (hpR h2 o 25) 1 (0 : Int32) ∧ (∀ v22 : Int32, v22 = hpI h2 (ad (hpR h2 o 25)) ((0 : Int32)).toNatClampNeg → (Q v22 h2)))) else ((if x1 = (6 : Int32) then (wp_X12_look_L78 o (fun (y19 : Int32) (h18 : Hp) => Q y19 h18) Q fuel (0 : Int32) (0 : Int32) h2) else (Q (-1 : Int32) h2))))))))))))))))
set_option maxHeartbeats 4000000 in
set_option maxRecDepth 100000 in
theorem t_X12_look_L78 {p : Program} {l : Launch} {e : Env} {s : State} {m : MethodId} {args : Array Value} {below : List Frame} {meth : Method} {c : Code} {G : GG} {base : Nat} {A : Nat → Nat} {g0 : Hp} (hM : Mx G base p s m args meth c cX12_look 4 (some .int) RX12 "look") (o : Nat) (K104 : Int32 → Hp → Prop) (Q : Int32 → Hp → Prop) (hK104 : ∀ (y2 : Int32) (h : Hp) (H : Heap) (locs : List Loc) (ls : Array Slot), Cx2 G base A g0 A h s.heap H locs → lo_has ls 4 [(2, .int y2)] → K104 y2 h → W p l e rm_X12_look s m args below meth c H locs 0 0 (MQ below (va_Qi Q (PU2 G base A g0 A) (fun q => base ≤ q)) args s 0 0 (fun q => base ≤ q)) (F0 m 104 ls [])) : ∀ (n : Nat) (x2 : Int32) (x3 : Int32) (h : Hp) (H : Heap) (locs : List Loc) (ls : Array Slot), Cx2 G base A g0 A h s.heap H locs → lo_has ls 4 [(0, .ref (A o)), (2, .int x2), (3, .int x3)] → wp_X12_look_L78 o K104 Q n x2 x3 h → W p l e rm_X12_look s m args below meth c H locs 0 0 (MQ below (va_Qi Q (PU2 G base A g0 A) (fun q => base ≤ q)) args s 0 0 (fun q => base ≤ q)) (F0 m 78 ls []) := by
  intro n
  induction n with
  | zero =>
    intro x2 x3 h H locs ls hC hl hw
    rw [wp_X12_look_L78] at hw
    exact hw.elim
  | succ n ih =>
    intro x2 x3 h H locs ls hC hl hw
    rw [wp_X12_look_L78] at hw
    obtain ⟨hx, hb, hr, hml, hown, hts, hg, hs, hlk, hnm⟩ := id hM
    refine lv_iload_n hx hb dX12_look_78 rfl (lo_at hl 2 rfl) ?_
    refine lv_aload_n hx hb dX12_look_79 rfl (lo_at hl 0 rfl) ?_
    obtain ⟨k10, hw⟩ := hw
    refine s_getI hx hb hts hown hg hC fb_10_12 k10 mk_f_RX12_141 dX12_look_80 ?_
    refine lv_icmp_ge (tgt := 104) hx hb dX12_look_83 (by decide) (fun c11 => ?_) (fun c11 => ?_)
    ·
      replace hw := (if_pos c11).mp hw
      exact hK104 x2 h H locs ls hC (lo_sub hl [1] rfl) hw
    ·
      replace hw := (if_neg c11).mp hw
      refine lv_aload_n hx hb dX12_look_86 rfl (lo_at hl 0 rfl) ?_
      refine lv_iload_n hx hb dX12_look_87 rfl (lo_at hl 2 rfl) ?_
      refine res2_i hC (run2_V (As := [.int x3]) (rest := []) hM hC hl.1.1 kv_RX12_333 (c_X12_isShot l G base A o x3 h _ hw) (hc_10) k10 rfl rfl rfl ⟨Nat.le_of_ble_eq_true rfl, Nat.le_of_ble_eq_true rfl⟩ (Nat.le_of_ble_eq_true rfl) ⟨Nat.le_of_ble_eq_true rfl, Nat.le_of_ble_eq_true rfl⟩ dX12_look_88) (fun z13 h12 H locs hw hC => ?_)
      refine lv_if_ne (tgt := 98) hx hb dX12_look_91 (by decide) (fun c14 => ?_) (fun c14 => ?_)
      ·
        replace hw := (if_neg c14).mp hw
        obtain ⟨v15, ev15⟩ : ∃ y : Int32, y = x3 + (1 : Int32) := ⟨_, rfl⟩
        replace hw := hw v15 ev15
        refine lo_iinc (v := v15) (lv' := [(3, .int v15), (0, .ref (A o)), (2, .int x2)]) hx hb dX12_look_98 hl (k := 2) rfl (by rw [ev15]; rfl) (by decide) rfl (fun ls hl => ?_)
        refine lv_goto (tgt := 78) hx hb dX12_look_101 (by decide) ?_
        exact ih x2 v15 h12 H locs ls hC (lo_sub hl [1, 2, 0] rfl) hw
      ·
        replace hw := (if_pos c14).mp hw
        refine lv_iload_n hx hb dX12_look_94 rfl (lo_at hl 1 rfl) ?_
        refine lv_iconst (v := 1) hx hb dX12_look_95 (by decide) ?_
        refine lv_iadd hx hb dX12_look_96 ?_
        refine lv_topi (fun v16 ev16 => ?_)
        replace hw := hw v16 ev16
        refine lo_istore_n (lv' := [(2, .int v16), (0, .ref (A o)), (3, .int x3)]) hx hb dX12_look_97 rfl hl (by decide) rfl (fun ls hl => ?_)
        obtain ⟨v17, ev17⟩ : ∃ y : Int32, y = x3 + (1 : Int32) := ⟨_, rfl⟩
        replace hw := hw v17 ev17
        refine lo_iinc (v := v17) (lv' := [(3, .int v17), (2, .int v16), (0, .ref (A o))]) hx hb dX12_look_98 hl (k := 2) rfl (by rw [ev17]; rfl) (by decide) rfl (fun ls hl => ?_)
        refine lv_goto (tgt := 78) hx hb dX12_look_101 (by decide) ?_
        exact ih v16 v17 h12 H locs ls hC (lo_sub hl [2, 1, 0] rfl) hw
set_option maxHeartbeats 4000000 in
set_option maxRecDepth 100000 in
theorem c_X12_look (l : Launch) (G : GG) (base : Nat) (A : Nat → Nat) (o : Nat) (x1 : Int32) (h : Hp) (Q : Int32 → Hp → Prop) (hw : wp_X12_look o x1 h Q) : Met l yX12_look (ww yX12_look cX12_look 4 (some .int)) rm_X12_look (va_Pc [.ref (A o), .int x1] (PU2 G base A h A h)) (va_Qi Q (PU2 G base A h A) (fun q => base ≤ q)) 0 0 (fun q => base ≤ q) := by
  refine met2_of (own := RX12) (nm := "look") (by decide) rfl rfl (List.forall_mem_cons.mpr ⟨rfl, (List.forall_mem_cons.mpr ⟨rfl, (fun _ h => absurd h List.not_mem_nil)⟩)⟩) (Nat.le_of_ble_eq_true rfl) rfl ?_
  intro p e s m args below meth c H locs ls hM hC hl
  obtain ⟨hx, hb, hr, hml, hown, hts, hg, hs, hlk, hnm⟩ := id hM
  unfold wp_X12_look at hw
  refine lv_aload_n hx hb dX12_look_0 rfl (lo_at hl 0 rfl) ?_
  refine lv_iconst (v := 0) hx hb dX12_look_1 (by decide) ?_
  obtain ⟨k1, hw⟩ := hw
  refine s_putI hx hb hts hown hg hC fb_10_0 k1 rfl rfl mk_f_RX12_132 dX12_look_2 (fun h2 H locs eh2 hC => ?_)
  replace hw := hw h2 eh2
  refine lv_iload_n hx hb dX12_look_5 rfl (lo_at hl 1 rfl) ?_
  refine lv_if_ne (tgt := 14) hx hb dX12_look_6 (by decide) (fun c3 => ?_) (fun c3 => ?_)
  ·
    replace hw := (if_neg c3).mp hw
    refine lv_iload_n hx hb dX12_look_14 rfl (lo_at hl 1 rfl) ?_
    refine lv_iconst (v := 1) hx hb dX12_look_15 (by decide) ?_
    refine lv_icmp_ne (tgt := 24) hx hb dX12_look_16 (by decide) (fun c4 => ?_) (fun c4 => ?_)
    ·
      replace hw := (if_neg c4).mp hw
      refine lv_iload_n hx hb dX12_look_24 rfl (lo_at hl 1 rfl) ?_
      refine lv_iconst (v := 2) hx hb dX12_look_25 (by decide) ?_
      refine lv_icmp_ne (tgt := 34) hx hb dX12_look_26 (by decide) (fun c5 => ?_) (fun c5 => ?_)
      ·
        replace hw := (if_neg c5).mp hw
        refine lv_iload_n hx hb dX12_look_34 rfl (lo_at hl 1 rfl) ?_
        refine lv_iconst (v := 3) hx hb dX12_look_35 (by decide) ?_
        refine lv_icmp_ne (tgt := 44) hx hb dX12_look_36 (by decide) (fun c6 => ?_) (fun c6 => ?_)
        ·
          replace hw := (if_neg c6).mp hw
          refine lv_iload_n hx hb dX12_look_44 rfl (lo_at hl 1 rfl) ?_
          refine lv_iconst (v := 4) hx hb dX12_look_45 (by decide) ?_
          refine lv_icmp_ne (tgt := 54) hx hb dX12_look_46 (by decide) (fun c7 => ?_) (fun c7 => ?_)
          ·
            replace hw := (if_neg c7).mp hw
            refine lv_iload_n hx hb dX12_look_54 rfl (lo_at hl 1 rfl) ?_
            refine lv_iconst (v := 5) hx hb dX12_look_55 (by decide) ?_
            refine lv_icmp_ne (tgt := 66) hx hb dX12_look_56 (by decide) (fun c8 => ?_) (fun c8 => ?_)
            ·
              replace hw := (if_neg c8).mp hw
              refine lv_iload_n hx hb dX12_look_66 rfl (lo_at hl 1 rfl) ?_
              refine lv_bipush (v := 6) hx hb dX12_look_67 (by decide) ?_
              refine lv_icmp_eq (tgt := 74) hx hb dX12_look_69 (by decide) (fun c9 => ?_) (fun c9 => ?_)
              ·
                replace hw := (if_pos c9).mp hw
                refine lv_iconst (v := 0) hx hb dX12_look_74 (by decide) ?_
                refine lo_istore_n (lv' := [(2, .int ((0 : Int32))), (0, .ref (A o)), (1, .int x1)]) hx hb dX12_look_75 rfl hl (by decide) rfl (fun ls hl => ?_)
                refine lv_iconst (v := 0) hx hb dX12_look_76 (by decide) ?_
                refine lo_istore_n (lv' := [(3, .int ((0 : Int32))), (2, .int ((0 : Int32))), (0, .ref (A o)), (1, .int x1)]) hx hb dX12_look_77 rfl hl (by decide) rfl (fun ls hl => ?_)
                refine t_X12_look_L78 hM o _ Q ?_ fuel (0 : Int32) (0 : Int32) h2 H locs ls hC (lo_sub hl [2, 1, 0] rfl) hw
                intro y19 h18 H locs ls hC hl hw
                refine lv_iload_n hx hb dX12_look_104 rfl (lo_at hl 0 rfl) ?_
                exact ret2_i hM hC hw dX12_look_105
              ·
                replace hw := (if_neg c9).mp hw
                refine lv_iconst (v := -1) hx hb dX12_look_72 (by decide) ?_
                exact ret2_i hM hC hw dX12_look_73
            ·
              replace hw := (if_pos c8).mp hw
              refine lv_aload_n hx hb dX12_look_59 rfl (lo_at hl 0 rfl) ?_
              obtain ⟨k20, hw⟩ := hw
              refine s_getR hx hb hts hown hg hC fb_10_25 k20 mk_f_RX12_55 dX12_look_60 ?_
              refine lv_iconst (v := 0) hx hb dX12_look_63 (by decide) ?_
              obtain ⟨k21, hw⟩ := hw
              refine sf_2 k21.1 ?_
              refine s_iald hx hb hg hC k21.2.1 k21.2.2 dX12_look_64 ?_
              refine lv_topi (fun v22 ev22 => ?_)
              replace hw := hw v22 ev22
              exact ret2_i hM hC hw dX12_look_65
          ·
            replace hw := (if_pos c7).mp hw
            refine lv_aload_n hx hb dX12_look_49 rfl (lo_at hl 0 rfl) ?_
            obtain ⟨k23, hw⟩ := hw
            refine s_getI hx hb hts hown hg hC fb_10_53 k23 mk_f_RX12_342 dX12_look_50 ?_
            exact ret2_i hM hC hw dX12_look_53
        ·
          replace hw := (if_pos c6).mp hw
          refine lv_aload_n hx hb dX12_look_39 rfl (lo_at hl 0 rfl) ?_
          obtain ⟨k24, hw⟩ := hw
          refine s_getI hx hb hts hown hg hC fb_10_45 k24 mk_f_RX12_283 dX12_look_40 ?_
          exact ret2_i hM hC hw dX12_look_43
      ·
        replace hw := (if_pos c5).mp hw
        refine lv_aload_n hx hb dX12_look_29 rfl (lo_at hl 0 rfl) ?_
        obtain ⟨k25, hw⟩ := hw
        refine s_getI hx hb hts hown hg hC fb_10_12 k25 mk_f_RX12_141 dX12_look_30 ?_
        exact ret2_i hM hC hw dX12_look_33
    ·
      replace hw := (if_pos c4).mp hw
      refine lv_aload_n hx hb dX12_look_19 rfl (lo_at hl 0 rfl) ?_
      obtain ⟨k26, hw⟩ := hw
      refine s_getI hx hb hts hown hg hC fb_10_5 k26 mk_f_RX12_138 dX12_look_20 ?_
      exact ret2_i hM hC hw dX12_look_23
  ·
    replace hw := (if_pos c3).mp hw
    refine lv_aload_n hx hb dX12_look_9 rfl (lo_at hl 0 rfl) ?_
    obtain ⟨k27, hw⟩ := hw
    refine s_getI hx hb hts hown hg hC fb_10_1 k27 mk_f_RX12_135 dX12_look_10 ?_
    exact ret2_i hM hC hw dX12_look_13
abbrev rm_J6_bitCount_0f7a4 : Room := { frames := 0, cells := 0, slots := 0, locals := 0 }
set_option maxRecDepth 100000 in
def wp_J6_bitCount_0f7a4 (x0 : Int32) (h : Hp) (Q : Int32 → Hp → Prop) : Prop := ∀ v1 : Int32, v1 = x0 - ((((x0).toUInt32 >>> (((1 : Int32)).toUInt32 &&& Int32.toUInt32 31)).toInt32) &&& (1431655765 : Int32)) → (∀ v2 : Int32, v2 = (v1 &&& (858993459 : Int32)) + ((((v1).toUInt32 >>> (((2 : Int32)).toUInt32 &&& Int32.toUInt32 31)).toInt32) &&& (858993459 : Int32)) → (∀ v3 : Int32, v3 = (v2 + (((v2).toUInt32 >>> (((4 : Int32)).toUInt32 &&& Int32.toUInt32 31)).toInt32)) &&& (252645135 : Int32) → (∀ v4 : Int32, v4 = v3 + (((v3).toUInt32 >>> (((8 : Int32)).toUInt32 &&& Int32.toUInt32 31)).toInt32) → (∀ v5 : Int32, v5 = v4 + (((v4).toUInt32 >>> (((16 : Int32)).toUInt32 &&& Int32.toUInt32 31)).toInt32) → (Q (v5 &&& (63 : Int32)) h)))))
set_option maxHeartbeats 4000000 in
set_option maxRecDepth 100000 in
theorem c_J6_bitCount_0f7a4 (l : Launch) (G : GG) (base : Nat) (A : Nat → Nat) (x0 : Int32) (h : Hp) (Q : Int32 → Hp → Prop) (hw : wp_J6_bitCount_0f7a4 x0 h Q) : Met l yJ6_bitCount_0f7a4 (ww yJ6_bitCount_0f7a4 cJ6_bitCount_0f7a4 1 (some .int)) rm_J6_bitCount_0f7a4 (va_Pc [.int x0] (PU2 G base A h A h)) (va_Qi Q (PU2 G base A h A) (fun q => base ≤ q)) 0 0 (fun q => base ≤ q) := by
  refine met2_of (own := RJ6) (nm := "bitCount") (by decide) rfl rfl (List.forall_mem_cons.mpr ⟨rfl, (fun _ h => absurd h List.not_mem_nil)⟩) (Nat.le_of_ble_eq_true rfl) rfl ?_
  intro p e s m args below meth c H locs ls hM hC hl
  obtain ⟨hx, hb, hr, hml, hown, hts, hg, hs, hlk, hnm⟩ := id hM
  unfold wp_J6_bitCount_0f7a4 at hw
  refine lv_iload_n hx hb dJ6_bitCount_0f7a4_0 rfl (lo_at hl 0 rfl) ?_
  refine lv_iload_n hx hb dJ6_bitCount_0f7a4_1 rfl (lo_at hl 0 rfl) ?_
  refine lv_iconst (v := 1) hx hb dJ6_bitCount_0f7a4_2 (by decide) ?_
  refine lv_iushr hx hb dJ6_bitCount_0f7a4_3 (v := ((x0).toUInt32 >>> (((1 : Int32)).toUInt32 &&& Int32.toUInt32 31)).toInt32) rfl ?_
  refine lv_ldcw (v := 1431655765) hx hb hown (hts _ mk_k_RJ6_265) dJ6_bitCount_0f7a4_4 ?_
  refine lv_iand hx hb dJ6_bitCount_0f7a4_7 ?_
  refine lv_isub hx hb dJ6_bitCount_0f7a4_8 ?_
  refine lv_topi (fun v1 ev1 => ?_)
  replace hw := hw v1 ev1
  refine lo_istore_n (lv' := [(0, .int v1)]) hx hb dJ6_bitCount_0f7a4_9 rfl hl (by decide) rfl (fun ls hl => ?_)
  refine lv_iload_n hx hb dJ6_bitCount_0f7a4_10 rfl (lo_at hl 0 rfl) ?_
  refine lv_ldcw (v := 858993459) hx hb hown (hts _ mk_k_RJ6_266) dJ6_bitCount_0f7a4_11 ?_
  refine lv_iand hx hb dJ6_bitCount_0f7a4_14 ?_
  refine lv_iload_n hx hb dJ6_bitCount_0f7a4_15 rfl (lo_at hl 0 rfl) ?_
  refine lv_iconst (v := 2) hx hb dJ6_bitCount_0f7a4_16 (by decide) ?_
  refine lv_iushr hx hb dJ6_bitCount_0f7a4_17 (v := ((v1).toUInt32 >>> (((2 : Int32)).toUInt32 &&& Int32.toUInt32 31)).toInt32) rfl ?_
  refine lv_ldcw (v := 858993459) hx hb hown (hts _ mk_k_RJ6_266) dJ6_bitCount_0f7a4_18 ?_
  refine lv_iand hx hb dJ6_bitCount_0f7a4_21 ?_
  refine lv_iadd hx hb dJ6_bitCount_0f7a4_22 ?_
  refine lv_topi (fun v2 ev2 => ?_)
  replace hw := hw v2 ev2
  refine lo_istore_n (lv' := [(0, .int v2)]) hx hb dJ6_bitCount_0f7a4_23 rfl hl (by decide) rfl (fun ls hl => ?_)
  refine lv_iload_n hx hb dJ6_bitCount_0f7a4_24 rfl (lo_at hl 0 rfl) ?_
  refine lv_iload_n hx hb dJ6_bitCount_0f7a4_25 rfl (lo_at hl 0 rfl) ?_
  refine lv_iconst (v := 4) hx hb dJ6_bitCount_0f7a4_26 (by decide) ?_
  refine lv_iushr hx hb dJ6_bitCount_0f7a4_27 (v := ((v2).toUInt32 >>> (((4 : Int32)).toUInt32 &&& Int32.toUInt32 31)).toInt32) rfl ?_
  refine lv_iadd hx hb dJ6_bitCount_0f7a4_28 ?_
  refine lv_ldcw (v := 252645135) hx hb hown (hts _ mk_k_RJ6_267) dJ6_bitCount_0f7a4_29 ?_
  refine lv_iand hx hb dJ6_bitCount_0f7a4_32 ?_
  refine lv_topi (fun v3 ev3 => ?_)
  replace hw := hw v3 ev3
  refine lo_istore_n (lv' := [(0, .int v3)]) hx hb dJ6_bitCount_0f7a4_33 rfl hl (by decide) rfl (fun ls hl => ?_)
  refine lv_iload_n hx hb dJ6_bitCount_0f7a4_34 rfl (lo_at hl 0 rfl) ?_
  refine lv_iload_n hx hb dJ6_bitCount_0f7a4_35 rfl (lo_at hl 0 rfl) ?_
  refine lv_bipush (v := 8) hx hb dJ6_bitCount_0f7a4_36 (by decide) ?_
  refine lv_iushr hx hb dJ6_bitCount_0f7a4_38 (v := ((v3).toUInt32 >>> (((8 : Int32)).toUInt32 &&& Int32.toUInt32 31)).toInt32) rfl ?_
  refine lv_iadd hx hb dJ6_bitCount_0f7a4_39 ?_
  refine lv_topi (fun v4 ev4 => ?_)
  replace hw := hw v4 ev4
  refine lo_istore_n (lv' := [(0, .int v4)]) hx hb dJ6_bitCount_0f7a4_40 rfl hl (by decide) rfl (fun ls hl => ?_)
  refine lv_iload_n hx hb dJ6_bitCount_0f7a4_41 rfl (lo_at hl 0 rfl) ?_
  refine lv_iload_n hx hb dJ6_bitCount_0f7a4_42 rfl (lo_at hl 0 rfl) ?_
  refine lv_bipush (v := 16) hx hb dJ6_bitCount_0f7a4_43 (by decide) ?_
  refine lv_iushr hx hb dJ6_bitCount_0f7a4_45 (v := ((v4).toUInt32 >>> (((16 : Int32)).toUInt32 &&& Int32.toUInt32 31)).toInt32) rfl ?_
  refine lv_iadd hx hb dJ6_bitCount_0f7a4_46 ?_
  refine lv_topi (fun v5 ev5 => ?_)
  replace hw := hw v5 ev5
  refine lo_istore_n (lv' := [(0, .int v5)]) hx hb dJ6_bitCount_0f7a4_47 rfl hl (by decide) rfl (fun ls hl => ?_)
  refine lv_iload_n hx hb dJ6_bitCount_0f7a4_48 rfl (lo_at hl 0 rfl) ?_
  refine lv_bipush (v := 63) hx hb dJ6_bitCount_0f7a4_49 (by decide) ?_
  refine lv_iand hx hb dJ6_bitCount_0f7a4_51 ?_
  exact ret2_i hM hC hw dJ6_bitCount_0f7a4_52
abbrev rm_J0_coder_7d493 : Room := { frames := 0, cells := 0, slots := 0, locals := 0 }
set_option maxRecDepth 100000 in
def wp_J0_coder_7d493 (o : Nat) (h : Hp) (Q : Int32 → Hp → Prop) : Prop := (if (1 : Int32) = 0 then (Q (1 : Int32) h) else ((o < 2) ∧ (Q (0 : Int32) h)))
set_option maxHeartbeats 4000000 in
set_option maxRecDepth 100000 in
theorem c_J0_coder_7d493 (l : Launch) (G : GG) (base : Nat) (A : Nat → Nat) (o : Nat) (h : Hp) (Q : Int32 → Hp → Prop) (hw : wp_J0_coder_7d493 o h Q) : Met l yJ0_coder_7d493 (ww yJ0_coder_7d493 cJ0_coder_7d493 1 (some .byte)) rm_J0_coder_7d493 (va_Pc [.ref (G.2.2.1 o)] (PU2 G base A h A h)) (va_Qi Q (PU2 G base A h A) (fun q => base ≤ q)) 0 0 (fun q => base ≤ q) := by
  refine met2_of (own := RJ0) (nm := "coder") (by decide) rfl rfl (List.forall_mem_cons.mpr ⟨rfl, (fun _ h => absurd h List.not_mem_nil)⟩) (Nat.le_of_ble_eq_true rfl) rfl ?_
  intro p e s m args below meth c H locs ls hM hC hl
  obtain ⟨hx, hb, hr, hml, hown, hts, hg, hs, hlk, hnm⟩ := id hM
  unfold wp_J0_coder_7d493 at hw
  refine va_gets (v := .int 1) hx hb hs.1.2.1 hC.1.2.2 hown (hts _ mk_f_RJ0_38) (fun _ h => h) dJ0_coder_7d493_0 ?_
  refine lv_if_eq (tgt := 13) hx hb dJ0_coder_7d493_3 (by decide) (fun c1 => ?_) (fun c1 => ?_)
  ·
    replace hw := (if_pos c1).mp hw
    refine lv_iconst (v := 1) hx hb dJ0_coder_7d493_13 (by decide) ?_
    exact ret2_t hM hC rfl hw dJ0_coder_7d493_14
  ·
    replace hw := (if_neg c1).mp hw
    refine lv_aload_n hx hb dJ0_coder_7d493_6 rfl (lo_at hl 0 rfl) ?_
    obtain ⟨k2, hw⟩ := hw
    refine vk_getf hx hb (hs.1.1.1 _ k2).2.1 hC.1.2.2 hown (hts _ mk_f_RJ0_15) (fun _ h => h) dJ0_coder_7d493_7 ?_
    refine lv_goto (tgt := 14) hx hb dJ0_coder_7d493_10 (by decide) ?_
    exact ret2_t hM hC rfl hw dJ0_coder_7d493_14
abbrev rm_J0_isLatin1_aae02 : Room := { frames := 0, cells := 0, slots := 0, locals := 0 }
set_option maxRecDepth 100000 in
def wp_J0_isLatin1_aae02 (o : Nat) (h : Hp) (Q : Int32 → Hp → Prop) : Prop := (if (1 : Int32) = 0 then (Q (0 : Int32) h) else ((o < 2) ∧ ((if (0 : Int32) = 0 then (Q (1 : Int32) h) else (Q (0 : Int32) h)))))
set_option maxHeartbeats 4000000 in
set_option maxRecDepth 100000 in
theorem c_J0_isLatin1_aae02 (l : Launch) (G : GG) (base : Nat) (A : Nat → Nat) (o : Nat) (h : Hp) (Q : Int32 → Hp → Prop) (hw : wp_J0_isLatin1_aae02 o h Q) : Met l yJ0_isLatin1_aae02 (ww yJ0_isLatin1_aae02 cJ0_isLatin1_aae02 1 (some .boolean)) rm_J0_isLatin1_aae02 (va_Pc [.ref (G.2.2.1 o)] (PU2 G base A h A h)) (va_Qi Q (PU2 G base A h A) (fun q => base ≤ q)) 0 0 (fun q => base ≤ q) := by
  refine met2_of (own := RJ0) (nm := "isLatin1") (by decide) rfl rfl (List.forall_mem_cons.mpr ⟨rfl, (fun _ h => absurd h List.not_mem_nil)⟩) (Nat.le_of_ble_eq_true rfl) rfl ?_
  intro p e s m args below meth c H locs ls hM hC hl
  obtain ⟨hx, hb, hr, hml, hown, hts, hg, hs, hlk, hnm⟩ := id hM
  unfold wp_J0_isLatin1_aae02 at hw
  refine va_gets (v := .int 1) hx hb hs.1.2.1 hC.1.2.2 hown (hts _ mk_f_RJ0_38) (fun _ h => h) dJ0_isLatin1_aae02_0 ?_
  refine lv_if_eq (tgt := 17) hx hb dJ0_isLatin1_aae02_3 (by decide) (fun c1 => ?_) (fun c1 => ?_)
  ·
    replace hw := (if_pos c1).mp hw
    refine lv_iconst (v := 0) hx hb dJ0_isLatin1_aae02_17 (by decide) ?_
    exact ret2_t hM hC rfl hw dJ0_isLatin1_aae02_18
  ·
    replace hw := (if_neg c1).mp hw
    refine lv_aload_n hx hb dJ0_isLatin1_aae02_6 rfl (lo_at hl 0 rfl) ?_
    obtain ⟨k2, hw⟩ := hw
    refine vk_getf hx hb (hs.1.1.1 _ k2).2.1 hC.1.2.2 hown (hts _ mk_f_RJ0_15) (fun _ h => h) dJ0_isLatin1_aae02_7 ?_
    refine lv_if_ne (tgt := 17) hx hb dJ0_isLatin1_aae02_10 (by decide) (fun c3 => ?_) (fun c3 => ?_)
    ·
      replace hw := (if_neg c3).mp hw
      refine lv_iconst (v := 0) hx hb dJ0_isLatin1_aae02_17 (by decide) ?_
      exact ret2_t hM hC rfl hw dJ0_isLatin1_aae02_18
    ·
      replace hw := (if_pos c3).mp hw
      refine lv_iconst (v := 1) hx hb dJ0_isLatin1_aae02_13 (by decide) ?_
      refine lv_goto (tgt := 18) hx hb dJ0_isLatin1_aae02_14 (by decide) ?_
      exact ret2_t hM hC rfl hw dJ0_isLatin1_aae02_18
abbrev rm_J1_canEncode_9a6ad : Room := { frames := 0, cells := 0, slots := 0, locals := 0 }
set_option maxRecDepth 100000 in
def wp_J1_canEncode_9a6ad (x0 : Int32) (h : Hp) (Q : Int32 → Hp → Prop) : Prop := (if x0 < 0 then (Q (0 : Int32) h) else ((if (255 : Int32) < x0 then (Q (0 : Int32) h) else (Q (1 : Int32) h))))
set_option maxHeartbeats 4000000 in
set_option maxRecDepth 100000 in
theorem c_J1_canEncode_9a6ad (l : Launch) (G : GG) (base : Nat) (A : Nat → Nat) (x0 : Int32) (h : Hp) (Q : Int32 → Hp → Prop) (hw : wp_J1_canEncode_9a6ad x0 h Q) : Met l yJ1_canEncode_9a6ad (ww yJ1_canEncode_9a6ad cJ1_canEncode_9a6ad 1 (some .boolean)) rm_J1_canEncode_9a6ad (va_Pc [.int x0] (PU2 G base A h A h)) (va_Qi Q (PU2 G base A h A) (fun q => base ≤ q)) 0 0 (fun q => base ≤ q) := by
  refine met2_of (own := RJ1) (nm := "canEncode") (by decide) rfl rfl (List.forall_mem_cons.mpr ⟨rfl, (fun _ h => absurd h List.not_mem_nil)⟩) (Nat.le_of_ble_eq_true rfl) rfl ?_
  intro p e s m args below meth c H locs ls hM hC hl
  obtain ⟨hx, hb, hr, hml, hown, hts, hg, hs, hlk, hnm⟩ := id hM
  unfold wp_J1_canEncode_9a6ad at hw
  refine lv_iload_n hx hb dJ1_canEncode_9a6ad_0 rfl (lo_at hl 0 rfl) ?_
  refine lv_if_lt (tgt := 15) hx hb dJ1_canEncode_9a6ad_1 (by decide) (fun c1 => ?_) (fun c1 => ?_)
  ·
    replace hw := (if_pos c1).mp hw
    refine lv_iconst (v := 0) hx hb dJ1_canEncode_9a6ad_15 (by decide) ?_
    exact ret2_t hM hC rfl hw dJ1_canEncode_9a6ad_16
  ·
    replace hw := (if_neg c1).mp hw
    refine lv_iload_n hx hb dJ1_canEncode_9a6ad_4 rfl (lo_at hl 0 rfl) ?_
    refine lv_sipush (v := 255) hx hb dJ1_canEncode_9a6ad_5 (by decide) ?_
    refine lv_icmp_gt (tgt := 15) hx hb dJ1_canEncode_9a6ad_8 (by decide) (fun c2 => ?_) (fun c2 => ?_)
    ·
      replace hw := (if_pos c2).mp hw
      refine lv_iconst (v := 0) hx hb dJ1_canEncode_9a6ad_15 (by decide) ?_
      exact ret2_t hM hC rfl hw dJ1_canEncode_9a6ad_16
    ·
      replace hw := (if_neg c2).mp hw
      refine lv_iconst (v := 1) hx hb dJ1_canEncode_9a6ad_11 (by decide) ?_
      refine lv_goto (tgt := 16) hx hb dJ1_canEncode_9a6ad_12 (by decide) ?_
      exact ret2_t hM hC rfl hw dJ1_canEncode_9a6ad_16
abbrev rm_J1_indexOfChar_4cfef : Room := { frames := 0, cells := 0, slots := 0, locals := 0 }
set_option maxRecDepth 100000 in
def wp_J1_indexOfChar_4cfef_L7 (i0 : Nat) (x3 : Int32) (x4 : Int32) (K22 : Int32 → Hp → Prop) (K31 : Hp → Prop) (Q : Int32 → Hp → Prop) : Nat → Int32 → Hp → Prop
  | 0, _, _ => False
  | n + 1, x5, h => (if x3 ≤ x5 then (K31 h) else ((i0 < 2) ∧ (vp_in x5 (lnJ.getD i0 0) ∧ (∀ v5 : Int32, v5 = (byJ.getD i0 []).getD (x5).toNatClampNeg 0 → ((if v5 = x4 then (K22 x5 h) else (∀ v7 : Int32, v7 = x5 + (1 : Int32) → (wp_J1_indexOfChar_4cfef_L7 i0 x3 x4 K22 K31 Q n v7 h))))))))
set_option maxRecDepth 100000 in
def wp_J1_indexOfChar_4cfef (i0 : Nat) (x1 : Int32) (x2 : Int32) (x3 : Int32) (h : Hp) (Q : Int32 → Hp → Prop) : Prop := ∀ v1 : Int32, v1 = (x1).toInt8.toInt32 → (wp_J1_indexOfChar_4cfef_L7 i0 x3 v1 (fun (y9 : Int32) (h8 : Hp) => Q y9 h8) (fun (h10 : Hp) => Q (-1 : Int32) h10) Q fuel x2 h)
set_option maxHeartbeats 4000000 in
set_option maxRecDepth 100000 in
theorem t_J1_indexOfChar_4cfef_L7 {p : Program} {l : Launch} {e : Env} {s : State} {m : MethodId} {args : Array Value} {below : List Frame} {meth : Method} {c : Code} {G : GG} {base : Nat} {A : Nat → Nat} {g0 : Hp} (hM : Mx G base p s m args meth c cJ1_indexOfChar_4cfef 6 (some .int) RJ1 "indexOfChar") (i0 : Nat) (x3 : Int32) (x4 : Int32) (K22 : Int32 → Hp → Prop) (K31 : Hp → Prop) (Q : Int32 → Hp → Prop) (hK22 : ∀ (y5 : Int32) (h : Hp) (H : Heap) (locs : List Loc) (ls : Array Slot), Cx2 G base A g0 A h s.heap H locs → lo_has ls 6 [(5, .int y5)] → K22 y5 h → W p l e rm_J1_indexOfChar_4cfef s m args below meth c H locs 0 0 (MQ below (va_Qi Q (PU2 G base A g0 A) (fun q => base ≤ q)) args s 0 0 (fun q => base ≤ q)) (F0 m 22 ls [])) (hK31 : ∀ (h : Hp) (H : Heap) (locs : List Loc) (ls : Array Slot), Cx2 G base A g0 A h s.heap H locs → lo_has ls 6 [] → K31 h → W p l e rm_J1_indexOfChar_4cfef s m args below meth c H locs 0 0 (MQ below (va_Qi Q (PU2 G base A g0 A) (fun q => base ≤ q)) args s 0 0 (fun q => base ≤ q)) (F0 m 31 ls [])) : ∀ (n : Nat) (x5 : Int32) (h : Hp) (H : Heap) (locs : List Loc) (ls : Array Slot), Cx2 G base A g0 A h s.heap H locs → lo_has ls 6 [(0, .ref (G.2.2.2 i0)), (3, .int x3), (4, .int x4), (5, .int x5)] → wp_J1_indexOfChar_4cfef_L7 i0 x3 x4 K22 K31 Q n x5 h → W p l e rm_J1_indexOfChar_4cfef s m args below meth c H locs 0 0 (MQ below (va_Qi Q (PU2 G base A g0 A) (fun q => base ≤ q)) args s 0 0 (fun q => base ≤ q)) (F0 m 7 ls []) := by
  intro n
  induction n with
  | zero =>
    intro x5 h H locs ls hC hl hw
    rw [wp_J1_indexOfChar_4cfef_L7] at hw
    exact hw.elim
  | succ n ih =>
    intro x5 h H locs ls hC hl hw
    rw [wp_J1_indexOfChar_4cfef_L7] at hw
    obtain ⟨hx, hb, hr, hml, hown, hts, hg, hs, hlk, hnm⟩ := id hM
    refine lv_iload hx hb dJ1_indexOfChar_4cfef_7 (lo_at hl 3 rfl) ?_
    refine lv_iload_n hx hb dJ1_indexOfChar_4cfef_9 rfl (lo_at hl 1 rfl) ?_
    refine lv_icmp_ge (tgt := 31) hx hb dJ1_indexOfChar_4cfef_10 (by decide) (fun c2 => ?_) (fun c2 => ?_)
    ·
      replace hw := (if_pos c2).mp hw
      exact hK31  h H locs ls hC (lo_sub hl [] rfl) hw
    ·
      replace hw := (if_neg c2).mp hw
      refine lv_aload_n hx hb dJ1_indexOfChar_4cfef_13 rfl (lo_at hl 0 rfl) ?_
      refine lv_iload hx hb dJ1_indexOfChar_4cfef_14 (lo_at hl 3 rfl) ?_
      obtain ⟨k3, hw⟩ := hw
      obtain ⟨k4, hw⟩ := hw
      refine va_tb hx hb (hs.1.1.1 _ k3).2.2.2 hC.1.2.2 k4 (v := .int ((byJ.getD i0 []).getD (x5).toNatClampNeg 0)) rfl dJ1_indexOfChar_4cfef_16 ?_
      refine lv_topi (fun v5 ev5 => ?_)
      replace hw := hw v5 ev5
      refine lv_iload hx hb dJ1_indexOfChar_4cfef_17 (lo_at hl 2 rfl) ?_
      refine lv_icmp_ne (tgt := 25) hx hb dJ1_indexOfChar_4cfef_19 (by decide) (fun c6 => ?_) (fun c6 => ?_)
      ·
        replace hw := (if_neg c6).mp hw
        obtain ⟨v7, ev7⟩ : ∃ y : Int32, y = x5 + (1 : Int32) := ⟨_, rfl⟩
        replace hw := hw v7 ev7
        refine lo_iinc (v := v7) (lv' := [(5, .int v7), (0, .ref (G.2.2.2 i0)), (3, .int x3), (4, .int x4)]) hx hb dJ1_indexOfChar_4cfef_25 hl (k := 3) rfl (by rw [ev7]; rfl) (by decide) rfl (fun ls hl => ?_)
        refine lv_goto (tgt := 7) hx hb dJ1_indexOfChar_4cfef_28 (by decide) ?_
        exact ih v7 h H locs ls hC (lo_sub hl [1, 2, 3, 0] rfl) hw
      ·
        replace hw := (if_pos c6).mp hw
        exact hK22 x5 h H locs ls hC (lo_sub hl [3] rfl) hw
set_option maxHeartbeats 4000000 in
set_option maxRecDepth 100000 in
theorem c_J1_indexOfChar_4cfef (l : Launch) (G : GG) (base : Nat) (A : Nat → Nat) (i0 : Nat) (x1 : Int32) (x2 : Int32) (x3 : Int32) (h : Hp) (Q : Int32 → Hp → Prop) (hw : wp_J1_indexOfChar_4cfef i0 x1 x2 x3 h Q) : Met l yJ1_indexOfChar_4cfef (ww yJ1_indexOfChar_4cfef cJ1_indexOfChar_4cfef 6 (some .int)) rm_J1_indexOfChar_4cfef (va_Pc [.ref (G.2.2.2 i0), .int x1, .int x2, .int x3] (PU2 G base A h A h)) (va_Qi Q (PU2 G base A h A) (fun q => base ≤ q)) 0 0 (fun q => base ≤ q) := by
  refine met2_of (own := RJ1) (nm := "indexOfChar") (by decide) rfl rfl (List.forall_mem_cons.mpr ⟨rfl, (List.forall_mem_cons.mpr ⟨rfl, (List.forall_mem_cons.mpr ⟨rfl, (List.forall_mem_cons.mpr ⟨rfl, (fun _ h => absurd h List.not_mem_nil)⟩)⟩)⟩)⟩) (Nat.le_of_ble_eq_true rfl) rfl ?_
  intro p e s m args below meth c H locs ls hM hC hl
  obtain ⟨hx, hb, hr, hml, hown, hts, hg, hs, hlk, hnm⟩ := id hM
  unfold wp_J1_indexOfChar_4cfef at hw
  refine lv_iload_n hx hb dJ1_indexOfChar_4cfef_0 rfl (lo_at hl 1 rfl) ?_
  refine lv_i2b hx hb dJ1_indexOfChar_4cfef_1 (v := (x1).toInt8.toInt32) rfl ?_
  refine lv_topi (fun v1 ev1 => ?_)
  replace hw := hw v1 ev1
  refine lo_istore (lv' := [(4, .int v1), (0, .ref (G.2.2.2 i0)), (1, .int x1), (2, .int x2), (3, .int x3)]) hx hb dJ1_indexOfChar_4cfef_2 hl (by decide) rfl (fun ls hl => ?_)
  refine lv_iload_n hx hb dJ1_indexOfChar_4cfef_4 rfl (lo_at hl 3 rfl) ?_
  refine lo_istore (lv' := [(5, .int x2), (4, .int v1), (0, .ref (G.2.2.2 i0)), (1, .int x1), (2, .int x2), (3, .int x3)]) hx hb dJ1_indexOfChar_4cfef_5 hl (by decide) rfl (fun ls hl => ?_)
  refine t_J1_indexOfChar_4cfef_L7 hM i0 x3 v1 _ _ Q ?_ ?_ fuel x2 h H locs ls hC (lo_sub hl [2, 5, 1, 0] rfl) hw
  ·
    intro y9 h8 H locs ls hC hl hw
    refine lv_iload hx hb dJ1_indexOfChar_4cfef_22 (lo_at hl 0 rfl) ?_
    exact ret2_i hM hC hw dJ1_indexOfChar_4cfef_24
  ·
    intro  h10 H locs ls hC hl hw
    refine lv_iconst (v := -1) hx hb dJ1_indexOfChar_4cfef_31 (by decide) ?_
    exact ret2_i hM hC hw dJ1_indexOfChar_4cfef_32
abbrev rm_J7_fill_53178 : Room := { frames := 0, cells := 0, slots := 0, locals := 0 }
set_option maxRecDepth 100000 in
def wp_J7_fill_53178_L5 (r0 : Option Nat) (x1 : Int32) (x3 : Int32) (K20 : Hp → Prop) (Q : Hp → Prop) : Nat → Int32 → Hp → Prop
  | 0, _, _ => False
  | n + 1, x2, h => (if x3 ≤ x2 then (K20 h) else (okA h r0 1 x2 ∧ (∀ h5 : Hp, h5 = stI h (ad r0) (x2).toNatClampNeg x1 → (∀ v6 : Int32, v6 = x2 + (1 : Int32) → (wp_J7_fill_53178_L5 r0 x1 x3 K20 Q n v6 h5)))))
set_option maxRecDepth 100000 in
def wp_J7_fill_53178 (r0 : Option Nat) (x1 : Int32) (h : Hp) (Q : Hp → Prop) : Prop := okN h r0 1 ∧ (∀ v2 : Int32, v2 = nI (hpK h (ad r0)).2 → (wp_J7_fill_53178_L5 r0 x1 v2 (fun (h7 : Hp) => Q h7) Q fuel (0 : Int32) h))
set_option maxHeartbeats 4000000 in
set_option maxRecDepth 100000 in
theorem t_J7_fill_53178_L5 {p : Program} {l : Launch} {e : Env} {s : State} {m : MethodId} {args : Array Value} {below : List Frame} {meth : Method} {c : Code} {G : GG} {base : Nat} {A : Nat → Nat} {g0 : Hp} (hM : Mx G base p s m args meth c cJ7_fill_53178 4 none RJ7 "fill") (r0 : Option Nat) (x1 : Int32) (x3 : Int32) (K20 : Hp → Prop) (Q : Hp → Prop) (hK20 : ∀ (h : Hp) (H : Heap) (locs : List Loc) (ls : Array Slot), Cx2 G base A g0 A h s.heap H locs → lo_has ls 4 [] → K20 h → W p l e rm_J7_fill_53178 s m args below meth c H locs 0 0 (MQ below (va_Qv Q (PU2 G base A g0 A) (fun q => base ≤ q)) args s 0 0 (fun q => base ≤ q)) (F0 m 20 ls [])) : ∀ (n : Nat) (x2 : Int32) (h : Hp) (H : Heap) (locs : List Loc) (ls : Array Slot), Cx2 G base A g0 A h s.heap H locs → lo_has ls 4 [(0, va_rf (Option.map A r0)), (1, .int x1), (2, .int x2), (3, .int x3)] → wp_J7_fill_53178_L5 r0 x1 x3 K20 Q n x2 h → W p l e rm_J7_fill_53178 s m args below meth c H locs 0 0 (MQ below (va_Qv Q (PU2 G base A g0 A) (fun q => base ≤ q)) args s 0 0 (fun q => base ≤ q)) (F0 m 5 ls []) := by
  intro n
  induction n with
  | zero =>
    intro x2 h H locs ls hC hl hw
    rw [wp_J7_fill_53178_L5] at hw
    exact hw.elim
  | succ n ih =>
    intro x2 h H locs ls hC hl hw
    rw [wp_J7_fill_53178_L5] at hw
    obtain ⟨hx, hb, hr, hml, hown, hts, hg, hs, hlk, hnm⟩ := id hM
    refine lv_iload_n hx hb dJ7_fill_53178_5 rfl (lo_at hl 2 rfl) ?_
    refine lv_iload_n hx hb dJ7_fill_53178_6 rfl (lo_at hl 3 rfl) ?_
    refine lv_icmp_ge (tgt := 20) hx hb dJ7_fill_53178_7 (by decide) (fun c3 => ?_) (fun c3 => ?_)
    ·
      replace hw := (if_pos c3).mp hw
      exact hK20  h H locs ls hC (lo_sub hl [] rfl) hw
    ·
      replace hw := (if_neg c3).mp hw
      refine lo_aload_n (r := Option.map A r0) hx hb dJ7_fill_53178_10 rfl (lo_at hl 0 rfl) ?_
      refine lv_iload_n hx hb dJ7_fill_53178_11 rfl (lo_at hl 2 rfl) ?_
      refine lv_iload_n hx hb dJ7_fill_53178_12 rfl (lo_at hl 1 rfl) ?_
      obtain ⟨k4, hw⟩ := hw
      refine sf_3 k4.1 ?_
      refine s_iast hx hb hg hC k4.2.1 k4.2.2 dJ7_fill_53178_13 (fun h5 H locs eh5 hC => ?_)
      replace hw := hw h5 eh5
      obtain ⟨v6, ev6⟩ : ∃ y : Int32, y = x2 + (1 : Int32) := ⟨_, rfl⟩
      replace hw := hw v6 ev6
      refine lo_iinc (v := v6) (lv' := [(2, .int v6), (0, va_rf (Option.map A r0)), (1, .int x1), (3, .int x3)]) hx hb dJ7_fill_53178_14 hl (k := 2) rfl (by rw [ev6]; rfl) (by decide) rfl (fun ls hl => ?_)
      refine lv_goto (tgt := 5) hx hb dJ7_fill_53178_17 (by decide) ?_
      exact ih v6 h5 H locs ls hC (lo_sub hl [1, 2, 0, 3] rfl) hw
set_option maxHeartbeats 4000000 in
set_option maxRecDepth 100000 in
theorem c_J7_fill_53178 (l : Launch) (G : GG) (base : Nat) (A : Nat → Nat) (r0 : Option Nat) (x1 : Int32) (h : Hp) (Q : Hp → Prop) (hw : wp_J7_fill_53178 r0 x1 h Q) : Met l yJ7_fill_53178 (ww yJ7_fill_53178 cJ7_fill_53178 4 none) rm_J7_fill_53178 (va_Pc [va_rf (Option.map A r0), .int x1] (PU2 G base A h A h)) (va_Qv Q (PU2 G base A h A) (fun q => base ≤ q)) 0 0 (fun q => base ≤ q) := by
  refine met2_of (own := RJ7) (nm := "fill") (by decide) rfl rfl (List.forall_mem_cons.mpr ⟨va_rf_cat _, (List.forall_mem_cons.mpr ⟨rfl, (fun _ h => absurd h List.not_mem_nil)⟩)⟩) (Nat.le_of_ble_eq_true rfl) rfl ?_
  intro p e s m args below meth c H locs ls hM hC hl
  obtain ⟨hx, hb, hr, hml, hown, hts, hg, hs, hlk, hnm⟩ := id hM
  unfold wp_J7_fill_53178 at hw
  refine lv_iconst (v := 0) hx hb dJ7_fill_53178_0 (by decide) ?_
  refine lo_istore_n (lv' := [(2, .int ((0 : Int32))), (0, va_rf (Option.map A r0)), (1, .int x1)]) hx hb dJ7_fill_53178_1 rfl hl (by decide) rfl (fun ls hl => ?_)
  refine lo_aload_n (r := Option.map A r0) hx hb dJ7_fill_53178_2 rfl (lo_at hl 1 rfl) ?_
  obtain ⟨k1, hw⟩ := hw
  refine sf_1 k1.1 ?_
  refine s_alen hx hb hg hC k1.2 dJ7_fill_53178_3 ?_
  refine lv_topi (fun v2 ev2 => ?_)
  replace hw := hw v2 ev2
  refine lo_istore_n (lv' := [(3, .int v2), (2, .int ((0 : Int32))), (0, va_rf (Option.map A r0)), (1, .int x1)]) hx hb dJ7_fill_53178_4 rfl hl (by decide) rfl (fun ls hl => ?_)
  refine t_J7_fill_53178_L5 hM r0 x1 v2 _ Q ?_ fuel (0 : Int32) h H locs ls hC (lo_sub hl [2, 3, 1, 0] rfl) hw
  intro  h7 H locs ls hC hl hw
  exact ret2_v hM hC hw dJ7_fill_53178_20
abbrev rm_J3_checkIndex_8e157 : Room := { frames := 0, cells := 0, slots := 0, locals := 0 }
set_option maxRecDepth 100000 in
def wp_J3_checkIndex_8e157 (x0 : Int32) (x1 : Int32) (r2 : Option Nat) (h : Hp) (Q : Int32 → Hp → Prop) : Prop := (if x0 < 0 then (False) else ((if x0 < x1 then (Q x0 h) else (False))))
set_option maxHeartbeats 4000000 in
set_option maxRecDepth 100000 in
theorem c_J3_checkIndex_8e157 (l : Launch) (G : GG) (base : Nat) (A : Nat → Nat) (x0 : Int32) (x1 : Int32) (r2 : Option Nat) (h : Hp) (Q : Int32 → Hp → Prop) (hw : wp_J3_checkIndex_8e157 x0 x1 r2 h Q) : Met l yJ3_checkIndex_8e157 (ww yJ3_checkIndex_8e157 cJ3_checkIndex_8e157 3 (some .int)) rm_J3_checkIndex_8e157 (va_Pc [.int x0, .int x1, va_rf r2] (PU2 G base A h A h)) (va_Qi Q (PU2 G base A h A) (fun q => base ≤ q)) 0 0 (fun q => base ≤ q) := by
  refine met2_of (own := RJ3) (nm := "checkIndex") (by decide) rfl rfl (List.forall_mem_cons.mpr ⟨rfl, (List.forall_mem_cons.mpr ⟨rfl, (List.forall_mem_cons.mpr ⟨va_rf_cat _, (fun _ h => absurd h List.not_mem_nil)⟩)⟩)⟩) (Nat.le_of_ble_eq_true rfl) rfl ?_
  intro p e s m args below meth c H locs ls hM hC hl
  obtain ⟨hx, hb, hr, hml, hown, hts, hg, hs, hlk, hnm⟩ := id hM
  unfold wp_J3_checkIndex_8e157 at hw
  refine lv_iload_n hx hb dJ3_checkIndex_8e157_0 rfl (lo_at hl 0 rfl) ?_
  refine lv_if_lt (tgt := 9) hx hb dJ3_checkIndex_8e157_1 (by decide) (fun c1 => ?_) (fun c1 => ?_)
  ·
    replace hw := (if_pos c1).mp hw
    refine lo_aload_n (r := r2) hx hb dJ3_checkIndex_8e157_9 rfl (lo_at hl 2 rfl) ?_
    refine lv_iload_n hx hb dJ3_checkIndex_8e157_10 rfl (lo_at hl 0 rfl) ?_
    refine lv_iload_n hx hb dJ3_checkIndex_8e157_11 rfl (lo_at hl 1 rfl) ?_
    exact hw.elim
  ·
    replace hw := (if_neg c1).mp hw
    refine lv_iload_n hx hb dJ3_checkIndex_8e157_4 rfl (lo_at hl 0 rfl) ?_
    refine lv_iload_n hx hb dJ3_checkIndex_8e157_5 rfl (lo_at hl 1 rfl) ?_
    refine lv_icmp_lt (tgt := 16) hx hb dJ3_checkIndex_8e157_6 (by decide) (fun c2 => ?_) (fun c2 => ?_)
    ·
      replace hw := (if_pos c2).mp hw
      refine lv_iload_n hx hb dJ3_checkIndex_8e157_16 rfl (lo_at hl 0 rfl) ?_
      exact ret2_i hM hC hw dJ3_checkIndex_8e157_17
    ·
      replace hw := (if_neg c2).mp hw
      refine lo_aload_n (r := r2) hx hb dJ3_checkIndex_8e157_9 rfl (lo_at hl 2 rfl) ?_
      refine lv_iload_n hx hb dJ3_checkIndex_8e157_10 rfl (lo_at hl 0 rfl) ?_
      refine lv_iload_n hx hb dJ3_checkIndex_8e157_11 rfl (lo_at hl 1 rfl) ?_
      exact hw.elim
abbrev rm_X3_init : Room := { frames := 2, cells := 8, slots := 2305, locals := 40 }
set_option maxRecDepth 100000 in
def wp_X3_init (o : Nat) (x1 : Int32) (h : Hp) (Q : Hp → Prop) : Prop := okP h (some o) ∧ (∃ q1 : Nat, (hpK h q1).1 = 0 ∧ (∀ h2 : Hp, h2 = alc h q1 (20 + 5) 0 → (((hpK h2 q1).1 = 20 + 5) ∧ (okP h2 (some o) ∧ (okP h2 (some q1) ∧ (wp_X7_init q1 h2 (fun (h10 : Hp) => ((hpK h10 o).1 = 20 + 2) ∧ (okP h10 (some q1) ∧ (∀ h16 : Hp, h16 = stR h10 o 1 (some q1) → (okP h16 (some o) ∧ (∃ q18 : Nat, (hpK h16 q18).1 = 0 ∧ (∀ h19 : Hp, h19 = alc h16 q18 1 1600 → (((hpK h19 o).1 = 20 + 2) ∧ (okP h19 (some q18) ∧ (∀ h25 : Hp, h25 = stR h19 o 2 (some q18) → (((hpK h25 o).1 = 20 + 2) ∧ (∀ h28 : Hp, h28 = stI h25 o 0 x1 → (Q h28))))))))))))))))))
set_option maxHeartbeats 4000000 in
set_option maxRecDepth 100000 in
theorem c_X3_init (l : Launch) (G : GG) (base : Nat) (A : Nat → Nat) (o : Nat) (x1 : Int32) (h : Hp) (Q : Hp → Prop) (hw : wp_X3_init o x1 h Q) : Met l yX3_init (ww yX3_init cX3_init 2 none) rm_X3_init (va_Pc [.ref (A o), .int x1] (PU2 G base A h A h)) (va_Qv (fun (u : (Nat → Nat) × Hp) => Q u.2) (fun u t => PU2 G base A h u.1 u.2 t) (fun q => base ≤ q)) 8 2305 (fun q => base ≤ q) := by
  refine met2_of (own := RX3) (nm := "<init>") (by decide) rfl rfl (List.forall_mem_cons.mpr ⟨rfl, (List.forall_mem_cons.mpr ⟨rfl, (fun _ h => absurd h List.not_mem_nil)⟩)⟩) (Nat.le_of_ble_eq_true rfl) rfl ?_
  intro p e s m args below meth c H locs ls hM hC hl
  obtain ⟨hx, hb, hr, hml, hown, hts, hg, hs, hlk, hnm⟩ := id hM
  unfold wp_X3_init at hw
  refine lv_aload_n hx hb dX3_init_0 rfl (lo_at hl 0 rfl) ?_
  refine r_oi hx hb hown (hts _ mk_m_RX3_3) (hts _ mk_oi_i) (hts _ mk_oi_c) (by rw [hml]; exact hl.1.1) dX3_init_1 (Nat.le_of_ble_eq_true rfl) (Nat.le_of_ble_eq_true rfl) ?_
  refine lv_aload_n hx hb dX3_init_4 rfl (lo_at hl 0 rfl) ?_
  obtain ⟨k4, hw⟩ := hw
  obtain ⟨q1, k3, hw⟩ := hw
  refine s_new hx hb hts hown hg hC cb_5 df_5 mk_c_RX3_9 mk_ins_OneBarrel_Text mk_ini_OneBarrel_Text q1 k3 (Nat.le_of_ble_eq_true rfl) (Nat.le_of_ble_eq_true rfl) dX3_init_5 (fun A5 h2 H eh2 hE hC => ?_)
  replace hw := hw h2 eh2
  have e6 : A o = A5 o := ((hE _ (k4 _ rfl)).2).symm
  try rw [e6] at hl
  try rw [e6]
  refine W.widen (k := 1) (n := 9) (Nat.le_of_ble_eq_true rfl) (Nat.le_of_ble_eq_true rfl) ?_
  refine lv_dup hx hb dX3_init_8 rfl ?_
  obtain ⟨k7, hw⟩ := hw
  obtain ⟨k8, hw⟩ := hw
  obtain ⟨k9, hw⟩ := hw
  refine res2_va hC (run2_IN (As := []) (rest := [.ref (A5 q1), .ref (A5 o)]) hM hC hl.1.1 kv_RX3_11 (c_X7_init l G base A5 q1 h2 _ hw) rfl rfl rfl ⟨Nat.le_of_ble_eq_true rfl, Nat.le_of_ble_eq_true rfl⟩ (Nat.le_of_ble_eq_true rfl) ⟨Nat.le_of_ble_eq_true rfl, Nat.le_of_ble_eq_true rfl⟩ dX3_init_9) (fun A12 h10 H locs hw hE hC => ?_)
  have e13 : A5 o = A12 o := ((hE _ (k8 _ rfl)).2).symm
  try rw [e13] at hl
  try rw [e13]
  have e14 : A5 q1 = A12 q1 := ((hE _ (k9 _ rfl)).2).symm
  try rw [e14] at hl
  try rw [e14]
  refine W.widen (k := 7) (n := 705) (Nat.le_of_ble_eq_true rfl) (Nat.le_of_ble_eq_true rfl) ?_
  obtain ⟨k15, hw⟩ := hw
  obtain ⟨k17, hw⟩ := hw
  refine s_putR (v := some q1) hx hb hts hown hg hC fb_2_1 k15 k17 (nv_o) (fv_o) mk_f_RX3_12 dX3_init_12 (fun h16 H locs eh16 hC => ?_)
  replace hw := hw h16 eh16
  refine lv_aload_n hx hb dX3_init_15 rfl (lo_at hl 0 rfl) ?_
  refine lv_sipush (v := 1600) hx hb dX3_init_16 (by decide) ?_
  obtain ⟨k21, hw⟩ := hw
  obtain ⟨q18, k20, hw⟩ := hw
  refine s_newI (N := 1600) hx hb hts mk_arc_int hg hC q18 k20 (by decide) rfl (by decide) (Nat.le_of_ble_eq_true rfl) (Nat.le_of_ble_eq_true rfl) dX3_init_19 (fun A22 h19 H eh19 hE hC => ?_)
  replace hw := hw h19 eh19
  have e23 : A12 o = A22 o := ((hE _ (k21 _ rfl)).2).symm
  try rw [e23] at hl
  try rw [e23]
  refine W.widen (k := 8) (n := 2305) (Nat.le_of_ble_eq_true rfl) (Nat.le_of_ble_eq_true rfl) ?_
  obtain ⟨k24, hw⟩ := hw
  obtain ⟨k26, hw⟩ := hw
  refine s_putFR (v := some q18) hx hb hts hown hnm hg hC fb_2_2 k24 k26 (nv_a) (fv_a) mk_f_RX3_18 dX3_init_21 (fun h25 H locs eh25 hC => ?_)
  replace hw := hw h25 eh25
  refine lv_aload_n hx hb dX3_init_24 rfl (lo_at hl 0 rfl) ?_
  refine lv_iload_n hx hb dX3_init_25 rfl (lo_at hl 1 rfl) ?_
  obtain ⟨k27, hw⟩ := hw
  refine s_putFI hx hb hts hown hnm hg hC fb_2_0 k27 rfl rfl mk_f_RX3_22 dX3_init_26 (fun h28 H locs eh28 hC => ?_)
  replace hw := hw h28 eh28
  exact ret2_va hM hC hw dX3_init_29
abbrev rm_X5_init : Room := { frames := 2, cells := 7, slots := 705, locals := 40 }
set_option maxRecDepth 100000 in
def wp_X5_init (o : Nat) (r1 : Option Nat) (h : Hp) (Q : Hp → Prop) : Prop := ((hpK h o).1 = 20 + 4) ∧ (∀ h2 : Hp, h2 = stI h o 1 (-1 : Int32) → (okP h2 (some o) ∧ (okP h2 r1 ∧ (∃ q3 : Nat, (hpK h2 q3).1 = 0 ∧ (∀ h4 : Hp, h4 = alc h2 q3 (20 + 5) 0 → (((hpK h4 q3).1 = 20 + 5) ∧ (okP h4 (some o) ∧ (okP h4 r1 ∧ (okP h4 (some q3) ∧ (wp_X7_init q3 h4 (fun (h15 : Hp) => ((hpK h15 o).1 = 20 + 4) ∧ (okP h15 (some q3) ∧ (∀ h22 : Hp, h22 = stR h15 o 3 (some q3) → (((hpK h22 o).1 = 20 + 4) ∧ (okP h22 r1 ∧ (∀ h25 : Hp, h25 = stR h22 o 2 r1 → (Q h25)))))))))))))))))
set_option maxHeartbeats 4000000 in
set_option maxRecDepth 100000 in
theorem c_X5_init (l : Launch) (G : GG) (base : Nat) (A : Nat → Nat) (o : Nat) (r1 : Option Nat) (h : Hp) (Q : Hp → Prop) (hw : wp_X5_init o r1 h Q) : Met l yX5_init (ww yX5_init cX5_init 2 none) rm_X5_init (va_Pc [.ref (A o), va_rf (Option.map A r1)] (PU2 G base A h A h)) (va_Qv (fun (u : (Nat → Nat) × Hp) => Q u.2) (fun u t => PU2 G base A h u.1 u.2 t) (fun q => base ≤ q)) 7 705 (fun q => base ≤ q) := by
  refine met2_of (own := RX5) (nm := "<init>") (by decide) rfl rfl (List.forall_mem_cons.mpr ⟨rfl, (List.forall_mem_cons.mpr ⟨va_rf_cat _, (fun _ h => absurd h List.not_mem_nil)⟩)⟩) (Nat.le_of_ble_eq_true rfl) rfl ?_
  intro p e s m args below meth c H locs ls hM hC hl
  obtain ⟨hx, hb, hr, hml, hown, hts, hg, hs, hlk, hnm⟩ := id hM
  unfold wp_X5_init at hw
  refine lv_aload_n hx hb dX5_init_0 rfl (lo_at hl 0 rfl) ?_
  refine r_oi hx hb hown (hts _ mk_m_RX5_3) (hts _ mk_oi_i) (hts _ mk_oi_c) (by rw [hml]; exact hl.1.1) dX5_init_1 (Nat.le_of_ble_eq_true rfl) (Nat.le_of_ble_eq_true rfl) ?_
  refine lv_aload_n hx hb dX5_init_4 rfl (lo_at hl 0 rfl) ?_
  refine lv_iconst (v := -1) hx hb dX5_init_5 (by decide) ?_
  obtain ⟨k1, hw⟩ := hw
  refine s_putI hx hb hts hown hg hC fb_4_1 k1 rfl rfl mk_f_RX5_9 dX5_init_6 (fun h2 H locs eh2 hC => ?_)
  replace hw := hw h2 eh2
  refine lv_aload_n hx hb dX5_init_9 rfl (lo_at hl 0 rfl) ?_
  obtain ⟨k6, hw⟩ := hw
  obtain ⟨k7, hw⟩ := hw
  obtain ⟨q3, k5, hw⟩ := hw
  refine s_new hx hb hts hown hg hC cb_5 df_5 mk_c_RX5_15 mk_ins_OneBarrel_Text mk_ini_OneBarrel_Text q3 k5 (Nat.le_of_ble_eq_true rfl) (Nat.le_of_ble_eq_true rfl) dX5_init_10 (fun A8 h4 H eh4 hE hC => ?_)
  replace hw := hw h4 eh4
  have e9 : A o = A8 o := ((hE _ (k6 _ rfl)).2).symm
  try rw [e9] at hl
  try rw [e9]
  have e10 : Option.map A r1 = Option.map A8 r1 := hE.map k7
  try rw [e10] at hl
  try rw [e10]
  refine W.widen (k := 1) (n := 9) (Nat.le_of_ble_eq_true rfl) (Nat.le_of_ble_eq_true rfl) ?_
  refine lv_dup hx hb dX5_init_13 rfl ?_
  obtain ⟨k11, hw⟩ := hw
  obtain ⟨k12, hw⟩ := hw
  obtain ⟨k13, hw⟩ := hw
  obtain ⟨k14, hw⟩ := hw
  refine res2_va hC (run2_IN (As := []) (rest := [.ref (A8 q3), .ref (A8 o)]) hM hC hl.1.1 kv_RX5_17 (c_X7_init l G base A8 q3 h4 _ hw) rfl rfl rfl ⟨Nat.le_of_ble_eq_true rfl, Nat.le_of_ble_eq_true rfl⟩ (Nat.le_of_ble_eq_true rfl) ⟨Nat.le_of_ble_eq_true rfl, Nat.le_of_ble_eq_true rfl⟩ dX5_init_14) (fun A17 h15 H locs hw hE hC => ?_)
  have e18 : A8 o = A17 o := ((hE _ (k12 _ rfl)).2).symm
  try rw [e18] at hl
  try rw [e18]
  have e19 : Option.map A8 r1 = Option.map A17 r1 := hE.map k13
  try rw [e19] at hl
  try rw [e19]
  have e20 : A8 q3 = A17 q3 := ((hE _ (k14 _ rfl)).2).symm
  try rw [e20] at hl
  try rw [e20]
  refine W.widen (k := 7) (n := 705) (Nat.le_of_ble_eq_true rfl) (Nat.le_of_ble_eq_true rfl) ?_
  obtain ⟨k21, hw⟩ := hw
  obtain ⟨k23, hw⟩ := hw
  refine s_putR (v := some q3) hx hb hts hown hg hC fb_4_3 k21 k23 (nv_o) (fv_o) mk_f_RX5_18 dX5_init_17 (fun h22 H locs eh22 hC => ?_)
  replace hw := hw h22 eh22
  refine lv_aload_n hx hb dX5_init_20 rfl (lo_at hl 0 rfl) ?_
  refine lo_aload_n (r := Option.map A17 r1) hx hb dX5_init_21 rfl (lo_at hl 1 rfl) ?_
  obtain ⟨k24, hw⟩ := hw
  obtain ⟨k26, hw⟩ := hw
  refine s_putFR (v := r1) hx hb hts hown hnm hg hC fb_4_2 k24 k26 (nv_o) (fv_o) mk_f_RX5_22 dX5_init_22 (fun h25 H locs eh25 hC => ?_)
  replace hw := hw h25 eh25
  exact ret2_va hM hC hw dX5_init_25
set_option maxRecDepth 100000 in
def wp_X5_readBoth_L7 (C : Nat → Int32 → Hp → (Hp → Prop) → Prop) (o : Nat) (x1 : Int32) (K55 : Hp → Prop) (Q : Hp → Prop) : Nat → Int32 → Hp → Prop
  | 0, _, _ => False
  | n + 1, x2, h => (if (600 : Int32) ≤ x2 then (K55 h) else (((hpK h o).1 = 20 + 4) ∧ (wp_X5_kind o h (fun (z7 : Int32) (h6 : Hp) => (if z7 = (257 : Int32) then (((hpK h6 o).1 = 20 + 4) ∧ (∀ h10 : Hp, h10 = stI h6 o 5 ((hpI h6 o 5) + (1 : Int32)) → (((hpK h10 o).1 = 20 + 4) ∧ (C o x1 h10 (fun (h12 : Hp) => ((hpK h12 o).1 = 20 + 4) ∧ (okO h12 (hpR h12 o 3) 5 ∧ (wp_X7_put (ad (hpR h12 o 3)) (257 : Int32) h12 (fun (h16 : Hp) => ∀ v18 : Int32, v18 = x2 + (1 : Int32) → (wp_X5_readBoth_L7 C o x1 K55 Q n v18 h16))))))))) else (K55 h6))))))
set_option maxRecDepth 100000 in
def wp_X5_readBoth (C : Nat → Int32 → Hp → (Hp → Prop) → Prop) (o : Nat) (x1 : Int32) (h : Hp) (Q : Hp → Prop) : Prop := ((hpK h o).1 = 20 + 4) ∧ (C o x1 h (fun (h2 : Hp) => wp_X5_readBoth_L7 C o x1 (fun (h19 : Hp) => Q h19) Q fuel (0 : Int32) h2))
set_option maxHeartbeats 4000000 in
set_option maxRecDepth 100000 in
theorem t_X5_readBoth_L7 {p : Program} {l : Launch} {e : Env} {s : State} {m : MethodId} {args : Array Value} {below : List Frame} {meth : Method} {c : Code} {G : GG} {base : Nat} {A : Nat → Nat} {g0 : Hp} (hM : Mx G base p s m args meth c cX5_readBoth 3 none RX5 "readBoth") (d : Nat) (C : Nat → Int32 → Hp → (Hp → Prop) → Prop) (hCl : ∀ (o : Nat) (x : Int32) (h : Hp) (Q : Hp → Prop), C o x h Q → Met l yX5_readClaim (ww yX5_readClaim cX5_readClaim 4 none) (rm_claim d) (va_Pc [.ref (A o), .int x] (PU2 G base A h A h)) (va_Qv Q (PU2 G base A h A) (fun q => base ≤ q)) 0 0 (fun q => base ≤ q)) (o : Nat) (x1 : Int32) (K55 : Hp → Prop) (Q : Hp → Prop) (hK55 : ∀ (h : Hp) (H : Heap) (locs : List Loc) (ls : Array Slot), Cx2 G base A g0 A h s.heap H locs → lo_has ls 3 [] → K55 h → W p l e (rm_X5_readBoth d) s m args below meth c H locs 0 0 (MQ below (va_Qv Q (PU2 G base A g0 A) (fun q => base ≤ q)) args s 0 0 (fun q => base ≤ q)) (F0 m 55 ls [])) : ∀ (n : Nat) (x2 : Int32) (h : Hp) (H : Heap) (locs : List Loc) (ls : Array Slot), Cx2 G base A g0 A h s.heap H locs → lo_has ls 3 [(0, .ref (A o)), (1, .int x1), (2, .int x2)] → wp_X5_readBoth_L7 C o x1 K55 Q n x2 h → W p l e (rm_X5_readBoth d) s m args below meth c H locs 0 0 (MQ below (va_Qv Q (PU2 G base A g0 A) (fun q => base ≤ q)) args s 0 0 (fun q => base ≤ q)) (F0 m 7 ls []) := by
  intro n
  induction n with
  | zero =>
    intro x2 h H locs ls hC hl hw
    rw [wp_X5_readBoth_L7] at hw
    exact hw.elim
  | succ n ih =>
    intro x2 h H locs ls hC hl hw
    rw [wp_X5_readBoth_L7] at hw
    obtain ⟨hx, hb, hr, hml, hown, hts, hg, hs, hlk, hnm⟩ := id hM
    refine lv_iload_n hx hb dX5_readBoth_7 rfl (lo_at hl 2 rfl) ?_
    refine lv_sipush (v := 600) hx hb dX5_readBoth_8 (by decide) ?_
    refine lv_icmp_ge (tgt := 55) hx hb dX5_readBoth_11 (by decide) (fun c4 => ?_) (fun c4 => ?_)
    ·
      replace hw := (if_pos c4).mp hw
      exact hK55  h H locs ls hC (lo_sub hl [] rfl) hw
    ·
      replace hw := (if_neg c4).mp hw
      refine lv_aload_n hx hb dX5_readBoth_14 rfl (lo_at hl 0 rfl) ?_
      obtain ⟨k5, hw⟩ := hw
      refine res2_i hC (run2_V (As := []) (rest := []) hM hC hl.1.1 kv_RX5_44 (c_X5_kind l G base A o h _ hw) (hc_4) k5 rfl rfl rfl (by dsimp only [rm_claim, rm_X5_readBoth, rm_X5_readEither, rm_X5_readClaim, rm_X5_kind]; omega) (Nat.le_of_ble_eq_true rfl) ⟨Nat.le_of_ble_eq_true rfl, Nat.le_of_ble_eq_true rfl⟩ dX5_readBoth_15) (fun z7 h6 H locs hw hC => ?_)
      refine lv_sipush (v := 257) hx hb dX5_readBoth_18 (by decide) ?_
      refine lv_icmp_ne (tgt := 55) hx hb dX5_readBoth_21 (by decide) (fun c8 => ?_) (fun c8 => ?_)
      ·
        replace hw := (if_neg c8).mp hw
        exact hK55  h6 H locs ls hC (lo_sub hl [] rfl) hw
      ·
        replace hw := (if_pos c8).mp hw
        refine lv_aload_n hx hb dX5_readBoth_24 rfl (lo_at hl 0 rfl) ?_
        refine lv_dup hx hb dX5_readBoth_25 rfl ?_
        obtain ⟨k9, hw⟩ := hw
        refine s_getI hx hb hts hown hg hC fb_4_5 k9 mk_f_RX5_30 dX5_readBoth_26 ?_
        refine lv_iconst (v := 1) hx hb dX5_readBoth_29 (by decide) ?_
        refine lv_iadd hx hb dX5_readBoth_30 ?_
        refine s_putI hx hb hts hown hg hC fb_4_5 k9 rfl rfl mk_f_RX5_30 dX5_readBoth_31 (fun h10 H locs eh10 hC => ?_)
        replace hw := hw h10 eh10
        refine lv_aload_n hx hb dX5_readBoth_34 rfl (lo_at hl 0 rfl) ?_
        refine lv_iload_n hx hb dX5_readBoth_35 rfl (lo_at hl 1 rfl) ?_
        obtain ⟨k11, hw⟩ := hw
        refine res2_v hC (run2_V (As := [.int x1]) (rest := []) hM hC hl.1.1 kv_RX5_97 (hCl o x1 h10 _ hw) (hc_4) k11 rfl rfl rfl (by dsimp only [rm_claim, rm_X5_readBoth, rm_X5_readEither, rm_X5_readClaim]; omega) (Nat.le_of_ble_eq_true rfl) ⟨Nat.le_of_ble_eq_true rfl, Nat.le_of_ble_eq_true rfl⟩ dX5_readBoth_36) (fun h12 H locs hw hC => ?_)
        refine lv_aload_n hx hb dX5_readBoth_39 rfl (lo_at hl 0 rfl) ?_
        obtain ⟨k14, hw⟩ := hw
        refine s_getR hx hb hts hown hg hC fb_4_3 k14 mk_f_RX5_18 dX5_readBoth_40 ?_
        refine lv_sipush (v := 257) hx hb dX5_readBoth_43 (by decide) ?_
        obtain ⟨k15, hw⟩ := hw
        refine sf_2 k15.1 ?_
        refine res2_v hC (run2_V (As := [.int ((257 : Int32))]) (rest := []) hM hC hl.1.1 kv_RX5_94 (c_X7_put l G base A (ad (hpR h12 o 3)) (257 : Int32) h12 _ hw) (hc_5) k15.2 rfl rfl rfl (by dsimp only [rm_claim, rm_X5_readBoth, rm_X5_readEither, rm_X5_readClaim, rm_X7_put]; omega) (Nat.le_of_ble_eq_true rfl) ⟨Nat.le_of_ble_eq_true rfl, Nat.le_of_ble_eq_true rfl⟩ dX5_readBoth_46) (fun h16 H locs hw hC => ?_)
        obtain ⟨v18, ev18⟩ : ∃ y : Int32, y = x2 + (1 : Int32) := ⟨_, rfl⟩
        replace hw := hw v18 ev18
        refine lo_iinc (v := v18) (lv' := [(2, .int v18), (0, .ref (A o)), (1, .int x1)]) hx hb dX5_readBoth_49 hl (k := 2) rfl (by rw [ev18]; rfl) (by decide) rfl (fun ls hl => ?_)
        refine lv_goto (tgt := 7) hx hb dX5_readBoth_52 (by decide) ?_
        exact ih v18 h16 H locs ls hC (lo_sub hl [1, 2, 0] rfl) hw
set_option maxHeartbeats 4000000 in
set_option maxRecDepth 100000 in
theorem c_X5_readBoth (l : Launch) (G : GG) (base : Nat) (A : Nat → Nat) (d : Nat) (C : Nat → Int32 → Hp → (Hp → Prop) → Prop) (hCl : ∀ (o : Nat) (x : Int32) (h : Hp) (Q : Hp → Prop), C o x h Q → Met l yX5_readClaim (ww yX5_readClaim cX5_readClaim 4 none) (rm_claim d) (va_Pc [.ref (A o), .int x] (PU2 G base A h A h)) (va_Qv Q (PU2 G base A h A) (fun q => base ≤ q)) 0 0 (fun q => base ≤ q)) (o : Nat) (x1 : Int32) (h : Hp) (Q : Hp → Prop) (hw : wp_X5_readBoth C o x1 h Q) : Met l yX5_readBoth (ww yX5_readBoth cX5_readBoth 3 none) (rm_X5_readBoth d) (va_Pc [.ref (A o), .int x1] (PU2 G base A h A h)) (va_Qv Q (PU2 G base A h A) (fun q => base ≤ q)) 0 0 (fun q => base ≤ q) := by
  refine met2_of (own := RX5) (nm := "readBoth") (by decide) rfl rfl (List.forall_mem_cons.mpr ⟨rfl, (List.forall_mem_cons.mpr ⟨rfl, (fun _ h => absurd h List.not_mem_nil)⟩)⟩) (Nat.le_of_ble_eq_true rfl) rfl ?_
  intro p e s m args below meth c H locs ls hM hC hl
  obtain ⟨hx, hb, hr, hml, hown, hts, hg, hs, hlk, hnm⟩ := id hM
  unfold wp_X5_readBoth at hw
  refine lv_aload_n hx hb dX5_readBoth_0 rfl (lo_at hl 0 rfl) ?_
  refine lv_iload_n hx hb dX5_readBoth_1 rfl (lo_at hl 1 rfl) ?_
  obtain ⟨k1, hw⟩ := hw
  refine res2_v hC (run2_V (As := [.int x1]) (rest := []) hM hC hl.1.1 kv_RX5_97 (hCl o x1 h _ hw) (hc_4) k1 rfl rfl rfl (by dsimp only [rm_claim, rm_X5_readBoth, rm_X5_readEither, rm_X5_readClaim]; omega) (Nat.le_of_ble_eq_true rfl) ⟨Nat.le_of_ble_eq_true rfl, Nat.le_of_ble_eq_true rfl⟩ dX5_readBoth_2) (fun h2 H locs hw hC => ?_)
  refine lv_iconst (v := 0) hx hb dX5_readBoth_5 (by decide) ?_
  refine lo_istore_n (lv' := [(2, .int ((0 : Int32))), (0, .ref (A o)), (1, .int x1)]) hx hb dX5_readBoth_6 rfl hl (by decide) rfl (fun ls hl => ?_)
  refine t_X5_readBoth_L7 hM d C hCl o x1 _ Q ?_ fuel (0 : Int32) h2 H locs ls hC (lo_sub hl [1, 2, 0] rfl) hw
  intro  h19 H locs ls hC hl hw
  exact ret2_v hM hC hw dX5_readBoth_55
abbrev rm_X5_readPart : Room := { frames := 1, cells := 0, slots := 0, locals := 21 }
set_option maxRecDepth 100000 in
def wp_X5_readPart_J17 (o : Nat) (x1 : Int32) (Q : Hp → Prop) (h : Hp) : Prop := ((hpK h o).1 = 20 + 4) ∧ (okO h (hpR h o 3) 5 ∧ (wp_X7_put (ad (hpR h o 3)) x1 h (fun (h7 : Hp) => ((hpK h7 o).1 = 20 + 4) ∧ (∀ h10 : Hp, h10 = stI h7 o 5 ((hpI h7 o 5) + (1 : Int32)) → (Q h10)))))
set_option maxRecDepth 100000 in
def wp_X5_readPart (o : Nat) (h : Hp) (Q : Hp → Prop) : Prop := ((hpK h o).1 = 20 + 4) ∧ (wp_X5_kind o h (fun (z3 : Int32) (h2 : Hp) => (if z3 < 0 then (wp_X5_readPart_J17 o z3 Q h2) else (((hpK h2 o).1 = 20 + 4) ∧ (wp_X5_isFact o z3 h2 (fun (z13 : Int32) (h12 : Hp) => (if z13 = 0 then (((hpK h12 o).1 = 20 + 4) ∧ (wp_X5_refuse o (1 : Int32) h12 (fun (h16 : Hp) => Q h16))) else (wp_X5_readPart_J17 o z3 Q h12))))))))
set_option maxHeartbeats 4000000 in
set_option maxRecDepth 100000 in
theorem t_X5_readPart_J17 {p : Program} {l : Launch} {e : Env} {s : State} {m : MethodId} {args : Array Value} {below : List Frame} {meth : Method} {c : Code} {G : GG} {base : Nat} {A : Nat → Nat} {g0 : Hp} (hM : Mx G base p s m args meth c cX5_readPart 2 none RX5 "readPart") (o : Nat) (x1 : Int32) (Q : Hp → Prop) (h : Hp) (H : Heap) (locs : List Loc) (ls : Array Slot) : Cx2 G base A g0 A h s.heap H locs → lo_has ls 2 [(0, .ref (A o)), (1, .int x1)] → wp_X5_readPart_J17 o x1 Q h → W p l e rm_X5_readPart s m args below meth c H locs 0 0 (MQ below (va_Qv Q (PU2 G base A g0 A) (fun q => base ≤ q)) args s 0 0 (fun q => base ≤ q)) (F0 m 17 ls []) := by
  intro hC hl hw
  unfold wp_X5_readPart_J17 at hw
  obtain ⟨hx, hb, hr, hml, hown, hts, hg, hs, hlk, hnm⟩ := id hM
  refine lv_aload_n hx hb dX5_readPart_17 rfl (lo_at hl 0 rfl) ?_
  obtain ⟨k5, hw⟩ := hw
  refine s_getR hx hb hts hown hg hC fb_4_3 k5 mk_f_RX5_18 dX5_readPart_18 ?_
  refine lv_iload_n hx hb dX5_readPart_21 rfl (lo_at hl 1 rfl) ?_
  obtain ⟨k6, hw⟩ := hw
  refine sf_2 k6.1 ?_
  refine res2_v hC (run2_V (As := [.int x1]) (rest := []) hM hC hl.1.1 kv_RX5_94 (c_X7_put l G base A (ad (hpR h o 3)) x1 h _ hw) (hc_5) k6.2 rfl rfl rfl ⟨Nat.le_of_ble_eq_true rfl, Nat.le_of_ble_eq_true rfl⟩ (Nat.le_of_ble_eq_true rfl) ⟨Nat.le_of_ble_eq_true rfl, Nat.le_of_ble_eq_true rfl⟩ dX5_readPart_22) (fun h7 H locs hw hC => ?_)
  refine lv_aload_n hx hb dX5_readPart_25 rfl (lo_at hl 0 rfl) ?_
  refine lv_dup hx hb dX5_readPart_26 rfl ?_
  obtain ⟨k9, hw⟩ := hw
  refine s_getI hx hb hts hown hg hC fb_4_5 k9 mk_f_RX5_30 dX5_readPart_27 ?_
  refine lv_iconst (v := 1) hx hb dX5_readPart_30 (by decide) ?_
  refine lv_iadd hx hb dX5_readPart_31 ?_
  refine s_putI hx hb hts hown hg hC fb_4_5 k9 rfl rfl mk_f_RX5_30 dX5_readPart_32 (fun h10 H locs eh10 hC => ?_)
  replace hw := hw h10 eh10
  refine lv_goto (tgt := 43) hx hb dX5_readPart_35 (by decide) ?_
  exact ret2_v hM hC hw dX5_readPart_43
set_option maxHeartbeats 4000000 in
set_option maxRecDepth 100000 in
theorem c_X5_readPart (l : Launch) (G : GG) (base : Nat) (A : Nat → Nat) (o : Nat) (h : Hp) (Q : Hp → Prop) (hw : wp_X5_readPart o h Q) : Met l yX5_readPart (ww yX5_readPart cX5_readPart 2 none) rm_X5_readPart (va_Pc [.ref (A o)] (PU2 G base A h A h)) (va_Qv Q (PU2 G base A h A) (fun q => base ≤ q)) 0 0 (fun q => base ≤ q) := by
  refine met2_of (own := RX5) (nm := "readPart") (by decide) rfl rfl (List.forall_mem_cons.mpr ⟨rfl, (fun _ h => absurd h List.not_mem_nil)⟩) (Nat.le_of_ble_eq_true rfl) rfl ?_
  intro p e s m args below meth c H locs ls hM hC hl
  obtain ⟨hx, hb, hr, hml, hown, hts, hg, hs, hlk, hnm⟩ := id hM
  unfold wp_X5_readPart at hw
  refine lv_aload_n hx hb dX5_readPart_0 rfl (lo_at hl 0 rfl) ?_
  obtain ⟨k1, hw⟩ := hw
  refine res2_i hC (run2_V (As := []) (rest := []) hM hC hl.1.1 kv_RX5_44 (c_X5_kind l G base A o h _ hw) (hc_4) k1 rfl rfl rfl ⟨Nat.le_of_ble_eq_true rfl, Nat.le_of_ble_eq_true rfl⟩ (Nat.le_of_ble_eq_true rfl) ⟨Nat.le_of_ble_eq_true rfl, Nat.le_of_ble_eq_true rfl⟩ dX5_readPart_1) (fun z3 h2 H locs hw hC => ?_)
  refine lo_istore_n (lv' := [(1, .int z3), (0, .ref (A o))]) hx hb dX5_readPart_4 rfl hl (by decide) rfl (fun ls hl => ?_)
  refine lv_iload_n hx hb dX5_readPart_5 rfl (lo_at hl 0 rfl) ?_
  refine lv_if_lt (tgt := 17) hx hb dX5_readPart_6 (by decide) (fun c4 => ?_) (fun c4 => ?_)
  ·
    replace hw := (if_pos c4).mp hw
    exact t_X5_readPart_J17 hM o z3 Q  h2 H locs ls hC (lo_sub hl [1, 0] rfl) hw
  ·
    replace hw := (if_neg c4).mp hw
    refine lv_aload_n hx hb dX5_readPart_9 rfl (lo_at hl 1 rfl) ?_
    refine lv_iload_n hx hb dX5_readPart_10 rfl (lo_at hl 0 rfl) ?_
    obtain ⟨k11, hw⟩ := hw
    refine res2_i hC (run2_V (As := [.int z3]) (rest := []) hM hC hl.1.1 kv_RX5_106 (c_X5_isFact l G base A o z3 h2 _ hw) (hc_4) k11 rfl rfl rfl ⟨Nat.le_of_ble_eq_true rfl, Nat.le_of_ble_eq_true rfl⟩ (Nat.le_of_ble_eq_true rfl) ⟨Nat.le_of_ble_eq_true rfl, Nat.le_of_ble_eq_true rfl⟩ dX5_readPart_11) (fun z13 h12 H locs hw hC => ?_)
    refine lv_if_eq (tgt := 38) hx hb dX5_readPart_14 (by decide) (fun c14 => ?_) (fun c14 => ?_)
    ·
      replace hw := (if_pos c14).mp hw
      refine lv_aload_n hx hb dX5_readPart_38 rfl (lo_at hl 1 rfl) ?_
      refine lv_iconst (v := 1) hx hb dX5_readPart_39 (by decide) ?_
      obtain ⟨k15, hw⟩ := hw
      refine res2_v hC (run2_V (As := [.int ((1 : Int32))]) (rest := []) hM hC hl.1.1 kv_RX5_61 (c_X5_refuse l G base A o (1 : Int32) h12 _ hw) (hc_4) k15 rfl rfl rfl ⟨Nat.le_of_ble_eq_true rfl, Nat.le_of_ble_eq_true rfl⟩ (Nat.le_of_ble_eq_true rfl) ⟨Nat.le_of_ble_eq_true rfl, Nat.le_of_ble_eq_true rfl⟩ dX5_readPart_40) (fun h16 H locs hw hC => ?_)
      exact ret2_v hM hC hw dX5_readPart_43
    ·
      replace hw := (if_neg c14).mp hw
      exact t_X5_readPart_J17 hM o z3 Q  h12 H locs ls hC (lo_sub hl [1, 0] rfl) hw
abbrev rm_X6_measure : Room := { frames := 1, cells := 0, slots := 0, locals := 27 }
set_option maxRecDepth 100000 in
def wp_X6_measure_L11 (r0 : Option Nat) (r1 : Option Nat) (x2 : Int32) (K58 : Int32 → Int32 → Int32 → Hp → Prop) (Q : Int32 → Hp → Prop) : Nat → Int32 → Int32 → Int32 → Int32 → Hp → Prop
  | 0, _, _, _, _, _ => False
  | n + 1, x3, x4, x5, x6, h => (if (32 : Int32) ≤ x6 then (K58 x3 x4 x5 h) else (wp_X6_runs r0 r1 x6 x2 h (fun (z3 : Int32) (h2 : Hp) => wp_J6_bitCount_0f7a4 z3 h2 (fun (z5 : Int32) (h4 : Hp) => (if z5 ≤ x3 then (∀ v7 : Int32, v7 = x6 + (1 : Int32) → (wp_X6_measure_L11 r0 r1 x2 K58 Q n x3 x4 x5 v7 h4)) else (∀ v8 : Int32, v8 = x6 + (1 : Int32) → (wp_X6_measure_L11 r0 r1 x2 K58 Q n z5 x6 z3 v8 h4)))))))
set_option maxRecDepth 100000 in
def wp_X6_measure (r0 : Option Nat) (r1 : Option Nat) (x2 : Int32) (h : Hp) (Q : Int32 → Hp → Prop) : Prop := wp_X6_measure_L11 r0 r1 x2 (fun (y10 : Int32) (y11 : Int32) (y12 : Int32) (h9 : Hp) => wp_X6_longestIn y12 h9 (fun (z14 : Int32) (h13 : Hp) => wp_X2_pack y10 y11 z14 h13 (fun (z16 : Int32) (h15 : Hp) => Q z16 h15))) Q fuel (-1 : Int32) (0 : Int32) (0 : Int32) (0 : Int32) h
set_option maxHeartbeats 4000000 in
set_option maxRecDepth 100000 in
theorem t_X6_measure_L11 {p : Program} {l : Launch} {e : Env} {s : State} {m : MethodId} {args : Array Value} {below : List Frame} {meth : Method} {c : Code} {G : GG} {base : Nat} {A : Nat → Nat} {g0 : Hp} (hM : Mx G base p s m args meth c cX6_measure 9 (some .int) RX6 "measure") (r0 : Option Nat) (r1 : Option Nat) (x2 : Int32) (K58 : Int32 → Int32 → Int32 → Hp → Prop) (Q : Int32 → Hp → Prop) (hK58 : ∀ (y3 : Int32) (y4 : Int32) (y5 : Int32) (h : Hp) (H : Heap) (locs : List Loc) (ls : Array Slot), Cx2 G base A g0 A h s.heap H locs → lo_has ls 9 [(3, .int y3), (4, .int y4), (5, .int y5)] → K58 y3 y4 y5 h → W p l e rm_X6_measure s m args below meth c H locs 0 0 (MQ below (va_Qi Q (PU2 G base A g0 A) (fun q => base ≤ q)) args s 0 0 (fun q => base ≤ q)) (F0 m 58 ls [])) : ∀ (n : Nat) (x3 : Int32) (x4 : Int32) (x5 : Int32) (x6 : Int32) (h : Hp) (H : Heap) (locs : List Loc) (ls : Array Slot), Cx2 G base A g0 A h s.heap H locs → lo_has ls 9 [(0, va_rf (Option.map A r0)), (1, va_rf (Option.map A r1)), (2, .int x2), (3, .int x3), (4, .int x4), (5, .int x5), (6, .int x6)] → wp_X6_measure_L11 r0 r1 x2 K58 Q n x3 x4 x5 x6 h → W p l e rm_X6_measure s m args below meth c H locs 0 0 (MQ below (va_Qi Q (PU2 G base A g0 A) (fun q => base ≤ q)) args s 0 0 (fun q => base ≤ q)) (F0 m 11 ls []) := by
  intro n
  induction n with
  | zero =>
    intro x3 x4 x5 x6 h H locs ls hC hl hw
    rw [wp_X6_measure_L11] at hw
    exact hw.elim
  | succ n ih =>
    intro x3 x4 x5 x6 h H locs ls hC hl hw
    rw [wp_X6_measure_L11] at hw
    obtain ⟨hx, hb, hr, hml, hown, hts, hg, hs, hlk, hnm⟩ := id hM
    refine lv_iload hx hb dX6_measure_11 (lo_at hl 6 rfl) ?_
    refine lv_bipush (v := 32) hx hb dX6_measure_13 (by decide) ?_
    refine lv_icmp_ge (tgt := 58) hx hb dX6_measure_15 (by decide) (fun c1 => ?_) (fun c1 => ?_)
    ·
      replace hw := (if_pos c1).mp hw
      exact hK58 x3 x4 x5 h H locs ls hC (lo_sub hl [3, 4, 5] rfl) hw
    ·
      replace hw := (if_neg c1).mp hw
      refine lo_aload_n (r := Option.map A r0) hx hb dX6_measure_18 rfl (lo_at hl 0 rfl) ?_
      refine lo_aload_n (r := Option.map A r1) hx hb dX6_measure_19 rfl (lo_at hl 1 rfl) ?_
      refine lv_iload hx hb dX6_measure_20 (lo_at hl 6 rfl) ?_
      refine lv_iload_n hx hb dX6_measure_22 rfl (lo_at hl 2 rfl) ?_
      refine res2_i hC (run2_S (As := [va_rf (Option.map A r0), va_rf (Option.map A r1), .int x6, .int x2]) (rest := []) hM hC hl.1.1 kv_RX6_9 (c_X6_runs l G base A r0 r1 x6 x2 h _ hw) rfl rfl rfl ⟨Nat.le_of_ble_eq_true rfl, Nat.le_of_ble_eq_true rfl⟩ (Nat.le_of_ble_eq_true rfl) ⟨Nat.le_of_ble_eq_true rfl, Nat.le_of_ble_eq_true rfl⟩ dX6_measure_23) (fun z3 h2 H locs hw hC => ?_)
      refine lo_istore (lv' := [(7, .int z3), (0, va_rf (Option.map A r0)), (1, va_rf (Option.map A r1)), (2, .int x2), (3, .int x3), (4, .int x4), (5, .int x5), (6, .int x6)]) hx hb dX6_measure_26 hl (by decide) rfl (fun ls hl => ?_)
      refine lv_iload hx hb dX6_measure_28 (lo_at hl 0 rfl) ?_
      refine res2_i hC (run2_S (As := [.int z3]) (rest := []) hM hC hl.1.1 kv_RX6_15 (c_J6_bitCount_0f7a4 l G base A z3 h2 _ hw) rfl rfl rfl ⟨Nat.le_of_ble_eq_true rfl, Nat.le_of_ble_eq_true rfl⟩ (Nat.le_of_ble_eq_true rfl) ⟨Nat.le_of_ble_eq_true rfl, Nat.le_of_ble_eq_true rfl⟩ dX6_measure_30) (fun z5 h4 H locs hw hC => ?_)
      refine lo_istore (lv' := [(8, .int z5), (7, .int z3), (0, va_rf (Option.map A r0)), (1, va_rf (Option.map A r1)), (2, .int x2), (3, .int x3), (4, .int x4), (5, .int x5), (6, .int x6)]) hx hb dX6_measure_33 hl (by decide) rfl (fun ls hl => ?_)
      refine lv_iload hx hb dX6_measure_35 (lo_at hl 0 rfl) ?_
      refine lv_iload_n hx hb dX6_measure_37 rfl (lo_at hl 5 rfl) ?_
      refine lv_icmp_le (tgt := 52) hx hb dX6_measure_38 (by decide) (fun c6 => ?_) (fun c6 => ?_)
      ·
        replace hw := (if_pos c6).mp hw
        obtain ⟨v7, ev7⟩ : ∃ y : Int32, y = x6 + (1 : Int32) := ⟨_, rfl⟩
        replace hw := hw v7 ev7
        refine lo_iinc (v := v7) (lv' := [(6, .int v7), (8, .int z5), (7, .int z3), (0, va_rf (Option.map A r0)), (1, va_rf (Option.map A r1)), (2, .int x2), (3, .int x3), (4, .int x4), (5, .int x5)]) hx hb dX6_measure_52 hl (k := 8) rfl (by rw [ev7]; rfl) (by decide) rfl (fun ls hl => ?_)
        refine lv_goto (tgt := 11) hx hb dX6_measure_55 (by decide) ?_
        exact ih x3 x4 x5 v7 h4 H locs ls hC (lo_sub hl [3, 4, 5, 6, 7, 8, 0] rfl) hw
      ·
        replace hw := (if_neg c6).mp hw
        refine lv_iload hx hb dX6_measure_41 (lo_at hl 0 rfl) ?_
        refine lo_istore_n (lv' := [(3, .int z5), (8, .int z5), (7, .int z3), (0, va_rf (Option.map A r0)), (1, va_rf (Option.map A r1)), (2, .int x2), (4, .int x4), (5, .int x5), (6, .int x6)]) hx hb dX6_measure_43 rfl hl (by decide) rfl (fun ls hl => ?_)
        refine lv_iload hx hb dX6_measure_44 (lo_at hl 8 rfl) ?_
        refine lo_istore (lv' := [(4, .int x6), (3, .int z5), (8, .int z5), (7, .int z3), (0, va_rf (Option.map A r0)), (1, va_rf (Option.map A r1)), (2, .int x2), (5, .int x5), (6, .int x6)]) hx hb dX6_measure_46 hl (by decide) rfl (fun ls hl => ?_)
        refine lv_iload hx hb dX6_measure_48 (lo_at hl 3 rfl) ?_
        refine lo_istore (lv' := [(5, .int z3), (4, .int x6), (3, .int z5), (8, .int z5), (7, .int z3), (0, va_rf (Option.map A r0)), (1, va_rf (Option.map A r1)), (2, .int x2), (6, .int x6)]) hx hb dX6_measure_50 hl (by decide) rfl (fun ls hl => ?_)
        obtain ⟨v8, ev8⟩ : ∃ y : Int32, y = x6 + (1 : Int32) := ⟨_, rfl⟩
        replace hw := hw v8 ev8
        refine lo_iinc (v := v8) (lv' := [(6, .int v8), (5, .int z3), (4, .int x6), (3, .int z5), (8, .int z5), (7, .int z3), (0, va_rf (Option.map A r0)), (1, va_rf (Option.map A r1)), (2, .int x2)]) hx hb dX6_measure_52 hl (k := 8) rfl (by rw [ev8]; rfl) (by decide) rfl (fun ls hl => ?_)
        refine lv_goto (tgt := 11) hx hb dX6_measure_55 (by decide) ?_
        exact ih z5 x6 z3 v8 h4 H locs ls hC (lo_sub hl [6, 7, 8, 3, 2, 1, 0] rfl) hw
set_option maxHeartbeats 4000000 in
set_option maxRecDepth 100000 in
theorem c_X6_measure (l : Launch) (G : GG) (base : Nat) (A : Nat → Nat) (r0 : Option Nat) (r1 : Option Nat) (x2 : Int32) (h : Hp) (Q : Int32 → Hp → Prop) (hw : wp_X6_measure r0 r1 x2 h Q) : Met l yX6_measure (ww yX6_measure cX6_measure 9 (some .int)) rm_X6_measure (va_Pc [va_rf (Option.map A r0), va_rf (Option.map A r1), .int x2] (PU2 G base A h A h)) (va_Qi Q (PU2 G base A h A) (fun q => base ≤ q)) 0 0 (fun q => base ≤ q) := by
  refine met2_of (own := RX6) (nm := "measure") (by decide) rfl rfl (List.forall_mem_cons.mpr ⟨va_rf_cat _, (List.forall_mem_cons.mpr ⟨va_rf_cat _, (List.forall_mem_cons.mpr ⟨rfl, (fun _ h => absurd h List.not_mem_nil)⟩)⟩)⟩) (Nat.le_of_ble_eq_true rfl) rfl ?_
  intro p e s m args below meth c H locs ls hM hC hl
  obtain ⟨hx, hb, hr, hml, hown, hts, hg, hs, hlk, hnm⟩ := id hM
  unfold wp_X6_measure at hw
  refine lv_iconst (v := -1) hx hb dX6_measure_0 (by decide) ?_
  refine lo_istore_n (lv' := [(3, .int ((-1 : Int32))), (0, va_rf (Option.map A r0)), (1, va_rf (Option.map A r1)), (2, .int x2)]) hx hb dX6_measure_1 rfl hl (by decide) rfl (fun ls hl => ?_)
  refine lv_iconst (v := 0) hx hb dX6_measure_2 (by decide) ?_
  refine lo_istore (lv' := [(4, .int ((0 : Int32))), (3, .int ((-1 : Int32))), (0, va_rf (Option.map A r0)), (1, va_rf (Option.map A r1)), (2, .int x2)]) hx hb dX6_measure_3 hl (by decide) rfl (fun ls hl => ?_)
  refine lv_iconst (v := 0) hx hb dX6_measure_5 (by decide) ?_
  refine lo_istore (lv' := [(5, .int ((0 : Int32))), (4, .int ((0 : Int32))), (3, .int ((-1 : Int32))), (0, va_rf (Option.map A r0)), (1, va_rf (Option.map A r1)), (2, .int x2)]) hx hb dX6_measure_6 hl (by decide) rfl (fun ls hl => ?_)
  refine lv_iconst (v := 0) hx hb dX6_measure_8 (by decide) ?_
  refine lo_istore (lv' := [(6, .int ((0 : Int32))), (5, .int ((0 : Int32))), (4, .int ((0 : Int32))), (3, .int ((-1 : Int32))), (0, va_rf (Option.map A r0)), (1, va_rf (Option.map A r1)), (2, .int x2)]) hx hb dX6_measure_9 hl (by decide) rfl (fun ls hl => ?_)
  refine t_X6_measure_L11 hM r0 r1 x2 _ Q ?_ fuel (-1 : Int32) (0 : Int32) (0 : Int32) (0 : Int32) h H locs ls hC (lo_sub hl [4, 5, 6, 3, 2, 1, 0] rfl) hw
  intro y10 y11 y12 h9 H locs ls hC hl hw
  refine lv_iload_n hx hb dX6_measure_58 rfl (lo_at hl 0 rfl) ?_
  refine lv_iload hx hb dX6_measure_59 (lo_at hl 1 rfl) ?_
  refine lv_iload hx hb dX6_measure_61 (lo_at hl 2 rfl) ?_
  refine res2_i hC (run2_S (As := [.int y12]) (rest := [.int y11, .int y10]) hM hC hl.1.1 kv_RX6_21 (c_X6_longestIn l G base A y12 h9 _ hw) rfl rfl rfl ⟨Nat.le_of_ble_eq_true rfl, Nat.le_of_ble_eq_true rfl⟩ (Nat.le_of_ble_eq_true rfl) ⟨Nat.le_of_ble_eq_true rfl, Nat.le_of_ble_eq_true rfl⟩ dX6_measure_63) (fun z14 h13 H locs hw hC => ?_)
  refine res2_i hC (run2_S (As := [.int y10, .int y11, .int z14]) (rest := []) hM hC hl.1.1 kv_RX6_24 (c_X2_pack l G base A y10 y11 z14 h13 _ hw) rfl rfl rfl ⟨Nat.le_of_ble_eq_true rfl, Nat.le_of_ble_eq_true rfl⟩ (Nat.le_of_ble_eq_true rfl) ⟨Nat.le_of_ble_eq_true rfl, Nat.le_of_ble_eq_true rfl⟩ dX6_measure_66) (fun z16 h15 H locs hw hC => ?_)
  exact ret2_i hM hC hw dX6_measure_69
abbrev rm_X6_pieces : Room := { frames := 2, cells := 0, slots := 0, locals := 66 }
set_option maxRecDepth 100000 in
def wp_X6_pieces_L11 (r0 : Option Nat) (r1 : Option Nat) (x2 : Int32) (r3 : Option Nat) (K39 : Hp → Prop) (Q : Int32 → Hp → Prop) : Nat → Int32 → Hp → Prop
  | 0, _, _ => False
  | n + 1, x4, h => (if (32 : Int32) ≤ x4 then (K39 h) else (okO h r3 8 ∧ (wp_X6_runs r0 r1 x4 x2 h (fun (z7 : Int32) (h6 : Hp) => okA h6 (hpR h (ad r3) 2) 1 x4 ∧ (∀ h9 : Hp, h9 = stI h6 (ad (hpR h (ad r3) 2)) (x4).toNatClampNeg z7 → (∀ v10 : Int32, v10 = x4 + (1 : Int32) → (wp_X6_pieces_L11 r0 r1 x2 r3 K39 Q n v10 h9)))))))
set_option maxRecDepth 100000 in
def wp_X6_pieces_L52 (r3 : Option Nat) (x4 : Int32) (K81 : Hp → Prop) (Q : Int32 → Hp → Prop) : Nat → Int32 → Hp → Prop
  | 0, _, _ => False
  | n + 1, x5, h => (if x5 < 0 then (K81 h) else (okO h r3 8 ∧ (wp_X6_addHair x4 (x5 * (32 : Int32)) (hpR h (ad r3) 2) (hpR h (ad r3) 3) h (fun (h15 : Hp) => ∀ v17 : Int32, v17 = x5 + (-1 : Int32) → (wp_X6_pieces_L52 r3 x4 K81 Q n v17 h15)))))
set_option maxRecDepth 100000 in
def wp_X6_pieces_L42 (r3 : Option Nat) (K87 : Hp → Prop) (Q : Int32 → Hp → Prop) : Nat → Int32 → Hp → Prop
  | 0, _, _ => False
  | n + 1, x4, h => (if (32 : Int32) ≤ x4 then (K87 h) else (wp_X6_pieces_L52 r3 x4 (fun (h18 : Hp) => ∀ v19 : Int32, v19 = x4 + (1 : Int32) → (wp_X6_pieces_L42 r3 K87 Q n v19 h18)) Q fuel (3 : Int32) h))
set_option maxRecDepth 100000 in
def wp_X6_pieces_L93 (r3 : Option Nat) (K123 : Int32 → Hp → Prop) (Q : Int32 → Hp → Prop) : Nat → Int32 → Int32 → Hp → Prop
  | 0, _, _, _ => False
  | n + 1, x4, x5, h => (if (32 : Int32) ≤ x5 then (K123 x4 h) else (okO h r3 8 ∧ (okA h (hpR h (ad r3) 3) 1 ((96 : Int32) + x5) ∧ (∀ v24 : Int32, v24 = hpI h (ad (hpR h (ad r3) 3)) ((96 : Int32) + x5).toNatClampNeg → (∀ v25 : Int32, v25 = (if x4 < v24 then v24 else x4) → (∀ v26 : Int32, v26 = x5 + (1 : Int32) → (wp_X6_pieces_L93 r3 K123 Q n v25 v26 h)))))))
set_option maxRecDepth 100000 in
def wp_X6_pieces (r0 : Option Nat) (r1 : Option Nat) (x2 : Int32) (r3 : Option Nat) (h : Hp) (Q : Int32 → Hp → Prop) : Prop := okO h r3 8 ∧ (wp_J7_fill_53178 (hpR h (ad r3) 3) (0 : Int32) h (fun (h2 : Hp) => wp_X6_pieces_L11 r0 r1 x2 r3 (fun (h11 : Hp) => wp_X6_pieces_L42 r3 (fun (h20 : Hp) => wp_X6_pieces_L93 r3 (fun (y28 : Int32) (h27 : Hp) => Q y28 h27) Q fuel (0 : Int32) (0 : Int32) h20) Q fuel (0 : Int32) h11) Q fuel (0 : Int32) h2))
set_option maxHeartbeats 4000000 in
set_option maxRecDepth 100000 in
theorem t_X6_pieces_L11 {p : Program} {l : Launch} {e : Env} {s : State} {m : MethodId} {args : Array Value} {below : List Frame} {meth : Method} {c : Code} {G : GG} {base : Nat} {A : Nat → Nat} {g0 : Hp} (hM : Mx G base p s m args meth c cX6_pieces 6 (some .int) RX6 "pieces") (r0 : Option Nat) (r1 : Option Nat) (x2 : Int32) (r3 : Option Nat) (K39 : Hp → Prop) (Q : Int32 → Hp → Prop) (hK39 : ∀ (h : Hp) (H : Heap) (locs : List Loc) (ls : Array Slot), Cx2 G base A g0 A h s.heap H locs → lo_has ls 6 [(3, va_rf (Option.map A r3))] → K39 h → W p l e rm_X6_pieces s m args below meth c H locs 0 0 (MQ below (va_Qi Q (PU2 G base A g0 A) (fun q => base ≤ q)) args s 0 0 (fun q => base ≤ q)) (F0 m 39 ls [])) : ∀ (n : Nat) (x4 : Int32) (h : Hp) (H : Heap) (locs : List Loc) (ls : Array Slot), Cx2 G base A g0 A h s.heap H locs → lo_has ls 6 [(0, va_rf (Option.map A r0)), (1, va_rf (Option.map A r1)), (2, .int x2), (3, va_rf (Option.map A r3)), (4, .int x4)] → wp_X6_pieces_L11 r0 r1 x2 r3 K39 Q n x4 h → W p l e rm_X6_pieces s m args below meth c H locs 0 0 (MQ below (va_Qi Q (PU2 G base A g0 A) (fun q => base ≤ q)) args s 0 0 (fun q => base ≤ q)) (F0 m 11 ls []) := by
  intro n
  induction n with
  | zero =>
    intro x4 h H locs ls hC hl hw
    rw [wp_X6_pieces_L11] at hw
    exact hw.elim
  | succ n ih =>
    intro x4 h H locs ls hC hl hw
    rw [wp_X6_pieces_L11] at hw
    obtain ⟨hx, hb, hr, hml, hown, hts, hg, hs, hlk, hnm⟩ := id hM
    refine lv_iload hx hb dX6_pieces_11 (lo_at hl 4 rfl) ?_
    refine lv_bipush (v := 32) hx hb dX6_pieces_13 (by decide) ?_
    refine lv_icmp_ge (tgt := 39) hx hb dX6_pieces_15 (by decide) (fun c4 => ?_) (fun c4 => ?_)
    ·
      replace hw := (if_pos c4).mp hw
      exact hK39  h H locs ls hC (lo_sub hl [3] rfl) hw
    ·
      replace hw := (if_neg c4).mp hw
      refine lo_aload_n (r := Option.map A r3) hx hb dX6_pieces_18 rfl (lo_at hl 3 rfl) ?_
      obtain ⟨k5, hw⟩ := hw
      refine sf_1 k5.1 ?_
      refine s_getR hx hb hts hown hg hC fb_8_2 k5.2 mk_f_RX6_42 dX6_pieces_19 ?_
      refine lv_iload hx hb dX6_pieces_22 (lo_at hl 4 rfl) ?_
      refine lo_aload_n (r := Option.map A r0) hx hb dX6_pieces_24 rfl (lo_at hl 0 rfl) ?_
      refine lo_aload_n (r := Option.map A r1) hx hb dX6_pieces_25 rfl (lo_at hl 1 rfl) ?_
      refine lv_iload hx hb dX6_pieces_26 (lo_at hl 4 rfl) ?_
      refine lv_iload_n hx hb dX6_pieces_28 rfl (lo_at hl 2 rfl) ?_
      refine res2_i hC (run2_S (As := [va_rf (Option.map A r0), va_rf (Option.map A r1), .int x4, .int x2]) (rest := [.int x4, va_rf (Option.map A (hpR h (ad r3) 2))]) hM hC hl.1.1 kv_RX6_9 (c_X6_runs l G base A r0 r1 x4 x2 h _ hw) rfl rfl rfl ⟨Nat.le_of_ble_eq_true rfl, Nat.le_of_ble_eq_true rfl⟩ (rest_le (List.forall_mem_cons.mpr ⟨rfl, (List.forall_mem_cons.mpr ⟨va_rf_cat _, (fun _ h => absurd h List.not_mem_nil)⟩)⟩) (Nat.le_of_ble_eq_true rfl)) ⟨Nat.le_of_ble_eq_true rfl, Nat.le_of_ble_eq_true rfl⟩ dX6_pieces_29) (fun z7 h6 H locs hw hC => ?_)
      obtain ⟨k8, hw⟩ := hw
      refine sf_3 k8.1 ?_
      refine s_iast hx hb hg hC k8.2.1 k8.2.2 dX6_pieces_32 (fun h9 H locs eh9 hC => ?_)
      replace hw := hw h9 eh9
      obtain ⟨v10, ev10⟩ : ∃ y : Int32, y = x4 + (1 : Int32) := ⟨_, rfl⟩
      replace hw := hw v10 ev10
      refine lo_iinc (v := v10) (lv' := [(4, .int v10), (0, va_rf (Option.map A r0)), (1, va_rf (Option.map A r1)), (2, .int x2), (3, va_rf (Option.map A r3))]) hx hb dX6_pieces_33 hl (k := 4) rfl (by rw [ev10]; rfl) (by decide) rfl (fun ls hl => ?_)
      refine lv_goto (tgt := 11) hx hb dX6_pieces_36 (by decide) ?_
      exact ih v10 h9 H locs ls hC (lo_sub hl [1, 2, 3, 4, 0] rfl) hw
set_option maxHeartbeats 4000000 in
set_option maxRecDepth 100000 in
theorem t_X6_pieces_L52 {p : Program} {l : Launch} {e : Env} {s : State} {m : MethodId} {args : Array Value} {below : List Frame} {meth : Method} {c : Code} {G : GG} {base : Nat} {A : Nat → Nat} {g0 : Hp} (hM : Mx G base p s m args meth c cX6_pieces 6 (some .int) RX6 "pieces") (r3 : Option Nat) (x4 : Int32) (K81 : Hp → Prop) (Q : Int32 → Hp → Prop) (hK81 : ∀ (h : Hp) (H : Heap) (locs : List Loc) (ls : Array Slot), Cx2 G base A g0 A h s.heap H locs → lo_has ls 6 [(3, va_rf (Option.map A r3)), (4, .int x4)] → K81 h → W p l e rm_X6_pieces s m args below meth c H locs 0 0 (MQ below (va_Qi Q (PU2 G base A g0 A) (fun q => base ≤ q)) args s 0 0 (fun q => base ≤ q)) (F0 m 81 ls [])) : ∀ (n : Nat) (x5 : Int32) (h : Hp) (H : Heap) (locs : List Loc) (ls : Array Slot), Cx2 G base A g0 A h s.heap H locs → lo_has ls 6 [(3, va_rf (Option.map A r3)), (4, .int x4), (5, .int x5)] → wp_X6_pieces_L52 r3 x4 K81 Q n x5 h → W p l e rm_X6_pieces s m args below meth c H locs 0 0 (MQ below (va_Qi Q (PU2 G base A g0 A) (fun q => base ≤ q)) args s 0 0 (fun q => base ≤ q)) (F0 m 52 ls []) := by
  intro n
  induction n with
  | zero =>
    intro x5 h H locs ls hC hl hw
    rw [wp_X6_pieces_L52] at hw
    exact hw.elim
  | succ n ih =>
    intro x5 h H locs ls hC hl hw
    rw [wp_X6_pieces_L52] at hw
    obtain ⟨hx, hb, hr, hml, hown, hts, hg, hs, hlk, hnm⟩ := id hM
    refine lv_iload hx hb dX6_pieces_52 (lo_at hl 2 rfl) ?_
    refine lv_if_lt (tgt := 81) hx hb dX6_pieces_54 (by decide) (fun c13 => ?_) (fun c13 => ?_)
    ·
      replace hw := (if_pos c13).mp hw
      exact hK81  h H locs ls hC (lo_sub hl [0, 1] rfl) hw
    ·
      replace hw := (if_neg c13).mp hw
      refine lv_iload hx hb dX6_pieces_57 (lo_at hl 1 rfl) ?_
      refine lv_iload hx hb dX6_pieces_59 (lo_at hl 2 rfl) ?_
      refine lv_bipush (v := 32) hx hb dX6_pieces_61 (by decide) ?_
      refine lv_imul hx hb dX6_pieces_63 ?_
      refine lo_aload_n (r := Option.map A r3) hx hb dX6_pieces_64 rfl (lo_at hl 0 rfl) ?_
      obtain ⟨k14, hw⟩ := hw
      refine sf_1 k14.1 ?_
      refine s_getR hx hb hts hown hg hC fb_8_2 k14.2 mk_f_RX6_42 dX6_pieces_65 ?_
      refine lo_aload_n (r := Option.map A r3) hx hb dX6_pieces_68 rfl (lo_at hl 0 rfl) ?_
      refine sf_1 k14.1 ?_
      refine s_getR hx hb hts hown hg hC fb_8_3 k14.2 mk_f_RX6_30 dX6_pieces_69 ?_
      refine res2_v hC (run2_S (As := [.int x4, .int (x5 * (32 : Int32)), va_rf (Option.map A (hpR h (ad r3) 2)), va_rf (Option.map A (hpR h (ad r3) 3))]) (rest := []) hM hC hl.1.1 kv_RX6_45 (c_X6_addHair l G base A x4 (x5 * (32 : Int32)) (hpR h (ad r3) 2) (hpR h (ad r3) 3) h _ hw) rfl rfl rfl ⟨Nat.le_of_ble_eq_true rfl, Nat.le_of_ble_eq_true rfl⟩ (Nat.le_of_ble_eq_true rfl) ⟨Nat.le_of_ble_eq_true rfl, Nat.le_of_ble_eq_true rfl⟩ dX6_pieces_72) (fun h15 H locs hw hC => ?_)
      obtain ⟨v17, ev17⟩ : ∃ y : Int32, y = x5 + (-1 : Int32) := ⟨_, rfl⟩
      replace hw := hw v17 ev17
      refine lo_iinc (v := v17) (lv' := [(5, .int v17), (3, va_rf (Option.map A r3)), (4, .int x4)]) hx hb dX6_pieces_75 hl (k := 2) rfl (by rw [ev17]; rfl) (by decide) rfl (fun ls hl => ?_)
      refine lv_goto (tgt := 52) hx hb dX6_pieces_78 (by decide) ?_
      exact ih v17 h15 H locs ls hC (lo_sub hl [1, 2, 0] rfl) hw
set_option maxHeartbeats 4000000 in
set_option maxRecDepth 100000 in
theorem t_X6_pieces_L42 {p : Program} {l : Launch} {e : Env} {s : State} {m : MethodId} {args : Array Value} {below : List Frame} {meth : Method} {c : Code} {G : GG} {base : Nat} {A : Nat → Nat} {g0 : Hp} (hM : Mx G base p s m args meth c cX6_pieces 6 (some .int) RX6 "pieces") (r3 : Option Nat) (K87 : Hp → Prop) (Q : Int32 → Hp → Prop) (hK87 : ∀ (h : Hp) (H : Heap) (locs : List Loc) (ls : Array Slot), Cx2 G base A g0 A h s.heap H locs → lo_has ls 6 [(3, va_rf (Option.map A r3))] → K87 h → W p l e rm_X6_pieces s m args below meth c H locs 0 0 (MQ below (va_Qi Q (PU2 G base A g0 A) (fun q => base ≤ q)) args s 0 0 (fun q => base ≤ q)) (F0 m 87 ls [])) : ∀ (n : Nat) (x4 : Int32) (h : Hp) (H : Heap) (locs : List Loc) (ls : Array Slot), Cx2 G base A g0 A h s.heap H locs → lo_has ls 6 [(3, va_rf (Option.map A r3)), (4, .int x4)] → wp_X6_pieces_L42 r3 K87 Q n x4 h → W p l e rm_X6_pieces s m args below meth c H locs 0 0 (MQ below (va_Qi Q (PU2 G base A g0 A) (fun q => base ≤ q)) args s 0 0 (fun q => base ≤ q)) (F0 m 42 ls []) := by
  intro n
  induction n with
  | zero =>
    intro x4 h H locs ls hC hl hw
    rw [wp_X6_pieces_L42] at hw
    exact hw.elim
  | succ n ih =>
    intro x4 h H locs ls hC hl hw
    rw [wp_X6_pieces_L42] at hw
    obtain ⟨hx, hb, hr, hml, hown, hts, hg, hs, hlk, hnm⟩ := id hM
    refine lv_iload hx hb dX6_pieces_42 (lo_at hl 1 rfl) ?_
    refine lv_bipush (v := 32) hx hb dX6_pieces_44 (by decide) ?_
    refine lv_icmp_ge (tgt := 87) hx hb dX6_pieces_46 (by decide) (fun c12 => ?_) (fun c12 => ?_)
    ·
      replace hw := (if_pos c12).mp hw
      exact hK87  h H locs ls hC (lo_sub hl [0] rfl) hw
    ·
      replace hw := (if_neg c12).mp hw
      refine lv_iconst (v := 3) hx hb dX6_pieces_49 (by decide) ?_
      refine lo_istore (lv' := [(5, .int ((3 : Int32))), (3, va_rf (Option.map A r3)), (4, .int x4)]) hx hb dX6_pieces_50 hl (by decide) rfl (fun ls hl => ?_)
      refine t_X6_pieces_L52 hM r3 x4 _ Q ?_ fuel (3 : Int32) h H locs ls hC (lo_sub hl [1, 2, 0] rfl) hw
      intro  h18 H locs ls hC hl hw
      obtain ⟨v19, ev19⟩ : ∃ y : Int32, y = x4 + (1 : Int32) := ⟨_, rfl⟩
      replace hw := hw v19 ev19
      refine lo_iinc (v := v19) (lv' := [(4, .int v19), (3, va_rf (Option.map A r3))]) hx hb dX6_pieces_81 hl (k := 1) rfl (by rw [ev19]; rfl) (by decide) rfl (fun ls hl => ?_)
      refine lv_goto (tgt := 42) hx hb dX6_pieces_84 (by decide) ?_
      exact ih v19 h18 H locs ls hC (lo_sub hl [1, 0] rfl) hw
set_option maxHeartbeats 4000000 in
set_option maxRecDepth 100000 in
theorem t_X6_pieces_L93 {p : Program} {l : Launch} {e : Env} {s : State} {m : MethodId} {args : Array Value} {below : List Frame} {meth : Method} {c : Code} {G : GG} {base : Nat} {A : Nat → Nat} {g0 : Hp} (hM : Mx G base p s m args meth c cX6_pieces 6 (some .int) RX6 "pieces") (r3 : Option Nat) (K123 : Int32 → Hp → Prop) (Q : Int32 → Hp → Prop) (hK123 : ∀ (y4 : Int32) (h : Hp) (H : Heap) (locs : List Loc) (ls : Array Slot), Cx2 G base A g0 A h s.heap H locs → lo_has ls 6 [(4, .int y4)] → K123 y4 h → W p l e rm_X6_pieces s m args below meth c H locs 0 0 (MQ below (va_Qi Q (PU2 G base A g0 A) (fun q => base ≤ q)) args s 0 0 (fun q => base ≤ q)) (F0 m 123 ls [])) : ∀ (n : Nat) (x4 : Int32) (x5 : Int32) (h : Hp) (H : Heap) (locs : List Loc) (ls : Array Slot), Cx2 G base A g0 A h s.heap H locs → lo_has ls 6 [(3, va_rf (Option.map A r3)), (4, .int x4), (5, .int x5)] → wp_X6_pieces_L93 r3 K123 Q n x4 x5 h → W p l e rm_X6_pieces s m args below meth c H locs 0 0 (MQ below (va_Qi Q (PU2 G base A g0 A) (fun q => base ≤ q)) args s 0 0 (fun q => base ≤ q)) (F0 m 93 ls []) := by
  intro n
  induction n with
  | zero =>
    intro x4 x5 h H locs ls hC hl hw
    rw [wp_X6_pieces_L93] at hw
    exact hw.elim
  | succ n ih =>
    intro x4 x5 h H locs ls hC hl hw
    rw [wp_X6_pieces_L93] at hw
    obtain ⟨hx, hb, hr, hml, hown, hts, hg, hs, hlk, hnm⟩ := id hM
    refine lv_iload hx hb dX6_pieces_93 (lo_at hl 2 rfl) ?_
    refine lv_bipush (v := 32) hx hb dX6_pieces_95 (by decide) ?_
    refine lv_icmp_ge (tgt := 123) hx hb dX6_pieces_97 (by decide) (fun c21 => ?_) (fun c21 => ?_)
    ·
      replace hw := (if_pos c21).mp hw
      exact hK123 x4 h H locs ls hC (lo_sub hl [1] rfl) hw
    ·
      replace hw := (if_neg c21).mp hw
      refine lv_iload hx hb dX6_pieces_100 (lo_at hl 1 rfl) ?_
      refine lo_aload_n (r := Option.map A r3) hx hb dX6_pieces_102 rfl (lo_at hl 0 rfl) ?_
      obtain ⟨k22, hw⟩ := hw
      refine sf_1 k22.1 ?_
      refine s_getR hx hb hts hown hg hC fb_8_3 k22.2 mk_f_RX6_30 dX6_pieces_103 ?_
      refine lv_bipush (v := 96) hx hb dX6_pieces_106 (by decide) ?_
      refine lv_iload hx hb dX6_pieces_108 (lo_at hl 2 rfl) ?_
      refine lv_iadd hx hb dX6_pieces_110 ?_
      obtain ⟨k23, hw⟩ := hw
      refine sf_2 k23.1 ?_
      refine s_iald hx hb hg hC k23.2.1 k23.2.2 dX6_pieces_111 ?_
      refine lv_topi (fun v24 ev24 => ?_)
      replace hw := hw v24 ev24
      refine va_mmax hx hb (by rw [hml]; exact hl.1.1.symm) hown (hts _ mk_m_RX6_49) (hts _ mk_math_s_max) (hts _ mk_ini_math) (hts _ mk_math_c_max) (Nat.le_of_ble_eq_true rfl) (Nat.le_of_ble_eq_true rfl) (Nat.le_of_ble_eq_true rfl) (Nat.le_of_ble_eq_true rfl) dX6_pieces_112 ?_
      refine lv_topi (fun v25 ev25 => ?_)
      replace hw := hw v25 ev25
      refine lo_istore (lv' := [(4, .int v25), (3, va_rf (Option.map A r3)), (5, .int x5)]) hx hb dX6_pieces_115 hl (by decide) rfl (fun ls hl => ?_)
      obtain ⟨v26, ev26⟩ : ∃ y : Int32, y = x5 + (1 : Int32) := ⟨_, rfl⟩
      replace hw := hw v26 ev26
      refine lo_iinc (v := v26) (lv' := [(5, .int v26), (4, .int v25), (3, va_rf (Option.map A r3))]) hx hb dX6_pieces_117 hl (k := 2) rfl (by rw [ev26]; rfl) (by decide) rfl (fun ls hl => ?_)
      refine lv_goto (tgt := 93) hx hb dX6_pieces_120 (by decide) ?_
      exact ih v25 v26 h H locs ls hC (lo_sub hl [2, 1, 0] rfl) hw
set_option maxHeartbeats 4000000 in
set_option maxRecDepth 100000 in
theorem c_X6_pieces (l : Launch) (G : GG) (base : Nat) (A : Nat → Nat) (r0 : Option Nat) (r1 : Option Nat) (x2 : Int32) (r3 : Option Nat) (h : Hp) (Q : Int32 → Hp → Prop) (hw : wp_X6_pieces r0 r1 x2 r3 h Q) : Met l yX6_pieces (ww yX6_pieces cX6_pieces 6 (some .int)) rm_X6_pieces (va_Pc [va_rf (Option.map A r0), va_rf (Option.map A r1), .int x2, va_rf (Option.map A r3)] (PU2 G base A h A h)) (va_Qi Q (PU2 G base A h A) (fun q => base ≤ q)) 0 0 (fun q => base ≤ q) := by
  refine met2_of (own := RX6) (nm := "pieces") (by decide) rfl rfl (List.forall_mem_cons.mpr ⟨va_rf_cat _, (List.forall_mem_cons.mpr ⟨va_rf_cat _, (List.forall_mem_cons.mpr ⟨rfl, (List.forall_mem_cons.mpr ⟨va_rf_cat _, (fun _ h => absurd h List.not_mem_nil)⟩)⟩)⟩)⟩) (Nat.le_of_ble_eq_true rfl) rfl ?_
  intro p e s m args below meth c H locs ls hM hC hl
  obtain ⟨hx, hb, hr, hml, hown, hts, hg, hs, hlk, hnm⟩ := id hM
  unfold wp_X6_pieces at hw
  refine lo_aload_n (r := Option.map A r3) hx hb dX6_pieces_0 rfl (lo_at hl 3 rfl) ?_
  obtain ⟨k1, hw⟩ := hw
  refine sf_1 k1.1 ?_
  refine s_getR hx hb hts hown hg hC fb_8_3 k1.2 mk_f_RX6_30 dX6_pieces_1 ?_
  refine lv_iconst (v := 0) hx hb dX6_pieces_4 (by decide) ?_
  refine res2_v hC (run2_S (As := [va_rf (Option.map A (hpR h (ad r3) 3)), .int ((0 : Int32))]) (rest := []) hM hC hl.1.1 kv_RX6_36 (c_J7_fill_53178 l G base A (hpR h (ad r3) 3) (0 : Int32) h _ hw) rfl rfl rfl ⟨Nat.le_of_ble_eq_true rfl, Nat.le_of_ble_eq_true rfl⟩ (Nat.le_of_ble_eq_true rfl) ⟨Nat.le_of_ble_eq_true rfl, Nat.le_of_ble_eq_true rfl⟩ dX6_pieces_5) (fun h2 H locs hw hC => ?_)
  refine lv_iconst (v := 0) hx hb dX6_pieces_8 (by decide) ?_
  refine lo_istore (lv' := [(4, .int ((0 : Int32))), (0, va_rf (Option.map A r0)), (1, va_rf (Option.map A r1)), (2, .int x2), (3, va_rf (Option.map A r3))]) hx hb dX6_pieces_9 hl (by decide) rfl (fun ls hl => ?_)
  refine t_X6_pieces_L11 hM r0 r1 x2 r3 _ Q ?_ fuel (0 : Int32) h2 H locs ls hC (lo_sub hl [1, 2, 3, 4, 0] rfl) hw
  intro  h11 H locs ls hC hl hw
  refine lv_iconst (v := 0) hx hb dX6_pieces_39 (by decide) ?_
  refine lo_istore (lv' := [(4, .int ((0 : Int32))), (3, va_rf (Option.map A r3))]) hx hb dX6_pieces_40 hl (by decide) rfl (fun ls hl => ?_)
  refine t_X6_pieces_L42 hM r3 _ Q ?_ fuel (0 : Int32) h11 H locs ls hC (lo_sub hl [1, 0] rfl) hw
  intro  h20 H locs ls hC hl hw
  refine lv_iconst (v := 0) hx hb dX6_pieces_87 (by decide) ?_
  refine lo_istore (lv' := [(4, .int ((0 : Int32))), (3, va_rf (Option.map A r3))]) hx hb dX6_pieces_88 hl (by decide) rfl (fun ls hl => ?_)
  refine lv_iconst (v := 0) hx hb dX6_pieces_90 (by decide) ?_
  refine lo_istore (lv' := [(5, .int ((0 : Int32))), (4, .int ((0 : Int32))), (3, va_rf (Option.map A r3))]) hx hb dX6_pieces_91 hl (by decide) rfl (fun ls hl => ?_)
  refine t_X6_pieces_L93 hM r3 _ Q ?_ fuel (0 : Int32) (0 : Int32) h20 H locs ls hC (lo_sub hl [2, 1, 0] rfl) hw
  intro y28 h27 H locs ls hC hl hw
  refine lv_iload hx hb dX6_pieces_123 (lo_at hl 0 rfl) ?_
  exact ret2_i hM hC hw dX6_pieces_125
