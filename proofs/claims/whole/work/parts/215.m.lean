abbrev rm_J0_length_8abf5 : Room := { frames := 1, cells := 0, slots := 0, locals := 20 }
def wp_J0_length_8abf5 (o : Nat) (h : Hp) (Q : Int32 → Hp → Prop) : Prop := (o < 2) ∧ (wp_J0_coder_7d493 o h (fun (z3 : Int32) (h2 : Hp) => Q ((nI (lnJ.getD o 0)) >>> (z3 &&& 31)) h2))
set_option maxHeartbeats 4000000 in
set_option maxRecDepth 100000 in
theorem c_J0_length_8abf5 (l : Launch) (G : GG) (base : Nat) (o : Nat) (h : Hp) (Q : Int32 → Hp → Prop) (hw : wp_J0_length_8abf5 o h Q) : Met l yJ0_length_8abf5 (ww yJ0_length_8abf5 cJ0_length_8abf5 1 (some .int)) rm_J0_length_8abf5 (va_Pc [.ref (G.2.2.1 o)] (PU G base h)) (va_Qi Q (PU G base) (fun q => base ≤ q)) 0 0 (fun q => base ≤ q) := by
  refine met_of (own := RJ0) (nm := "length") (by decide) rfl rfl (List.forall_mem_cons.mpr ⟨rfl, (fun _ h => absurd h List.not_mem_nil)⟩) (Nat.le_of_ble_eq_true rfl) rfl ?_
  intro p e s m below meth c ls hM hC hl
  obtain ⟨hx, hb, hr, hml, hown, hts, hg, hs, hlk, hnm⟩ := id hM
  obtain ⟨args, hargs⟩ : ∃ a : Array Value, a = ([.ref (G.2.2.1 o)] : List Value).toArray := ⟨_, rfl⟩
  rw [← hargs] at hM hts ⊢
  obtain ⟨H, hH⟩ : ∃ H : Heap, H = s.heap := ⟨_, rfl⟩
  obtain ⟨locs, hlocs⟩ : ∃ x : List Loc, x = [] := ⟨_, rfl⟩
  have hC : Cx G base h s.heap H locs := by rw [hH, hlocs]; exact hC
  show W p l e rm_J0_length_8abf5 s m args below meth c s.heap [] 0 0 (MQ below (va_Qi Q (PU G base) (fun q => base ≤ q)) args s 0 0 (fun q => base ≤ q)) (F0 m 0 ls [])
  rw [← hlocs]
  have hgoal : W p l e rm_J0_length_8abf5 s m args below meth c H locs 0 0 (MQ below (va_Qi Q (PU G base) (fun q => base ≤ q)) args s 0 0 (fun q => base ≤ q)) (F0 m 0 ls []) := ?_
  · rw [hH] at hgoal; exact hgoal
  clear hH hlocs
  unfold wp_J0_length_8abf5 at hw
  refine lv_aload_n hx hb dJ0_length_8abf5_0 rfl (lo_at hl 0 rfl) ?_
  obtain ⟨k1, hw⟩ := hw
  refine vk_getf hx hb (hs.1.1.1 _ k1).2.2.1 hC.2.2 hown (hts _ mk_f_RJ0_9) (fun _ h => h) dJ0_length_8abf5_1 ?_
  refine va_tlen hx hb (hs.1.1.1 _ k1).2.2.2 hC.2.2 (v := nI (lnJ.getD o 0)) rfl dJ0_length_8abf5_4 ?_
  refine lv_aload_n hx hb dJ0_length_8abf5_5 rfl (lo_at hl 0 rfl) ?_
  refine res_i hC (run_VS (As := []) (rest := [.int (nI (lnJ.getD o 0))]) hM hC hl.1.1 kv_RJ0_335 (c_J0_coder_7d493 l G base o h _ hw) k1 rfl rfl rfl ⟨Nat.le_of_ble_eq_true rfl, Nat.le_of_ble_eq_true rfl⟩ (Nat.le_of_ble_eq_true rfl) ⟨Nat.le_of_ble_eq_true rfl, Nat.le_of_ble_eq_true rfl⟩ dJ0_length_8abf5_6) (fun z3 h2 H locs hw hC => ?_)
  refine lv_ishr hx hb dJ0_length_8abf5_9 ?_
  exact ret_i hM hC hw dJ0_length_8abf5_10
abbrev rm_J0_checkIndex_df160 : Room := { frames := 1, cells := 0, slots := 0, locals := 22 }
def wp_J0_checkIndex_df160 (x0 : Int32) (x1 : Int32) (h : Hp) (Q : Hp → Prop) : Prop := ∀ z1 : Option Nat, (wp_J3_checkIndex_8e157 x0 x1 z1 h (fun (z3 : Int32) (h2 : Hp) => Q h2))
set_option maxHeartbeats 4000000 in
set_option maxRecDepth 100000 in
theorem c_J0_checkIndex_df160 (l : Launch) (G : GG) (base : Nat) (x0 : Int32) (x1 : Int32) (h : Hp) (Q : Hp → Prop) (hw : wp_J0_checkIndex_df160 x0 x1 h Q) : Met l yJ0_checkIndex_df160 (ww yJ0_checkIndex_df160 cJ0_checkIndex_df160 2 none) rm_J0_checkIndex_df160 (va_Pc [.int x0, .int x1] (PU G base h)) (va_Qv Q (PU G base) (fun q => base ≤ q)) 0 0 (fun q => base ≤ q) := by
  refine met_of (own := RJ0) (nm := "checkIndex") (by decide) rfl rfl (List.forall_mem_cons.mpr ⟨rfl, (List.forall_mem_cons.mpr ⟨rfl, (fun _ h => absurd h List.not_mem_nil)⟩)⟩) (Nat.le_of_ble_eq_true rfl) rfl ?_
  intro p e s m below meth c ls hM hC hl
  obtain ⟨hx, hb, hr, hml, hown, hts, hg, hs, hlk, hnm⟩ := id hM
  obtain ⟨args, hargs⟩ : ∃ a : Array Value, a = ([.int x0, .int x1] : List Value).toArray := ⟨_, rfl⟩
  rw [← hargs] at hM hts ⊢
  obtain ⟨H, hH⟩ : ∃ H : Heap, H = s.heap := ⟨_, rfl⟩
  obtain ⟨locs, hlocs⟩ : ∃ x : List Loc, x = [] := ⟨_, rfl⟩
  have hC : Cx G base h s.heap H locs := by rw [hH, hlocs]; exact hC
  show W p l e rm_J0_checkIndex_df160 s m args below meth c s.heap [] 0 0 (MQ below (va_Qv Q (PU G base) (fun q => base ≤ q)) args s 0 0 (fun q => base ≤ q)) (F0 m 0 ls [])
  rw [← hlocs]
  have hgoal : W p l e rm_J0_checkIndex_df160 s m args below meth c H locs 0 0 (MQ below (va_Qv Q (PU G base) (fun q => base ≤ q)) args s 0 0 (fun q => base ≤ q)) (F0 m 0 ls []) := ?_
  · rw [hH] at hgoal; exact hgoal
  clear hH hlocs
  unfold wp_J0_checkIndex_df160 at hw
  refine lv_iload_n hx hb dJ0_checkIndex_df160_0 rfl (lo_at hl 0 rfl) ?_
  refine lv_iload_n hx hb dJ0_checkIndex_df160_1 rfl (lo_at hl 1 rfl) ?_
  refine r_gsq hx hb hs.1.2.2 hC.2.2 hown (hts _ mk_f_RJ0_1053) (fun _ h => h) dJ0_checkIndex_df160_2 (fun z1 => ?_)
  replace hw := hw z1
  refine res_i hC (run_S (As := [.int x0, .int x1, va_rf z1]) (rest := []) hM hC hl.1.1 kv_RJ0_1059 (c_J3_checkIndex_8e157 l G base x0 x1 z1 h _ hw) rfl rfl rfl ⟨Nat.le_of_ble_eq_true rfl, Nat.le_of_ble_eq_true rfl⟩ (Nat.le_of_ble_eq_true rfl) ⟨Nat.le_of_ble_eq_true rfl, Nat.le_of_ble_eq_true rfl⟩ dJ0_checkIndex_df160_5) (fun z3 h2 H locs hw hC => ?_)
  refine lv_pop hx hb dJ0_checkIndex_df160_8 rfl ?_
  exact ret_v hM hC hw dJ0_checkIndex_df160_9
abbrev rm_J1_charAt_3b067 : Room := { frames := 2, cells := 0, slots := 0, locals := 43 }
def wp_J1_charAt_3b067 (i0 : Nat) (x1 : Int32) (h : Hp) (Q : Int32 → Hp → Prop) : Prop := (i0 < 2) ∧ (wp_J0_checkIndex_df160 x1 (nI (lnJ.getD i0 0)) h (fun (h2 : Hp) => (i0 < 2) ∧ (vp_in x1 (lnJ.getD i0 0) ∧ (∀ v6 : Int32, v6 = (byJ.getD i0 []).getD (x1).toNatClampNeg 0 → (narrow .char (.int (((v6 &&& (255 : Int32)).toUInt32 % 65536).toInt32)) = .int (((v6 &&& (255 : Int32)).toUInt32 % 65536).toInt32) ∧ Q (((v6 &&& (255 : Int32)).toUInt32 % 65536).toInt32) h2)))))
set_option maxHeartbeats 4000000 in
set_option maxRecDepth 100000 in
theorem c_J1_charAt_3b067 (l : Launch) (G : GG) (base : Nat) (i0 : Nat) (x1 : Int32) (h : Hp) (Q : Int32 → Hp → Prop) (hw : wp_J1_charAt_3b067 i0 x1 h Q) : Met l yJ1_charAt_3b067 (ww yJ1_charAt_3b067 cJ1_charAt_3b067 2 (some .char)) rm_J1_charAt_3b067 (va_Pc [.ref (G.2.2.2 i0), .int x1] (PU G base h)) (va_Qi Q (PU G base) (fun q => base ≤ q)) 0 0 (fun q => base ≤ q) := by
  refine met_of (own := RJ1) (nm := "charAt") (by decide) rfl rfl (List.forall_mem_cons.mpr ⟨rfl, (List.forall_mem_cons.mpr ⟨rfl, (fun _ h => absurd h List.not_mem_nil)⟩)⟩) (Nat.le_of_ble_eq_true rfl) rfl ?_
  intro p e s m below meth c ls hM hC hl
  obtain ⟨hx, hb, hr, hml, hown, hts, hg, hs, hlk, hnm⟩ := id hM
  obtain ⟨args, hargs⟩ : ∃ a : Array Value, a = ([.ref (G.2.2.2 i0), .int x1] : List Value).toArray := ⟨_, rfl⟩
  rw [← hargs] at hM hts ⊢
  obtain ⟨H, hH⟩ : ∃ H : Heap, H = s.heap := ⟨_, rfl⟩
  obtain ⟨locs, hlocs⟩ : ∃ x : List Loc, x = [] := ⟨_, rfl⟩
  have hC : Cx G base h s.heap H locs := by rw [hH, hlocs]; exact hC
  show W p l e rm_J1_charAt_3b067 s m args below meth c s.heap [] 0 0 (MQ below (va_Qi Q (PU G base) (fun q => base ≤ q)) args s 0 0 (fun q => base ≤ q)) (F0 m 0 ls [])
  rw [← hlocs]
  have hgoal : W p l e rm_J1_charAt_3b067 s m args below meth c H locs 0 0 (MQ below (va_Qi Q (PU G base) (fun q => base ≤ q)) args s 0 0 (fun q => base ≤ q)) (F0 m 0 ls []) := ?_
  · rw [hH] at hgoal; exact hgoal
  clear hH hlocs
  unfold wp_J1_charAt_3b067 at hw
  refine lv_iload_n hx hb dJ1_charAt_3b067_0 rfl (lo_at hl 1 rfl) ?_
  refine lv_aload_n hx hb dJ1_charAt_3b067_1 rfl (lo_at hl 0 rfl) ?_
  obtain ⟨k1, hw⟩ := hw
  refine va_tlen hx hb (hs.1.1.1 _ k1).2.2.2 hC.2.2 (v := nI (lnJ.getD i0 0)) rfl dJ1_charAt_3b067_2 ?_
  refine res_v hC (run_S (As := [.int x1, .int (nI (lnJ.getD i0 0))]) (rest := []) hM hC hl.1.1 kv_RJ1_9 (c_J0_checkIndex_df160 l G base x1 (nI (lnJ.getD i0 0)) h _ hw) rfl rfl rfl ⟨Nat.le_of_ble_eq_true rfl, Nat.le_of_ble_eq_true rfl⟩ (Nat.le_of_ble_eq_true rfl) ⟨Nat.le_of_ble_eq_true rfl, Nat.le_of_ble_eq_true rfl⟩ dJ1_charAt_3b067_3) (fun h2 H locs hw hC => ?_)
  refine lv_aload_n hx hb dJ1_charAt_3b067_6 rfl (lo_at hl 0 rfl) ?_
  refine lv_iload_n hx hb dJ1_charAt_3b067_7 rfl (lo_at hl 1 rfl) ?_
  obtain ⟨k4, hw⟩ := hw
  obtain ⟨k5, hw⟩ := hw
  refine va_tb hx hb (hs.1.1.1 _ k4).2.2.2 hC.2.2 k5 (v := .int ((byJ.getD i0 []).getD (x1).toNatClampNeg 0)) rfl dJ1_charAt_3b067_8 ?_
  refine lv_topi (fun v6 ev6 => ?_)
  replace hw := hw v6 ev6
  refine lv_sipush (v := 255) hx hb dJ1_charAt_3b067_9 (by decide) ?_
  refine lv_iand hx hb dJ1_charAt_3b067_12 ?_
  refine lv_i2c hx hb dJ1_charAt_3b067_13 (v := ((v6 &&& (255 : Int32)).toUInt32 % 65536).toInt32) rfl ?_
  exact ret_t hM hC hw.1 hw.2 dJ1_charAt_3b067_14
abbrev rm_J1_indexOf_4cfef : Room := { frames := 1, cells := 0, slots := 0, locals := 40 }
def wp_J1_indexOf_4cfef (i0 : Nat) (x1 : Int32) (x2 : Int32) (x3 : Int32) (h : Hp) (Q : Int32 → Hp → Prop) : Prop := wp_J1_canEncode_9a6ad x1 h (fun (z2 : Int32) (h1 : Hp) => (if z2 = 0 then (Q (-1 : Int32) h1) else (∀ v4 : Int32, v4 = (if x2 < (0 : Int32) then (0 : Int32) else x2) → ((i0 < 2) ∧ (∀ v6 : Int32, v6 = (if (nI (lnJ.getD i0 0)) < x3 then (nI (lnJ.getD i0 0)) else x3) → ((if v4 < v6 then (wp_J1_indexOfChar_4cfef i0 x1 v4 v6 h1 (fun (z9 : Int32) (h8 : Hp) => Q z9 h8)) else (Q (-1 : Int32) h1))))))))
set_option maxHeartbeats 4000000 in
set_option maxRecDepth 100000 in
theorem c_J1_indexOf_4cfef (l : Launch) (G : GG) (base : Nat) (i0 : Nat) (x1 : Int32) (x2 : Int32) (x3 : Int32) (h : Hp) (Q : Int32 → Hp → Prop) (hw : wp_J1_indexOf_4cfef i0 x1 x2 x3 h Q) : Met l yJ1_indexOf_4cfef (ww yJ1_indexOf_4cfef cJ1_indexOf_4cfef 4 (some .int)) rm_J1_indexOf_4cfef (va_Pc [.ref (G.2.2.2 i0), .int x1, .int x2, .int x3] (PU G base h)) (va_Qi Q (PU G base) (fun q => base ≤ q)) 0 0 (fun q => base ≤ q) := by
  refine met_of (own := RJ1) (nm := "indexOf") (by decide) rfl rfl (List.forall_mem_cons.mpr ⟨rfl, (List.forall_mem_cons.mpr ⟨rfl, (List.forall_mem_cons.mpr ⟨rfl, (List.forall_mem_cons.mpr ⟨rfl, (fun _ h => absurd h List.not_mem_nil)⟩)⟩)⟩)⟩) (Nat.le_of_ble_eq_true rfl) rfl ?_
  intro p e s m below meth c ls hM hC hl
  obtain ⟨hx, hb, hr, hml, hown, hts, hg, hs, hlk, hnm⟩ := id hM
  obtain ⟨args, hargs⟩ : ∃ a : Array Value, a = ([.ref (G.2.2.2 i0), .int x1, .int x2, .int x3] : List Value).toArray := ⟨_, rfl⟩
  rw [← hargs] at hM hts ⊢
  obtain ⟨H, hH⟩ : ∃ H : Heap, H = s.heap := ⟨_, rfl⟩
  obtain ⟨locs, hlocs⟩ : ∃ x : List Loc, x = [] := ⟨_, rfl⟩
  have hC : Cx G base h s.heap H locs := by rw [hH, hlocs]; exact hC
  show W p l e rm_J1_indexOf_4cfef s m args below meth c s.heap [] 0 0 (MQ below (va_Qi Q (PU G base) (fun q => base ≤ q)) args s 0 0 (fun q => base ≤ q)) (F0 m 0 ls [])
  rw [← hlocs]
  have hgoal : W p l e rm_J1_indexOf_4cfef s m args below meth c H locs 0 0 (MQ below (va_Qi Q (PU G base) (fun q => base ≤ q)) args s 0 0 (fun q => base ≤ q)) (F0 m 0 ls []) := ?_
  · rw [hH] at hgoal; exact hgoal
  clear hH hlocs
  unfold wp_J1_indexOf_4cfef at hw
  refine lv_iload_n hx hb dJ1_indexOf_4cfef_0 rfl (lo_at hl 1 rfl) ?_
  refine res_i hC (run_S (As := [.int x1]) (rest := []) hM hC hl.1.1 kv_RJ1_88 (c_J1_canEncode_9a6ad l G base x1 h _ hw) rfl rfl rfl ⟨Nat.le_of_ble_eq_true rfl, Nat.le_of_ble_eq_true rfl⟩ (Nat.le_of_ble_eq_true rfl) ⟨Nat.le_of_ble_eq_true rfl, Nat.le_of_ble_eq_true rfl⟩ dJ1_indexOf_4cfef_1) (fun z2 h1 H locs hw hC => ?_)
  refine lv_if_ne (tgt := 9) hx hb dJ1_indexOf_4cfef_4 (by decide) (fun c3 => ?_) (fun c3 => ?_)
  ·
    replace hw := (if_neg c3).mp hw
    refine lv_iload_n hx hb dJ1_indexOf_4cfef_9 rfl (lo_at hl 2 rfl) ?_
    refine lv_iconst (v := 0) hx hb dJ1_indexOf_4cfef_10 (by decide) ?_
    refine va_mmax hx hb (by rw [hml]; exact hl.1.1.symm) hown (hts _ mk_m_RJ1_92) (hts _ mk_math_s_max) (hts _ mk_ini_math) (hts _ mk_math_c_max) (Nat.le_of_ble_eq_true rfl) (Nat.le_of_ble_eq_true rfl) (Nat.le_of_ble_eq_true rfl) (Nat.le_of_ble_eq_true rfl) dJ1_indexOf_4cfef_11 ?_
    refine lv_topi (fun v4 ev4 => ?_)
    replace hw := hw v4 ev4
    refine lo_istore_n (lv' := [(2, .int v4), (0, .ref (G.2.2.2 i0)), (1, .int x1), (3, .int x3)]) hx hb dJ1_indexOf_4cfef_14 rfl hl (by decide) rfl (fun ls hl => ?_)
    refine lv_iload_n hx hb dJ1_indexOf_4cfef_15 rfl (lo_at hl 3 rfl) ?_
    refine lv_aload_n hx hb dJ1_indexOf_4cfef_16 rfl (lo_at hl 1 rfl) ?_
    obtain ⟨k5, hw⟩ := hw
    refine va_tlen hx hb (hs.1.1.1 _ k5).2.2.2 hC.2.2 (v := nI (lnJ.getD i0 0)) rfl dJ1_indexOf_4cfef_17 ?_
    refine va_mmin hx hb (by rw [hml]; exact hl.1.1.symm) hown (hts _ mk_m_RJ1_38) (hts _ mk_math_s_min) (hts _ mk_ini_math) (hts _ mk_math_c_min) (Nat.le_of_ble_eq_true rfl) (Nat.le_of_ble_eq_true rfl) (Nat.le_of_ble_eq_true rfl) (Nat.le_of_ble_eq_true rfl) dJ1_indexOf_4cfef_18 ?_
    refine lv_topi (fun v6 ev6 => ?_)
    replace hw := hw v6 ev6
    refine lo_istore_n (lv' := [(3, .int v6), (2, .int v4), (0, .ref (G.2.2.2 i0)), (1, .int x1)]) hx hb dJ1_indexOf_4cfef_21 rfl hl (by decide) rfl (fun ls hl => ?_)
    refine lv_iload_n hx hb dJ1_indexOf_4cfef_22 rfl (lo_at hl 1 rfl) ?_
    refine lv_iload_n hx hb dJ1_indexOf_4cfef_23 rfl (lo_at hl 0 rfl) ?_
    refine lv_icmp_lt (tgt := 29) hx hb dJ1_indexOf_4cfef_24 (by decide) (fun c7 => ?_) (fun c7 => ?_)
    ·
      replace hw := (if_pos c7).mp hw
      refine lv_aload_n hx hb dJ1_indexOf_4cfef_29 rfl (lo_at hl 2 rfl) ?_
      refine lv_iload_n hx hb dJ1_indexOf_4cfef_30 rfl (lo_at hl 3 rfl) ?_
      refine lv_iload_n hx hb dJ1_indexOf_4cfef_31 rfl (lo_at hl 1 rfl) ?_
      refine lv_iload_n hx hb dJ1_indexOf_4cfef_32 rfl (lo_at hl 0 rfl) ?_
      refine res_i hC (run_S (As := [.ref (G.2.2.2 i0), .int x1, .int v4, .int v6]) (rest := []) hM hC hl.1.1 kv_RJ1_95 (c_J1_indexOfChar_4cfef l G base i0 x1 v4 v6 h1 _ hw) rfl rfl rfl ⟨Nat.le_of_ble_eq_true rfl, Nat.le_of_ble_eq_true rfl⟩ (Nat.le_of_ble_eq_true rfl) ⟨Nat.le_of_ble_eq_true rfl, Nat.le_of_ble_eq_true rfl⟩ dJ1_indexOf_4cfef_33) (fun z9 h8 H locs hw hC => ?_)
      exact ret_i hM hC hw dJ1_indexOf_4cfef_36
    ·
      replace hw := (if_neg c7).mp hw
      refine lv_iconst (v := -1) hx hb dJ1_indexOf_4cfef_27 (by decide) ?_
      exact ret_i hM hC hw dJ1_indexOf_4cfef_28
  ·
    replace hw := (if_pos c3).mp hw
    refine lv_iconst (v := -1) hx hb dJ1_indexOf_4cfef_7 (by decide) ?_
    exact ret_i hM hC hw dJ1_indexOf_4cfef_8
abbrev rm_X3_measured : Room := { frames := 2, cells := 0, slots := 0, locals := 55 }
def wp_X3_measured (o : Nat) (r1 : Option Nat) (r2 : Option Nat) (h : Hp) (Q : Int32 → Hp → Prop) : Prop := okO h r1 0 ∧ (okO h r2 0 ∧ (∀ v3 : Int32, v3 = ((hpI h (ad r1) 0) * (40 : Int32)) + (hpI h (ad r2) 0) → (((hpK h o).1 = 20 + 2) ∧ (okA h (hpR h o 2) 1 v3 ∧ (∀ v6 : Int32, v6 = hpI h (ad (hpR h o 2)) (v3).toNatClampNeg → ((if (v6 &&& (131072 : Int32)) = 0 then (okA h (hpR h o 2) 1 v3 ∧ (∀ v11 : Int32, v11 = hpI h (ad (hpR h o 2)) (v3).toNatClampNeg → (wp_X6_measure (hpR h (ad r1) 4) (hpR h (ad r2) 4) (hpI h o 0) h (fun (z13 : Int32) (h12 : Hp) => okA h12 (hpR h o 2) 1 v3 ∧ (∀ h15 : Hp, h15 = stI h12 (ad (hpR h o 2)) (v3).toNatClampNeg (v11 ||| ((131072 : Int32) ||| z13)) → (((hpK h15 o).1 = 20 + 2) ∧ (okA h15 (hpR h15 o 2) 1 v3 ∧ (∀ v18 : Int32, v18 = hpI h15 (ad (hpR h15 o 2)) (v3).toNatClampNeg → (Q v18 h15))))))))) else (okA h (hpR h o 2) 1 v3 ∧ (∀ v9 : Int32, v9 = hpI h (ad (hpR h o 2)) (v3).toNatClampNeg → (Q v9 h))))))))))
set_option maxHeartbeats 4000000 in
set_option maxRecDepth 100000 in
theorem c_X3_measured (l : Launch) (G : GG) (base : Nat) (o : Nat) (r1 : Option Nat) (r2 : Option Nat) (h : Hp) (Q : Int32 → Hp → Prop) (hw : wp_X3_measured o r1 r2 h Q) : Met l yX3_measured (ww yX3_measured cX3_measured 4 (some .int)) rm_X3_measured (va_Pc [.ref o, va_rf r1, va_rf r2] (PU G base h)) (va_Qi Q (PU G base) (fun q => base ≤ q)) 0 0 (fun q => base ≤ q) := by
  refine met_of (own := RX3) (nm := "measured") (by decide) rfl rfl (List.forall_mem_cons.mpr ⟨rfl, (List.forall_mem_cons.mpr ⟨va_rf_cat _, (List.forall_mem_cons.mpr ⟨va_rf_cat _, (fun _ h => absurd h List.not_mem_nil)⟩)⟩)⟩) (Nat.le_of_ble_eq_true rfl) rfl ?_
  intro p e s m below meth c ls hM hC hl
  obtain ⟨hx, hb, hr, hml, hown, hts, hg, hs, hlk, hnm⟩ := id hM
  obtain ⟨args, hargs⟩ : ∃ a : Array Value, a = ([.ref o, va_rf r1, va_rf r2] : List Value).toArray := ⟨_, rfl⟩
  rw [← hargs] at hM hts ⊢
  obtain ⟨H, hH⟩ : ∃ H : Heap, H = s.heap := ⟨_, rfl⟩
  obtain ⟨locs, hlocs⟩ : ∃ x : List Loc, x = [] := ⟨_, rfl⟩
  have hC : Cx G base h s.heap H locs := by rw [hH, hlocs]; exact hC
  show W p l e rm_X3_measured s m args below meth c s.heap [] 0 0 (MQ below (va_Qi Q (PU G base) (fun q => base ≤ q)) args s 0 0 (fun q => base ≤ q)) (F0 m 0 ls [])
  rw [← hlocs]
  have hgoal : W p l e rm_X3_measured s m args below meth c H locs 0 0 (MQ below (va_Qi Q (PU G base) (fun q => base ≤ q)) args s 0 0 (fun q => base ≤ q)) (F0 m 0 ls []) := ?_
  · rw [hH] at hgoal; exact hgoal
  clear hH hlocs
  unfold wp_X3_measured at hw
  refine lo_aload_n (r := r1) hx hb dX3_measured_0 rfl (lo_at hl 1 rfl) ?_
  obtain ⟨k1, hw⟩ := hw
  refine rf_1 k1.1 ?_
  refine r_getI hx hb hts hown hg hC fb_0_0 k1.2 mk_f_RX3_29 dX3_measured_1 ?_
  refine lv_bipush (v := 40) hx hb dX3_measured_4 (by decide) ?_
  refine lv_imul hx hb dX3_measured_6 ?_
  refine lo_aload_n (r := r2) hx hb dX3_measured_7 rfl (lo_at hl 2 rfl) ?_
  obtain ⟨k2, hw⟩ := hw
  refine rf_1 k2.1 ?_
  refine r_getI hx hb hts hown hg hC fb_0_0 k2.2 mk_f_RX3_29 dX3_measured_8 ?_
  refine lv_iadd hx hb dX3_measured_11 ?_
  refine lv_topi (fun v3 ev3 => ?_)
  replace hw := hw v3 ev3
  refine lo_istore_n (lv' := [(3, .int v3), (0, .ref o), (1, va_rf r1), (2, va_rf r2)]) hx hb dX3_measured_12 rfl hl (by decide) rfl (fun ls hl => ?_)
  refine lv_aload_n hx hb dX3_measured_13 rfl (lo_at hl 1 rfl) ?_
  obtain ⟨k4, hw⟩ := hw
  refine r_getR hx hb hts hown hg hC fb_2_2 k4 mk_f_RX3_18 dX3_measured_14 ?_
  refine lv_iload_n hx hb dX3_measured_17 rfl (lo_at hl 0 rfl) ?_
  obtain ⟨k5, hw⟩ := hw
  refine rf_2 k5.1 ?_
  refine r_iald hx hb hg hC k5.2.1 k5.2.2 dX3_measured_18 ?_
  refine lv_topi (fun v6 ev6 => ?_)
  replace hw := hw v6 ev6
  refine lv_ldc (v := 131072) hx hb hown (hts _ mk_k_RX3_34) dX3_measured_19 ?_
  refine lv_iand hx hb dX3_measured_21 ?_
  refine lv_if_ne (tgt := 52) hx hb dX3_measured_22 (by decide) (fun c7 => ?_) (fun c7 => ?_)
  ·
    replace hw := (if_neg c7).mp hw
    refine lv_aload_n hx hb dX3_measured_52 rfl (lo_at hl 1 rfl) ?_
    refine r_getR hx hb hts hown hg hC fb_2_2 k4 mk_f_RX3_18 dX3_measured_53 ?_
    refine lv_iload_n hx hb dX3_measured_56 rfl (lo_at hl 0 rfl) ?_
    obtain ⟨k8, hw⟩ := hw
    refine rf_2 k8.1 ?_
    refine r_iald hx hb hg hC k8.2.1 k8.2.2 dX3_measured_57 ?_
    refine lv_topi (fun v9 ev9 => ?_)
    replace hw := hw v9 ev9
    exact ret_i hM hC hw dX3_measured_58
  ·
    replace hw := (if_pos c7).mp hw
    refine lv_aload_n hx hb dX3_measured_25 rfl (lo_at hl 1 rfl) ?_
    refine r_getR hx hb hts hown hg hC fb_2_2 k4 mk_f_RX3_18 dX3_measured_26 ?_
    refine lv_iload_n hx hb dX3_measured_29 rfl (lo_at hl 0 rfl) ?_
    refine lv_dup2_11 hx hb dX3_measured_30 rfl (va_rf_cat _) ?_
    obtain ⟨k10, hw⟩ := hw
    refine rf_2 k10.1 ?_
    refine r_iald hx hb hg hC k10.2.1 k10.2.2 dX3_measured_31 ?_
    refine lv_topi (fun v11 ev11 => ?_)
    replace hw := hw v11 ev11
    refine lv_ldc (v := 131072) hx hb hown (hts _ mk_k_RX3_34) dX3_measured_32 ?_
    refine lo_aload_n (r := r1) hx hb dX3_measured_34 rfl (lo_at hl 2 rfl) ?_
    refine rf_1 k1.1 ?_
    refine r_getR hx hb hts hown hg hC fb_0_4 k1.2 mk_f_RX3_35 dX3_measured_35 ?_
    refine lo_aload_n (r := r2) hx hb dX3_measured_38 rfl (lo_at hl 3 rfl) ?_
    refine rf_1 k2.1 ?_
    refine r_getR hx hb hts hown hg hC fb_0_4 k2.2 mk_f_RX3_35 dX3_measured_39 ?_
    refine lv_aload_n hx hb dX3_measured_42 rfl (lo_at hl 1 rfl) ?_
    refine r_getI hx hb hts hown hg hC fb_2_0 k4 mk_f_RX3_22 dX3_measured_43 ?_
    refine res_i hC (run_S (As := [va_rf (hpR h (ad r1) 4), va_rf (hpR h (ad r2) 4), .int (hpI h o 0)]) (rest := [.int ((131072 : Int32)), .int v11, .int v3, va_rf (hpR h o 2)]) hM hC hl.1.1 kv_RX3_38 (c_X6_measure l G base (hpR h (ad r1) 4) (hpR h (ad r2) 4) (hpI h o 0) h _ hw) rfl rfl rfl ⟨Nat.le_of_ble_eq_true rfl, Nat.le_of_ble_eq_true rfl⟩ (rest_le (List.forall_mem_cons.mpr ⟨rfl, (List.forall_mem_cons.mpr ⟨rfl, (List.forall_mem_cons.mpr ⟨rfl, (List.forall_mem_cons.mpr ⟨va_rf_cat _, (fun _ h => absurd h List.not_mem_nil)⟩)⟩)⟩)⟩) (Nat.le_of_ble_eq_true rfl)) ⟨Nat.le_of_ble_eq_true rfl, Nat.le_of_ble_eq_true rfl⟩ dX3_measured_46) (fun z13 h12 H locs hw hC => ?_)
    refine lv_ior hx hb dX3_measured_49 ?_
    refine lv_ior hx hb dX3_measured_50 ?_
    obtain ⟨k14, hw⟩ := hw
    refine rf_3 k14.1 ?_
    refine r_iast hx hb hg hC k14.2.1 k14.2.2 dX3_measured_51 (fun h15 H locs eh15 hC => ?_)
    replace hw := hw h15 eh15
    refine lv_aload_n hx hb dX3_measured_52 rfl (lo_at hl 1 rfl) ?_
    obtain ⟨k16, hw⟩ := hw
    refine r_getR hx hb hts hown hg hC fb_2_2 k16 mk_f_RX3_18 dX3_measured_53 ?_
    refine lv_iload_n hx hb dX3_measured_56 rfl (lo_at hl 0 rfl) ?_
    obtain ⟨k17, hw⟩ := hw
    refine rf_2 k17.1 ?_
    refine r_iald hx hb hg hC k17.2.1 k17.2.2 dX3_measured_57 ?_
    refine lv_topi (fun v18 ev18 => ?_)
    replace hw := hw v18 ev18
    exact ret_i hM hC hw dX3_measured_58
abbrev rm_X3_piecesOf : Room := { frames := 3, cells := 0, slots := 0, locals := 91 }
def wp_X3_piecesOf_J63 (o : Nat) (x4 : Int32) (Q : Int32 → Hp → Prop) (h : Hp) : Prop := ((hpK h o).1 = 20 + 2) ∧ (okA h (hpR h o 2) 1 x4 ∧ (∀ v10 : Int32, v10 = hpI h (ad (hpR h o 2)) (x4).toNatClampNeg → (Q ((((v10).toUInt32 >>> (((18 : Int32)).toUInt32 &&& Int32.toUInt32 31)).toInt32) &&& (63 : Int32)) h)))
def wp_X3_piecesOf (o : Nat) (r1 : Option Nat) (r2 : Option Nat) (r3 : Option Nat) (h : Hp) (Q : Int32 → Hp → Prop) : Prop := okO h r1 0 ∧ (okO h r2 0 ∧ (∀ v3 : Int32, v3 = ((hpI h (ad r1) 0) * (40 : Int32)) + (hpI h (ad r2) 0) → (((hpK h o).1 = 20 + 2) ∧ (okA h (hpR h o 2) 1 v3 ∧ (∀ v6 : Int32, v6 = hpI h (ad (hpR h o 2)) (v3).toNatClampNeg → ((if (v6 &&& (16777216 : Int32)) = 0 then (wp_X6_pieces (hpR h (ad r1) 4) (hpR h (ad r2) 4) (hpI h o 0) r3 h (fun (z12 : Int32) (h11 : Hp) => ((hpK h11 o).1 = 20 + 2) ∧ (okA h11 (hpR h11 o 2) 1 v3 ∧ (∀ v15 : Int32, v15 = hpI h11 (ad (hpR h11 o 2)) (v3).toNatClampNeg → (okA h11 (hpR h11 o 2) 1 v3 ∧ (∀ h17 : Hp, h17 = stI h11 (ad (hpR h11 o 2)) (v3).toNatClampNeg (v15 ||| ((16777216 : Int32) ||| (z12 <<< ((18 : Int32) &&& 31)))) → (wp_X3_piecesOf_J63 o v3 Q h17))))))) else (wp_X3_piecesOf_J63 o v3 Q h))))))))
set_option maxHeartbeats 4000000 in
set_option maxRecDepth 100000 in
theorem t_X3_piecesOf_J63 {p : Program} {l : Launch} {e : Env} {s : State} {m : MethodId} {args : Array Value} {below : List Frame} {meth : Method} {c : Code} {G : GG} {base : Nat} (hM : Mx G base p s m args meth c cX3_piecesOf 6 (some .int) RX3 "piecesOf") (o : Nat) (x4 : Int32) (Q : Int32 → Hp → Prop) (h : Hp) (H : Heap) (locs : List Loc) (ls : Array Slot) : Cx G base h s.heap H locs → lo_has ls 6 [(0, .ref o), (4, .int x4)] → wp_X3_piecesOf_J63 o x4 Q h → W p l e rm_X3_piecesOf s m args below meth c H locs 0 0 (MQ below (va_Qi Q (PU G base) (fun q => base ≤ q)) args s 0 0 (fun q => base ≤ q)) (F0 m 63 ls []) := by
  intro hC hl hw
  unfold wp_X3_piecesOf_J63 at hw
  obtain ⟨hx, hb, hr, hml, hown, hts, hg, hs, hlk, hnm⟩ := id hM
  refine lv_aload_n hx hb dX3_piecesOf_63 rfl (lo_at hl 0 rfl) ?_
  obtain ⟨k8, hw⟩ := hw
  refine r_getR hx hb hts hown hg hC fb_2_2 k8 mk_f_RX3_18 dX3_piecesOf_64 ?_
  refine lv_iload hx hb dX3_piecesOf_67 (lo_at hl 1 rfl) ?_
  obtain ⟨k9, hw⟩ := hw
  refine rf_2 k9.1 ?_
  refine r_iald hx hb hg hC k9.2.1 k9.2.2 dX3_piecesOf_69 ?_
  refine lv_topi (fun v10 ev10 => ?_)
  replace hw := hw v10 ev10
  refine lv_bipush (v := 18) hx hb dX3_piecesOf_70 (by decide) ?_
  refine lv_iushr hx hb dX3_piecesOf_72 (v := ((v10).toUInt32 >>> (((18 : Int32)).toUInt32 &&& Int32.toUInt32 31)).toInt32) rfl ?_
  refine lv_bipush (v := 63) hx hb dX3_piecesOf_73 (by decide) ?_
  refine lv_iand hx hb dX3_piecesOf_75 ?_
  exact ret_i hM hC hw dX3_piecesOf_76
set_option maxHeartbeats 4000000 in
set_option maxRecDepth 100000 in
theorem c_X3_piecesOf (l : Launch) (G : GG) (base : Nat) (o : Nat) (r1 : Option Nat) (r2 : Option Nat) (r3 : Option Nat) (h : Hp) (Q : Int32 → Hp → Prop) (hw : wp_X3_piecesOf o r1 r2 r3 h Q) : Met l yX3_piecesOf (ww yX3_piecesOf cX3_piecesOf 6 (some .int)) rm_X3_piecesOf (va_Pc [.ref o, va_rf r1, va_rf r2, va_rf r3] (PU G base h)) (va_Qi Q (PU G base) (fun q => base ≤ q)) 0 0 (fun q => base ≤ q) := by
  refine met_of (own := RX3) (nm := "piecesOf") (by decide) rfl rfl (List.forall_mem_cons.mpr ⟨rfl, (List.forall_mem_cons.mpr ⟨va_rf_cat _, (List.forall_mem_cons.mpr ⟨va_rf_cat _, (List.forall_mem_cons.mpr ⟨va_rf_cat _, (fun _ h => absurd h List.not_mem_nil)⟩)⟩)⟩)⟩) (Nat.le_of_ble_eq_true rfl) rfl ?_
  intro p e s m below meth c ls hM hC hl
  obtain ⟨hx, hb, hr, hml, hown, hts, hg, hs, hlk, hnm⟩ := id hM
  obtain ⟨args, hargs⟩ : ∃ a : Array Value, a = ([.ref o, va_rf r1, va_rf r2, va_rf r3] : List Value).toArray := ⟨_, rfl⟩
  rw [← hargs] at hM hts ⊢
  obtain ⟨H, hH⟩ : ∃ H : Heap, H = s.heap := ⟨_, rfl⟩
  obtain ⟨locs, hlocs⟩ : ∃ x : List Loc, x = [] := ⟨_, rfl⟩
  have hC : Cx G base h s.heap H locs := by rw [hH, hlocs]; exact hC
  show W p l e rm_X3_piecesOf s m args below meth c s.heap [] 0 0 (MQ below (va_Qi Q (PU G base) (fun q => base ≤ q)) args s 0 0 (fun q => base ≤ q)) (F0 m 0 ls [])
  rw [← hlocs]
  have hgoal : W p l e rm_X3_piecesOf s m args below meth c H locs 0 0 (MQ below (va_Qi Q (PU G base) (fun q => base ≤ q)) args s 0 0 (fun q => base ≤ q)) (F0 m 0 ls []) := ?_
  · rw [hH] at hgoal; exact hgoal
  clear hH hlocs
  unfold wp_X3_piecesOf at hw
  refine lo_aload_n (r := r1) hx hb dX3_piecesOf_0 rfl (lo_at hl 1 rfl) ?_
  obtain ⟨k1, hw⟩ := hw
  refine rf_1 k1.1 ?_
  refine r_getI hx hb hts hown hg hC fb_0_0 k1.2 mk_f_RX3_29 dX3_piecesOf_1 ?_
  refine lv_bipush (v := 40) hx hb dX3_piecesOf_4 (by decide) ?_
  refine lv_imul hx hb dX3_piecesOf_6 ?_
  refine lo_aload_n (r := r2) hx hb dX3_piecesOf_7 rfl (lo_at hl 2 rfl) ?_
  obtain ⟨k2, hw⟩ := hw
  refine rf_1 k2.1 ?_
  refine r_getI hx hb hts hown hg hC fb_0_0 k2.2 mk_f_RX3_29 dX3_piecesOf_8 ?_
  refine lv_iadd hx hb dX3_piecesOf_11 ?_
  refine lv_topi (fun v3 ev3 => ?_)
  replace hw := hw v3 ev3
  refine lo_istore (lv' := [(4, .int v3), (0, .ref o), (1, va_rf r1), (2, va_rf r2), (3, va_rf r3)]) hx hb dX3_piecesOf_12 hl (by decide) rfl (fun ls hl => ?_)
  refine lv_aload_n hx hb dX3_piecesOf_14 rfl (lo_at hl 1 rfl) ?_
  obtain ⟨k4, hw⟩ := hw
  refine r_getR hx hb hts hown hg hC fb_2_2 k4 mk_f_RX3_18 dX3_piecesOf_15 ?_
  refine lv_iload hx hb dX3_piecesOf_18 (lo_at hl 0 rfl) ?_
  obtain ⟨k5, hw⟩ := hw
  refine rf_2 k5.1 ?_
  refine r_iald hx hb hg hC k5.2.1 k5.2.2 dX3_piecesOf_20 ?_
  refine lv_topi (fun v6 ev6 => ?_)
  replace hw := hw v6 ev6
  refine lv_ldc (v := 16777216) hx hb hown (hts _ mk_k_RX3_44) dX3_piecesOf_21 ?_
  refine lv_iand hx hb dX3_piecesOf_23 ?_
  refine lv_if_ne (tgt := 63) hx hb dX3_piecesOf_24 (by decide) (fun c7 => ?_) (fun c7 => ?_)
  ·
    replace hw := (if_neg c7).mp hw
    exact t_X3_piecesOf_J63 hM o v3 Q  h H locs ls hC (lo_sub hl [1, 0] rfl) hw
  ·
    replace hw := (if_pos c7).mp hw
    refine lo_aload_n (r := r1) hx hb dX3_piecesOf_27 rfl (lo_at hl 2 rfl) ?_
    refine rf_1 k1.1 ?_
    refine r_getR hx hb hts hown hg hC fb_0_4 k1.2 mk_f_RX3_35 dX3_piecesOf_28 ?_
    refine lo_aload_n (r := r2) hx hb dX3_piecesOf_31 rfl (lo_at hl 3 rfl) ?_
    refine rf_1 k2.1 ?_
    refine r_getR hx hb hts hown hg hC fb_0_4 k2.2 mk_f_RX3_35 dX3_piecesOf_32 ?_
    refine lv_aload_n hx hb dX3_piecesOf_35 rfl (lo_at hl 1 rfl) ?_
    refine r_getI hx hb hts hown hg hC fb_2_0 k4 mk_f_RX3_22 dX3_piecesOf_36 ?_
    refine lo_aload_n (r := r3) hx hb dX3_piecesOf_39 rfl (lo_at hl 4 rfl) ?_
    refine res_i hC (run_S (As := [va_rf (hpR h (ad r1) 4), va_rf (hpR h (ad r2) 4), .int (hpI h o 0), va_rf r3]) (rest := []) hM hC hl.1.1 kv_RX3_45 (c_X6_pieces l G base (hpR h (ad r1) 4) (hpR h (ad r2) 4) (hpI h o 0) r3 h _ hw) rfl rfl rfl ⟨Nat.le_of_ble_eq_true rfl, Nat.le_of_ble_eq_true rfl⟩ (Nat.le_of_ble_eq_true rfl) ⟨Nat.le_of_ble_eq_true rfl, Nat.le_of_ble_eq_true rfl⟩ dX3_piecesOf_40) (fun z12 h11 H locs hw hC => ?_)
    refine lo_istore (lv' := [(5, .int z12), (4, .int v3), (0, .ref o), (1, va_rf r1), (2, va_rf r2), (3, va_rf r3)]) hx hb dX3_piecesOf_43 hl (by decide) rfl (fun ls hl => ?_)
    refine lv_aload_n hx hb dX3_piecesOf_45 rfl (lo_at hl 2 rfl) ?_
    obtain ⟨k13, hw⟩ := hw
    refine r_getR hx hb hts hown hg hC fb_2_2 k13 mk_f_RX3_18 dX3_piecesOf_46 ?_
    refine lv_iload hx hb dX3_piecesOf_49 (lo_at hl 1 rfl) ?_
    refine lv_dup2_11 hx hb dX3_piecesOf_51 rfl (va_rf_cat _) ?_
    obtain ⟨k14, hw⟩ := hw
    refine rf_2 k14.1 ?_
    refine r_iald hx hb hg hC k14.2.1 k14.2.2 dX3_piecesOf_52 ?_
    refine lv_topi (fun v15 ev15 => ?_)
    replace hw := hw v15 ev15
    refine lv_ldc (v := 16777216) hx hb hown (hts _ mk_k_RX3_44) dX3_piecesOf_53 ?_
    refine lv_iload hx hb dX3_piecesOf_55 (lo_at hl 0 rfl) ?_
    refine lv_bipush (v := 18) hx hb dX3_piecesOf_57 (by decide) ?_
    refine lv_ishl hx hb dX3_piecesOf_59 ?_
    refine lv_ior hx hb dX3_piecesOf_60 ?_
    refine lv_ior hx hb dX3_piecesOf_61 ?_
    obtain ⟨k16, hw⟩ := hw
    refine rf_3 k16.1 ?_
    refine r_iast hx hb hg hC k16.2.1 k16.2.2 dX3_piecesOf_62 (fun h17 H locs eh17 hC => ?_)
    replace hw := hw h17 eh17
    exact t_X3_piecesOf_J63 hM o v3 Q  h17 H locs ls hC (lo_sub hl [2, 1] rfl) hw
abbrev rm_X3_runsUnderBest : Room := { frames := 3, cells := 0, slots := 0, locals := 78 }
def wp_X3_runsUnderBest (o : Nat) (r1 : Option Nat) (r2 : Option Nat) (h : Hp) (Q : Int32 → Hp → Prop) : Prop := okO h r1 0 ∧ (okO h r2 0 ∧ (((hpK h o).1 = 20 + 2) ∧ (wp_X3_measured o r1 r2 h (fun (z5 : Int32) (h4 : Hp) => wp_X2_slide z5 h4 (fun (z7 : Int32) (h6 : Hp) => ((hpK h6 o).1 = 20 + 2) ∧ (wp_X6_runs (hpR h (ad r1) 4) (hpR h (ad r2) 4) z7 (hpI h6 o 0) h6 (fun (z10 : Int32) (h9 : Hp) => Q z10 h9)))))))
set_option maxHeartbeats 4000000 in
set_option maxRecDepth 100000 in
theorem c_X3_runsUnderBest (l : Launch) (G : GG) (base : Nat) (o : Nat) (r1 : Option Nat) (r2 : Option Nat) (h : Hp) (Q : Int32 → Hp → Prop) (hw : wp_X3_runsUnderBest o r1 r2 h Q) : Met l yX3_runsUnderBest (ww yX3_runsUnderBest cX3_runsUnderBest 3 (some .int)) rm_X3_runsUnderBest (va_Pc [.ref o, va_rf r1, va_rf r2] (PU G base h)) (va_Qi Q (PU G base) (fun q => base ≤ q)) 0 0 (fun q => base ≤ q) := by
  refine met_of (own := RX3) (nm := "runsUnderBest") (by decide) rfl rfl (List.forall_mem_cons.mpr ⟨rfl, (List.forall_mem_cons.mpr ⟨va_rf_cat _, (List.forall_mem_cons.mpr ⟨va_rf_cat _, (fun _ h => absurd h List.not_mem_nil)⟩)⟩)⟩) (Nat.le_of_ble_eq_true rfl) rfl ?_
  intro p e s m below meth c ls hM hC hl
  obtain ⟨hx, hb, hr, hml, hown, hts, hg, hs, hlk, hnm⟩ := id hM
  obtain ⟨args, hargs⟩ : ∃ a : Array Value, a = ([.ref o, va_rf r1, va_rf r2] : List Value).toArray := ⟨_, rfl⟩
  rw [← hargs] at hM hts ⊢
  obtain ⟨H, hH⟩ : ∃ H : Heap, H = s.heap := ⟨_, rfl⟩
  obtain ⟨locs, hlocs⟩ : ∃ x : List Loc, x = [] := ⟨_, rfl⟩
  have hC : Cx G base h s.heap H locs := by rw [hH, hlocs]; exact hC
  show W p l e rm_X3_runsUnderBest s m args below meth c s.heap [] 0 0 (MQ below (va_Qi Q (PU G base) (fun q => base ≤ q)) args s 0 0 (fun q => base ≤ q)) (F0 m 0 ls [])
  rw [← hlocs]
  have hgoal : W p l e rm_X3_runsUnderBest s m args below meth c H locs 0 0 (MQ below (va_Qi Q (PU G base) (fun q => base ≤ q)) args s 0 0 (fun q => base ≤ q)) (F0 m 0 ls []) := ?_
  · rw [hH] at hgoal; exact hgoal
  clear hH hlocs
  unfold wp_X3_runsUnderBest at hw
  refine lo_aload_n (r := r1) hx hb dX3_runsUnderBest_0 rfl (lo_at hl 1 rfl) ?_
  obtain ⟨k1, hw⟩ := hw
  refine rf_1 k1.1 ?_
  refine r_getR hx hb hts hown hg hC fb_0_4 k1.2 mk_f_RX3_35 dX3_runsUnderBest_1 ?_
  refine lo_aload_n (r := r2) hx hb dX3_runsUnderBest_4 rfl (lo_at hl 2 rfl) ?_
  obtain ⟨k2, hw⟩ := hw
  refine rf_1 k2.1 ?_
  refine r_getR hx hb hts hown hg hC fb_0_4 k2.2 mk_f_RX3_35 dX3_runsUnderBest_5 ?_
  refine lv_aload_n hx hb dX3_runsUnderBest_8 rfl (lo_at hl 0 rfl) ?_
  refine lo_aload_n (r := r1) hx hb dX3_runsUnderBest_9 rfl (lo_at hl 1 rfl) ?_
  refine lo_aload_n (r := r2) hx hb dX3_runsUnderBest_10 rfl (lo_at hl 2 rfl) ?_
  obtain ⟨k3, hw⟩ := hw
  refine res_i hC (run_V (As := [va_rf r1, va_rf r2]) (rest := [va_rf (hpR h (ad r2) 4), va_rf (hpR h (ad r1) 4)]) hM hC hl.1.1 kv_RX3_49 (c_X3_measured l G base o r1 r2 h _ hw) (hc_2) k3 rfl rfl rfl ⟨Nat.le_of_ble_eq_true rfl, Nat.le_of_ble_eq_true rfl⟩ (rest_le (List.forall_mem_cons.mpr ⟨va_rf_cat _, (List.forall_mem_cons.mpr ⟨va_rf_cat _, (fun _ h => absurd h List.not_mem_nil)⟩)⟩) (Nat.le_of_ble_eq_true rfl)) ⟨Nat.le_of_ble_eq_true rfl, Nat.le_of_ble_eq_true rfl⟩ dX3_runsUnderBest_11) (fun z5 h4 H locs hw hC => ?_)
  refine res_i hC (run_S (As := [.int z5]) (rest := [va_rf (hpR h (ad r2) 4), va_rf (hpR h (ad r1) 4)]) hM hC hl.1.1 kv_RX3_53 (c_X2_slide l G base z5 h4 _ hw) rfl rfl rfl ⟨Nat.le_of_ble_eq_true rfl, Nat.le_of_ble_eq_true rfl⟩ (rest_le (List.forall_mem_cons.mpr ⟨va_rf_cat _, (List.forall_mem_cons.mpr ⟨va_rf_cat _, (fun _ h => absurd h List.not_mem_nil)⟩)⟩) (Nat.le_of_ble_eq_true rfl)) ⟨Nat.le_of_ble_eq_true rfl, Nat.le_of_ble_eq_true rfl⟩ dX3_runsUnderBest_14) (fun z7 h6 H locs hw hC => ?_)
  refine lv_aload_n hx hb dX3_runsUnderBest_17 rfl (lo_at hl 0 rfl) ?_
  obtain ⟨k8, hw⟩ := hw
  refine r_getI hx hb hts hown hg hC fb_2_0 k8 mk_f_RX3_22 dX3_runsUnderBest_18 ?_
  refine res_i hC (run_S (As := [va_rf (hpR h (ad r1) 4), va_rf (hpR h (ad r2) 4), .int z7, .int (hpI h6 o 0)]) (rest := []) hM hC hl.1.1 kv_RX3_57 (c_X6_runs l G base (hpR h (ad r1) 4) (hpR h (ad r2) 4) z7 (hpI h6 o 0) h6 _ hw) rfl rfl rfl ⟨Nat.le_of_ble_eq_true rfl, Nat.le_of_ble_eq_true rfl⟩ (Nat.le_of_ble_eq_true rfl) ⟨Nat.le_of_ble_eq_true rfl, Nat.le_of_ble_eq_true rfl⟩ dX3_runsUnderBest_21) (fun z10 h9 H locs hw hC => ?_)
  exact ret_i hM hC hw dX3_runsUnderBest_24
def wp_X5_readEither_L7 (C : Nat → Int32 → Hp → (Hp → Prop) → Prop) (o : Nat) (x1 : Int32) (K55 : Hp → Prop) (Q : Hp → Prop) : Nat → Int32 → Hp → Prop
  | 0, _, _ => False
  | n + 1, x2, h => (if (600 : Int32) ≤ x2 then (K55 h) else (((hpK h o).1 = 20 + 4) ∧ (wp_X5_kind o h (fun (z7 : Int32) (h6 : Hp) => (if z7 = (256 : Int32) then (((hpK h6 o).1 = 20 + 4) ∧ (∀ h10 : Hp, h10 = stI h6 o 5 ((hpI h6 o 5) + (1 : Int32)) → (((hpK h10 o).1 = 20 + 4) ∧ (wp_X5_readBoth C o x1 h10 (fun (h12 : Hp) => ((hpK h12 o).1 = 20 + 4) ∧ (okO h12 (hpR h12 o 3) 5 ∧ (wp_X7_put (ad (hpR h12 o 3)) (256 : Int32) h12 (fun (h16 : Hp) => ∀ v18 : Int32, v18 = x2 + (1 : Int32) → (wp_X5_readEither_L7 C o x1 K55 Q n v18 h16))))))))) else (K55 h6))))))
def wp_X5_readEither (C : Nat → Int32 → Hp → (Hp → Prop) → Prop) (o : Nat) (x1 : Int32) (h : Hp) (Q : Hp → Prop) : Prop := ((hpK h o).1 = 20 + 4) ∧ (wp_X5_readBoth C o x1 h (fun (h2 : Hp) => wp_X5_readEither_L7 C o x1 (fun (h19 : Hp) => Q h19) Q fuel (0 : Int32) h2))
set_option maxHeartbeats 4000000 in
set_option maxRecDepth 100000 in
theorem t_X5_readEither_L7 {p : Program} {l : Launch} {e : Env} {s : State} {m : MethodId} {args : Array Value} {below : List Frame} {meth : Method} {c : Code} {G : GG} {base : Nat} (hM : Mx G base p s m args meth c cX5_readEither 3 none RX5 "readEither") (d : Nat) (C : Nat → Int32 → Hp → (Hp → Prop) → Prop) (hCl : ∀ (o : Nat) (x : Int32) (h : Hp) (Q : Hp → Prop), C o x h Q → Met l yX5_readClaim (ww yX5_readClaim cX5_readClaim 4 none) (rm_claim d) (va_Pc [.ref o, .int x] (PU G base h)) (va_Qv Q (PU G base) (fun q => base ≤ q)) 0 0 (fun q => base ≤ q)) (o : Nat) (x1 : Int32) (K55 : Hp → Prop) (Q : Hp → Prop) (hK55 : ∀ (h : Hp) (H : Heap) (locs : List Loc) (ls : Array Slot), Cx G base h s.heap H locs → lo_has ls 3 [] → K55 h → W p l e (rm_X5_readEither d) s m args below meth c H locs 0 0 (MQ below (va_Qv Q (PU G base) (fun q => base ≤ q)) args s 0 0 (fun q => base ≤ q)) (F0 m 55 ls [])) : ∀ (n : Nat) (x2 : Int32) (h : Hp) (H : Heap) (locs : List Loc) (ls : Array Slot), Cx G base h s.heap H locs → lo_has ls 3 [(0, .ref o), (1, .int x1), (2, .int x2)] → wp_X5_readEither_L7 C o x1 K55 Q n x2 h → W p l e (rm_X5_readEither d) s m args below meth c H locs 0 0 (MQ below (va_Qv Q (PU G base) (fun q => base ≤ q)) args s 0 0 (fun q => base ≤ q)) (F0 m 7 ls []) := by
  intro n
  induction n with
  | zero =>
    intro x2 h H locs ls hC hl hw
    rw [wp_X5_readEither_L7] at hw
    exact hw.elim
  | succ n ih =>
    intro x2 h H locs ls hC hl hw
    rw [wp_X5_readEither_L7] at hw
    obtain ⟨hx, hb, hr, hml, hown, hts, hg, hs, hlk, hnm⟩ := id hM
    refine lv_iload_n hx hb dX5_readEither_7 rfl (lo_at hl 2 rfl) ?_
    refine lv_sipush (v := 600) hx hb dX5_readEither_8 (by decide) ?_
    refine lv_icmp_ge (tgt := 55) hx hb dX5_readEither_11 (by decide) (fun c4 => ?_) (fun c4 => ?_)
    ·
      replace hw := (if_pos c4).mp hw
      exact hK55  h H locs ls hC (lo_sub hl [] rfl) hw
    ·
      replace hw := (if_neg c4).mp hw
      refine lv_aload_n hx hb dX5_readEither_14 rfl (lo_at hl 0 rfl) ?_
      obtain ⟨k5, hw⟩ := hw
      refine res_i hC (run_V (As := []) (rest := []) hM hC hl.1.1 kv_RX5_44 (c_X5_kind l G base o h _ hw) (hc_4) k5 rfl rfl rfl (by dsimp only [rm_claim, rm_X5_readBoth, rm_X5_readEither, rm_X5_readClaim, rm_X5_kind]; omega) (Nat.le_of_ble_eq_true rfl) ⟨Nat.le_of_ble_eq_true rfl, Nat.le_of_ble_eq_true rfl⟩ dX5_readEither_15) (fun z7 h6 H locs hw hC => ?_)
      refine lv_sipush (v := 256) hx hb dX5_readEither_18 (by decide) ?_
      refine lv_icmp_ne (tgt := 55) hx hb dX5_readEither_21 (by decide) (fun c8 => ?_) (fun c8 => ?_)
      ·
        replace hw := (if_neg c8).mp hw
        exact hK55  h6 H locs ls hC (lo_sub hl [] rfl) hw
      ·
        replace hw := (if_pos c8).mp hw
        refine lv_aload_n hx hb dX5_readEither_24 rfl (lo_at hl 0 rfl) ?_
        refine lv_dup hx hb dX5_readEither_25 rfl ?_
        obtain ⟨k9, hw⟩ := hw
        refine r_getI hx hb hts hown hg hC fb_4_5 k9 mk_f_RX5_30 dX5_readEither_26 ?_
        refine lv_iconst (v := 1) hx hb dX5_readEither_29 (by decide) ?_
        refine lv_iadd hx hb dX5_readEither_30 ?_
        refine r_putI hx hb hts hown hg hC fb_4_5 k9 rfl rfl mk_f_RX5_30 dX5_readEither_31 (fun h10 H locs eh10 hC => ?_)
        replace hw := hw h10 eh10
        refine lv_aload_n hx hb dX5_readEither_34 rfl (lo_at hl 0 rfl) ?_
        refine lv_iload_n hx hb dX5_readEither_35 rfl (lo_at hl 1 rfl) ?_
        obtain ⟨k11, hw⟩ := hw
        refine res_v hC (run_V (As := [.int x1]) (rest := []) hM hC hl.1.1 kv_RX5_91 (c_X5_readBoth l G base d C hCl o x1 h10 _ hw) (hc_4) k11 rfl rfl rfl (by dsimp only [rm_claim, rm_X5_readBoth, rm_X5_readEither, rm_X5_readClaim]; omega) (Nat.le_of_ble_eq_true rfl) ⟨Nat.le_of_ble_eq_true rfl, Nat.le_of_ble_eq_true rfl⟩ dX5_readEither_36) (fun h12 H locs hw hC => ?_)
        refine lv_aload_n hx hb dX5_readEither_39 rfl (lo_at hl 0 rfl) ?_
        obtain ⟨k14, hw⟩ := hw
        refine r_getR hx hb hts hown hg hC fb_4_3 k14 mk_f_RX5_18 dX5_readEither_40 ?_
        refine lv_sipush (v := 256) hx hb dX5_readEither_43 (by decide) ?_
        obtain ⟨k15, hw⟩ := hw
        refine rf_2 k15.1 ?_
        refine res_v hC (run_V (As := [.int ((256 : Int32))]) (rest := []) hM hC hl.1.1 kv_RX5_94 (c_X7_put l G base (ad (hpR h12 o 3)) (256 : Int32) h12 _ hw) (hc_5) k15.2 rfl rfl rfl (by dsimp only [rm_claim, rm_X5_readBoth, rm_X5_readEither, rm_X5_readClaim, rm_X7_put]; omega) (Nat.le_of_ble_eq_true rfl) ⟨Nat.le_of_ble_eq_true rfl, Nat.le_of_ble_eq_true rfl⟩ dX5_readEither_46) (fun h16 H locs hw hC => ?_)
        obtain ⟨v18, ev18⟩ : ∃ y : Int32, y = x2 + (1 : Int32) := ⟨_, rfl⟩
        replace hw := hw v18 ev18
        refine lo_iinc (v := v18) (lv' := [(2, .int v18), (0, .ref o), (1, .int x1)]) hx hb dX5_readEither_49 hl (k := 2) rfl (by rw [ev18]; rfl) (by decide) rfl (fun ls hl => ?_)
        refine lv_goto (tgt := 7) hx hb dX5_readEither_52 (by decide) ?_
        exact ih v18 h16 H locs ls hC (lo_sub hl [1, 2, 0] rfl) hw
set_option maxHeartbeats 4000000 in
set_option maxRecDepth 100000 in
theorem c_X5_readEither (l : Launch) (G : GG) (base : Nat) (d : Nat) (C : Nat → Int32 → Hp → (Hp → Prop) → Prop) (hCl : ∀ (o : Nat) (x : Int32) (h : Hp) (Q : Hp → Prop), C o x h Q → Met l yX5_readClaim (ww yX5_readClaim cX5_readClaim 4 none) (rm_claim d) (va_Pc [.ref o, .int x] (PU G base h)) (va_Qv Q (PU G base) (fun q => base ≤ q)) 0 0 (fun q => base ≤ q)) (o : Nat) (x1 : Int32) (h : Hp) (Q : Hp → Prop) (hw : wp_X5_readEither C o x1 h Q) : Met l yX5_readEither (ww yX5_readEither cX5_readEither 3 none) (rm_X5_readEither d) (va_Pc [.ref o, .int x1] (PU G base h)) (va_Qv Q (PU G base) (fun q => base ≤ q)) 0 0 (fun q => base ≤ q) := by
  refine met_of (own := RX5) (nm := "readEither") (by decide) rfl rfl (List.forall_mem_cons.mpr ⟨rfl, (List.forall_mem_cons.mpr ⟨rfl, (fun _ h => absurd h List.not_mem_nil)⟩)⟩) (Nat.le_of_ble_eq_true rfl) rfl ?_
  intro p e s m below meth c ls hM hC hl
  obtain ⟨hx, hb, hr, hml, hown, hts, hg, hs, hlk, hnm⟩ := id hM
  obtain ⟨args, hargs⟩ : ∃ a : Array Value, a = ([.ref o, .int x1] : List Value).toArray := ⟨_, rfl⟩
  rw [← hargs] at hM hts ⊢
  obtain ⟨H, hH⟩ : ∃ H : Heap, H = s.heap := ⟨_, rfl⟩
  obtain ⟨locs, hlocs⟩ : ∃ x : List Loc, x = [] := ⟨_, rfl⟩
  have hC : Cx G base h s.heap H locs := by rw [hH, hlocs]; exact hC
  show W p l e (rm_X5_readEither d) s m args below meth c s.heap [] 0 0 (MQ below (va_Qv Q (PU G base) (fun q => base ≤ q)) args s 0 0 (fun q => base ≤ q)) (F0 m 0 ls [])
  rw [← hlocs]
  have hgoal : W p l e (rm_X5_readEither d) s m args below meth c H locs 0 0 (MQ below (va_Qv Q (PU G base) (fun q => base ≤ q)) args s 0 0 (fun q => base ≤ q)) (F0 m 0 ls []) := ?_
  · rw [hH] at hgoal; exact hgoal
  clear hH hlocs
  unfold wp_X5_readEither at hw
  refine lv_aload_n hx hb dX5_readEither_0 rfl (lo_at hl 0 rfl) ?_
  refine lv_iload_n hx hb dX5_readEither_1 rfl (lo_at hl 1 rfl) ?_
  obtain ⟨k1, hw⟩ := hw
  refine res_v hC (run_V (As := [.int x1]) (rest := []) hM hC hl.1.1 kv_RX5_91 (c_X5_readBoth l G base d C hCl o x1 h _ hw) (hc_4) k1 rfl rfl rfl (by dsimp only [rm_claim, rm_X5_readBoth, rm_X5_readEither, rm_X5_readClaim]; omega) (Nat.le_of_ble_eq_true rfl) ⟨Nat.le_of_ble_eq_true rfl, Nat.le_of_ble_eq_true rfl⟩ dX5_readEither_2) (fun h2 H locs hw hC => ?_)
  refine lv_iconst (v := 0) hx hb dX5_readEither_5 (by decide) ?_
  refine lo_istore_n (lv' := [(2, .int ((0 : Int32))), (0, .ref o), (1, .int x1)]) hx hb dX5_readEither_6 rfl hl (by decide) rfl (fun ls hl => ?_)
  refine t_X5_readEither_L7 hM d C hCl o x1 _ Q ?_ fuel (0 : Int32) h2 H locs ls hC (lo_sub hl [1, 2, 0] rfl) hw
  intro  h19 H locs ls hC hl hw
  exact ret_v hM hC hw dX5_readEither_55
abbrev rm_X5_readProduct : Room := { frames := 2, cells := 0, slots := 0, locals := 42 }
def wp_X5_readProduct_J86 (o : Nat) (x1 : Int32) (x2 : Int32) (KH : Int32 → Hp → Prop) (K104 : Hp → Prop) (Q : Hp → Prop) (h : Hp) : Prop := ((hpK h o).1 = 20 + 4) ∧ (wp_X5_readPart o h (fun (h17 : Hp) => ((hpK h17 o).1 = 20 + 4) ∧ (okO h17 (hpR h17 o 3) 5 ∧ (wp_X7_put (ad (hpR h17 o 3)) x2 h17 (fun (h21 : Hp) => ∀ v23 : Int32, v23 = x1 + (1 : Int32) → (KH v23 h21))))))
def wp_X5_readProduct_J68 (o : Nat) (x1 : Int32) (x2 : Int32) (KH : Int32 → Hp → Prop) (K104 : Hp → Prop) (Q : Hp → Prop) (h : Hp) : Prop := (if x2 = (47 : Int32) then (((hpK h o).1 = 20 + 4) ∧ (wp_X5_kind o h (fun (z26 : Int32) (h25 : Hp) => (if z26 < 0 then (wp_X5_readProduct_J86 o x1 x2 KH K104 Q h25) else (((hpK h25 o).1 = 20 + 4) ∧ (wp_X5_refuse o (1 : Int32) h25 (fun (h29 : Hp) => wp_X5_readProduct_J86 o x1 x2 KH K104 Q h29))))))) else (wp_X5_readProduct_J86 o x1 x2 KH K104 Q h))
def wp_X5_readProduct_J31 (o : Nat) (x1 : Int32) (KH : Int32 → Hp → Prop) (K104 : Hp → Prop) (Q : Hp → Prop) (h : Hp) : Prop := ((hpK h o).1 = 20 + 4) ∧ (wp_X5_kind o h (fun (z11 : Int32) (h10 : Hp) => ((hpK h10 o).1 = 20 + 4) ∧ (∀ h13 : Hp, h13 = stI h10 o 5 ((hpI h10 o 5) + (1 : Int32)) → ((if z11 = (47 : Int32) then (((hpK h13 o).1 = 20 + 4) ∧ (wp_X5_kind o h13 (fun (z33 : Int32) (h32 : Hp) => (if z33 = (-1 : Int32) then (((hpK h32 o).1 = 20 + 4) ∧ (wp_X5_refuse o (2 : Int32) h32 (fun (h36 : Hp) => wp_X5_readProduct_J86 o x1 z11 KH K104 Q h36))) else (wp_X5_readProduct_J68 o x1 z11 KH K104 Q h32))))) else (wp_X5_readProduct_J68 o x1 z11 KH K104 Q h13))))))
def wp_X5_readProduct_L6 (o : Nat) (K104 : Hp → Prop) (Q : Hp → Prop) : Nat → Int32 → Hp → Prop
  | 0, _, _ => False
  | n + 1, x1, h => (if (600 : Int32) ≤ x1 then (K104 h) else (((hpK h o).1 = 20 + 4) ∧ (wp_X5_kind o h (fun (z7 : Int32) (h6 : Hp) => (if z7 = (42 : Int32) then (wp_X5_readProduct_J31 o x1 (wp_X5_readProduct_L6 o K104 Q n) K104 Q h6) else (((hpK h6 o).1 = 20 + 4) ∧ (wp_X5_kind o h6 (fun (z40 : Int32) (h39 : Hp) => (if z40 = (47 : Int32) then (wp_X5_readProduct_J31 o x1 (wp_X5_readProduct_L6 o K104 Q n) K104 Q h39) else (K104 h39))))))))))
def wp_X5_readProduct (o : Nat) (h : Hp) (Q : Hp → Prop) : Prop := ((hpK h o).1 = 20 + 4) ∧ (wp_X5_readPart o h (fun (h2 : Hp) => wp_X5_readProduct_L6 o (fun (h42 : Hp) => Q h42) Q fuel (0 : Int32) h2))
set_option maxHeartbeats 4000000 in
set_option maxRecDepth 100000 in
theorem t_X5_readProduct_J86 {p : Program} {l : Launch} {e : Env} {s : State} {m : MethodId} {args : Array Value} {below : List Frame} {meth : Method} {c : Code} {G : GG} {base : Nat} (hM : Mx G base p s m args meth c cX5_readProduct 3 none RX5 "readProduct") (o : Nat) (x1 : Int32) (x2 : Int32) (KH : Int32 → Hp → Prop) (K104 : Hp → Prop) (Q : Hp → Prop) (hKH : ∀ (y1 : Int32) (h : Hp) (H : Heap) (locs : List Loc) (ls : Array Slot), Cx G base h s.heap H locs → lo_has ls 3 [(0, .ref o), (1, .int y1)] → KH y1 h → W p l e rm_X5_readProduct s m args below meth c H locs 0 0 (MQ below (va_Qv Q (PU G base) (fun q => base ≤ q)) args s 0 0 (fun q => base ≤ q)) (F0 m 6 ls [])) (hK104 : ∀ (h : Hp) (H : Heap) (locs : List Loc) (ls : Array Slot), Cx G base h s.heap H locs → lo_has ls 3 [] → K104 h → W p l e rm_X5_readProduct s m args below meth c H locs 0 0 (MQ below (va_Qv Q (PU G base) (fun q => base ≤ q)) args s 0 0 (fun q => base ≤ q)) (F0 m 104 ls [])) (h : Hp) (H : Heap) (locs : List Loc) (ls : Array Slot) : Cx G base h s.heap H locs → lo_has ls 3 [(0, .ref o), (1, .int x1), (2, .int x2)] → wp_X5_readProduct_J86 o x1 x2 KH K104 Q h → W p l e rm_X5_readProduct s m args below meth c H locs 0 0 (MQ below (va_Qv Q (PU G base) (fun q => base ≤ q)) args s 0 0 (fun q => base ≤ q)) (F0 m 86 ls []) := by
  intro hC hl hw
  unfold wp_X5_readProduct_J86 at hw
  obtain ⟨hx, hb, hr, hml, hown, hts, hg, hs, hlk, hnm⟩ := id hM
  refine lv_aload_n hx hb dX5_readProduct_86 rfl (lo_at hl 0 rfl) ?_
  obtain ⟨k16, hw⟩ := hw
  refine res_v hC (run_V (As := []) (rest := []) hM hC hl.1.1 kv_RX5_103 (c_X5_readPart l G base o h _ hw) (hc_4) k16 rfl rfl rfl ⟨Nat.le_of_ble_eq_true rfl, Nat.le_of_ble_eq_true rfl⟩ (Nat.le_of_ble_eq_true rfl) ⟨Nat.le_of_ble_eq_true rfl, Nat.le_of_ble_eq_true rfl⟩ dX5_readProduct_87) (fun h17 H locs hw hC => ?_)
  refine lv_aload_n hx hb dX5_readProduct_90 rfl (lo_at hl 0 rfl) ?_
  obtain ⟨k19, hw⟩ := hw
  refine r_getR hx hb hts hown hg hC fb_4_3 k19 mk_f_RX5_18 dX5_readProduct_91 ?_
  refine lv_iload_n hx hb dX5_readProduct_94 rfl (lo_at hl 2 rfl) ?_
  obtain ⟨k20, hw⟩ := hw
  refine rf_2 k20.1 ?_
  refine res_v hC (run_V (As := [.int x2]) (rest := []) hM hC hl.1.1 kv_RX5_94 (c_X7_put l G base (ad (hpR h17 o 3)) x2 h17 _ hw) (hc_5) k20.2 rfl rfl rfl ⟨Nat.le_of_ble_eq_true rfl, Nat.le_of_ble_eq_true rfl⟩ (Nat.le_of_ble_eq_true rfl) ⟨Nat.le_of_ble_eq_true rfl, Nat.le_of_ble_eq_true rfl⟩ dX5_readProduct_95) (fun h21 H locs hw hC => ?_)
  obtain ⟨v23, ev23⟩ : ∃ y : Int32, y = x1 + (1 : Int32) := ⟨_, rfl⟩
  replace hw := hw v23 ev23
  refine lo_iinc (v := v23) (lv' := [(1, .int v23), (0, .ref o), (2, .int x2)]) hx hb dX5_readProduct_98 hl (k := 1) rfl (by rw [ev23]; rfl) (by decide) rfl (fun ls hl => ?_)
  refine lv_goto (tgt := 6) hx hb dX5_readProduct_101 (by decide) ?_
  exact hKH v23 h21 H locs ls hC (lo_sub hl [1, 0] rfl) hw
set_option maxHeartbeats 4000000 in
set_option maxRecDepth 100000 in
theorem t_X5_readProduct_J68 {p : Program} {l : Launch} {e : Env} {s : State} {m : MethodId} {args : Array Value} {below : List Frame} {meth : Method} {c : Code} {G : GG} {base : Nat} (hM : Mx G base p s m args meth c cX5_readProduct 3 none RX5 "readProduct") (o : Nat) (x1 : Int32) (x2 : Int32) (KH : Int32 → Hp → Prop) (K104 : Hp → Prop) (Q : Hp → Prop) (hKH : ∀ (y1 : Int32) (h : Hp) (H : Heap) (locs : List Loc) (ls : Array Slot), Cx G base h s.heap H locs → lo_has ls 3 [(0, .ref o), (1, .int y1)] → KH y1 h → W p l e rm_X5_readProduct s m args below meth c H locs 0 0 (MQ below (va_Qv Q (PU G base) (fun q => base ≤ q)) args s 0 0 (fun q => base ≤ q)) (F0 m 6 ls [])) (hK104 : ∀ (h : Hp) (H : Heap) (locs : List Loc) (ls : Array Slot), Cx G base h s.heap H locs → lo_has ls 3 [] → K104 h → W p l e rm_X5_readProduct s m args below meth c H locs 0 0 (MQ below (va_Qv Q (PU G base) (fun q => base ≤ q)) args s 0 0 (fun q => base ≤ q)) (F0 m 104 ls [])) (h : Hp) (H : Heap) (locs : List Loc) (ls : Array Slot) : Cx G base h s.heap H locs → lo_has ls 3 [(0, .ref o), (1, .int x1), (2, .int x2)] → wp_X5_readProduct_J68 o x1 x2 KH K104 Q h → W p l e rm_X5_readProduct s m args below meth c H locs 0 0 (MQ below (va_Qv Q (PU G base) (fun q => base ≤ q)) args s 0 0 (fun q => base ≤ q)) (F0 m 68 ls []) := by
  intro hC hl hw
  unfold wp_X5_readProduct_J68 at hw
  obtain ⟨hx, hb, hr, hml, hown, hts, hg, hs, hlk, hnm⟩ := id hM
  refine lv_iload_n hx hb dX5_readProduct_68 rfl (lo_at hl 2 rfl) ?_
  refine lv_bipush (v := 47) hx hb dX5_readProduct_69 (by decide) ?_
  refine lv_icmp_ne (tgt := 86) hx hb dX5_readProduct_71 (by decide) (fun c15 => ?_) (fun c15 => ?_)
  ·
    replace hw := (if_neg c15).mp hw
    exact t_X5_readProduct_J86 hM o x1 x2 KH K104 Q hKH hK104 h H locs ls hC (lo_sub hl [0, 1, 2] rfl) hw
  ·
    replace hw := (if_pos c15).mp hw
    refine lv_aload_n hx hb dX5_readProduct_74 rfl (lo_at hl 0 rfl) ?_
    obtain ⟨k24, hw⟩ := hw
    refine res_i hC (run_V (As := []) (rest := []) hM hC hl.1.1 kv_RX5_44 (c_X5_kind l G base o h _ hw) (hc_4) k24 rfl rfl rfl ⟨Nat.le_of_ble_eq_true rfl, Nat.le_of_ble_eq_true rfl⟩ (Nat.le_of_ble_eq_true rfl) ⟨Nat.le_of_ble_eq_true rfl, Nat.le_of_ble_eq_true rfl⟩ dX5_readProduct_75) (fun z26 h25 H locs hw hC => ?_)
    refine lv_if_lt (tgt := 86) hx hb dX5_readProduct_78 (by decide) (fun c27 => ?_) (fun c27 => ?_)
    ·
      replace hw := (if_pos c27).mp hw
      exact t_X5_readProduct_J86 hM o x1 x2 KH K104 Q hKH hK104 h25 H locs ls hC (lo_sub hl [0, 1, 2] rfl) hw
    ·
      replace hw := (if_neg c27).mp hw
      refine lv_aload_n hx hb dX5_readProduct_81 rfl (lo_at hl 0 rfl) ?_
      refine lv_iconst (v := 1) hx hb dX5_readProduct_82 (by decide) ?_
      obtain ⟨k28, hw⟩ := hw
      refine res_v hC (run_V (As := [.int ((1 : Int32))]) (rest := []) hM hC hl.1.1 kv_RX5_61 (c_X5_refuse l G base o (1 : Int32) h25 _ hw) (hc_4) k28 rfl rfl rfl ⟨Nat.le_of_ble_eq_true rfl, Nat.le_of_ble_eq_true rfl⟩ (Nat.le_of_ble_eq_true rfl) ⟨Nat.le_of_ble_eq_true rfl, Nat.le_of_ble_eq_true rfl⟩ dX5_readProduct_83) (fun h29 H locs hw hC => ?_)
      exact t_X5_readProduct_J86 hM o x1 x2 KH K104 Q hKH hK104 h29 H locs ls hC (lo_sub hl [0, 1, 2] rfl) hw
set_option maxHeartbeats 4000000 in
set_option maxRecDepth 100000 in
theorem t_X5_readProduct_J31 {p : Program} {l : Launch} {e : Env} {s : State} {m : MethodId} {args : Array Value} {below : List Frame} {meth : Method} {c : Code} {G : GG} {base : Nat} (hM : Mx G base p s m args meth c cX5_readProduct 3 none RX5 "readProduct") (o : Nat) (x1 : Int32) (KH : Int32 → Hp → Prop) (K104 : Hp → Prop) (Q : Hp → Prop) (hKH : ∀ (y1 : Int32) (h : Hp) (H : Heap) (locs : List Loc) (ls : Array Slot), Cx G base h s.heap H locs → lo_has ls 3 [(0, .ref o), (1, .int y1)] → KH y1 h → W p l e rm_X5_readProduct s m args below meth c H locs 0 0 (MQ below (va_Qv Q (PU G base) (fun q => base ≤ q)) args s 0 0 (fun q => base ≤ q)) (F0 m 6 ls [])) (hK104 : ∀ (h : Hp) (H : Heap) (locs : List Loc) (ls : Array Slot), Cx G base h s.heap H locs → lo_has ls 3 [] → K104 h → W p l e rm_X5_readProduct s m args below meth c H locs 0 0 (MQ below (va_Qv Q (PU G base) (fun q => base ≤ q)) args s 0 0 (fun q => base ≤ q)) (F0 m 104 ls [])) (h : Hp) (H : Heap) (locs : List Loc) (ls : Array Slot) : Cx G base h s.heap H locs → lo_has ls 3 [(0, .ref o), (1, .int x1)] → wp_X5_readProduct_J31 o x1 KH K104 Q h → W p l e rm_X5_readProduct s m args below meth c H locs 0 0 (MQ below (va_Qv Q (PU G base) (fun q => base ≤ q)) args s 0 0 (fun q => base ≤ q)) (F0 m 31 ls []) := by
  intro hC hl hw
  unfold wp_X5_readProduct_J31 at hw
  obtain ⟨hx, hb, hr, hml, hown, hts, hg, hs, hlk, hnm⟩ := id hM
  refine lv_aload_n hx hb dX5_readProduct_31 rfl (lo_at hl 0 rfl) ?_
  obtain ⟨k9, hw⟩ := hw
  refine res_i hC (run_V (As := []) (rest := []) hM hC hl.1.1 kv_RX5_44 (c_X5_kind l G base o h _ hw) (hc_4) k9 rfl rfl rfl ⟨Nat.le_of_ble_eq_true rfl, Nat.le_of_ble_eq_true rfl⟩ (Nat.le_of_ble_eq_true rfl) ⟨Nat.le_of_ble_eq_true rfl, Nat.le_of_ble_eq_true rfl⟩ dX5_readProduct_32) (fun z11 h10 H locs hw hC => ?_)
  refine lo_istore_n (lv' := [(2, .int z11), (0, .ref o), (1, .int x1)]) hx hb dX5_readProduct_35 rfl hl (by decide) rfl (fun ls hl => ?_)
  refine lv_aload_n hx hb dX5_readProduct_36 rfl (lo_at hl 1 rfl) ?_
  refine lv_dup hx hb dX5_readProduct_37 rfl ?_
  obtain ⟨k12, hw⟩ := hw
  refine r_getI hx hb hts hown hg hC fb_4_5 k12 mk_f_RX5_30 dX5_readProduct_38 ?_
  refine lv_iconst (v := 1) hx hb dX5_readProduct_41 (by decide) ?_
  refine lv_iadd hx hb dX5_readProduct_42 ?_
  refine r_putI hx hb hts hown hg hC fb_4_5 k12 rfl rfl mk_f_RX5_30 dX5_readProduct_43 (fun h13 H locs eh13 hC => ?_)
  replace hw := hw h13 eh13
  refine lv_iload_n hx hb dX5_readProduct_46 rfl (lo_at hl 0 rfl) ?_
  refine lv_bipush (v := 47) hx hb dX5_readProduct_47 (by decide) ?_
  refine lv_icmp_ne (tgt := 68) hx hb dX5_readProduct_49 (by decide) (fun c14 => ?_) (fun c14 => ?_)
  ·
    replace hw := (if_neg c14).mp hw
    exact t_X5_readProduct_J68 hM o x1 z11 KH K104 Q hKH hK104 h13 H locs ls hC (lo_sub hl [1, 2, 0] rfl) hw
  ·
    replace hw := (if_pos c14).mp hw
    refine lv_aload_n hx hb dX5_readProduct_52 rfl (lo_at hl 1 rfl) ?_
    obtain ⟨k31, hw⟩ := hw
    refine res_i hC (run_V (As := []) (rest := []) hM hC hl.1.1 kv_RX5_44 (c_X5_kind l G base o h13 _ hw) (hc_4) k31 rfl rfl rfl ⟨Nat.le_of_ble_eq_true rfl, Nat.le_of_ble_eq_true rfl⟩ (Nat.le_of_ble_eq_true rfl) ⟨Nat.le_of_ble_eq_true rfl, Nat.le_of_ble_eq_true rfl⟩ dX5_readProduct_53) (fun z33 h32 H locs hw hC => ?_)
    refine lv_iconst (v := -1) hx hb dX5_readProduct_56 (by decide) ?_
    refine lv_icmp_ne (tgt := 68) hx hb dX5_readProduct_57 (by decide) (fun c34 => ?_) (fun c34 => ?_)
    ·
      replace hw := (if_neg c34).mp hw
      exact t_X5_readProduct_J68 hM o x1 z11 KH K104 Q hKH hK104 h32 H locs ls hC (lo_sub hl [1, 2, 0] rfl) hw
    ·
      replace hw := (if_pos c34).mp hw
      refine lv_aload_n hx hb dX5_readProduct_60 rfl (lo_at hl 1 rfl) ?_
      refine lv_iconst (v := 2) hx hb dX5_readProduct_61 (by decide) ?_
      obtain ⟨k35, hw⟩ := hw
      refine res_v hC (run_V (As := [.int ((2 : Int32))]) (rest := []) hM hC hl.1.1 kv_RX5_61 (c_X5_refuse l G base o (2 : Int32) h32 _ hw) (hc_4) k35 rfl rfl rfl ⟨Nat.le_of_ble_eq_true rfl, Nat.le_of_ble_eq_true rfl⟩ (Nat.le_of_ble_eq_true rfl) ⟨Nat.le_of_ble_eq_true rfl, Nat.le_of_ble_eq_true rfl⟩ dX5_readProduct_62) (fun h36 H locs hw hC => ?_)
      refine lv_goto (tgt := 86) hx hb dX5_readProduct_65 (by decide) ?_
      exact t_X5_readProduct_J86 hM o x1 z11 KH K104 Q hKH hK104 h36 H locs ls hC (lo_sub hl [1, 2, 0] rfl) hw
set_option maxHeartbeats 4000000 in
set_option maxRecDepth 100000 in
theorem t_X5_readProduct_L6 {p : Program} {l : Launch} {e : Env} {s : State} {m : MethodId} {args : Array Value} {below : List Frame} {meth : Method} {c : Code} {G : GG} {base : Nat} (hM : Mx G base p s m args meth c cX5_readProduct 3 none RX5 "readProduct") (o : Nat) (K104 : Hp → Prop) (Q : Hp → Prop) (hK104 : ∀ (h : Hp) (H : Heap) (locs : List Loc) (ls : Array Slot), Cx G base h s.heap H locs → lo_has ls 3 [] → K104 h → W p l e rm_X5_readProduct s m args below meth c H locs 0 0 (MQ below (va_Qv Q (PU G base) (fun q => base ≤ q)) args s 0 0 (fun q => base ≤ q)) (F0 m 104 ls [])) : ∀ (n : Nat) (x1 : Int32) (h : Hp) (H : Heap) (locs : List Loc) (ls : Array Slot), Cx G base h s.heap H locs → lo_has ls 3 [(0, .ref o), (1, .int x1)] → wp_X5_readProduct_L6 o K104 Q n x1 h → W p l e rm_X5_readProduct s m args below meth c H locs 0 0 (MQ below (va_Qv Q (PU G base) (fun q => base ≤ q)) args s 0 0 (fun q => base ≤ q)) (F0 m 6 ls []) := by
  intro n
  induction n with
  | zero =>
    intro x1 h H locs ls hC hl hw
    rw [wp_X5_readProduct_L6] at hw
    exact hw.elim
  | succ n ih =>
    intro x1 h H locs ls hC hl hw
    rw [wp_X5_readProduct_L6] at hw
    obtain ⟨hx, hb, hr, hml, hown, hts, hg, hs, hlk, hnm⟩ := id hM
    refine lv_iload_n hx hb dX5_readProduct_6 rfl (lo_at hl 1 rfl) ?_
    refine lv_sipush (v := 600) hx hb dX5_readProduct_7 (by decide) ?_
    refine lv_icmp_ge (tgt := 104) hx hb dX5_readProduct_10 (by decide) (fun c4 => ?_) (fun c4 => ?_)
    ·
      replace hw := (if_pos c4).mp hw
      exact hK104  h H locs ls hC (lo_sub hl [] rfl) hw
    ·
      replace hw := (if_neg c4).mp hw
      refine lv_aload_n hx hb dX5_readProduct_13 rfl (lo_at hl 0 rfl) ?_
      obtain ⟨k5, hw⟩ := hw
      refine res_i hC (run_V (As := []) (rest := []) hM hC hl.1.1 kv_RX5_44 (c_X5_kind l G base o h _ hw) (hc_4) k5 rfl rfl rfl ⟨Nat.le_of_ble_eq_true rfl, Nat.le_of_ble_eq_true rfl⟩ (Nat.le_of_ble_eq_true rfl) ⟨Nat.le_of_ble_eq_true rfl, Nat.le_of_ble_eq_true rfl⟩ dX5_readProduct_14) (fun z7 h6 H locs hw hC => ?_)
      refine lv_bipush (v := 42) hx hb dX5_readProduct_17 (by decide) ?_
      refine lv_icmp_eq (tgt := 31) hx hb dX5_readProduct_19 (by decide) (fun c8 => ?_) (fun c8 => ?_)
      ·
        replace hw := (if_pos c8).mp hw
        exact t_X5_readProduct_J31 hM o x1 (wp_X5_readProduct_L6 o K104 Q n) K104 Q ih hK104 h6 H locs ls hC (lo_sub hl [0, 1] rfl) hw
      ·
        replace hw := (if_neg c8).mp hw
        refine lv_aload_n hx hb dX5_readProduct_22 rfl (lo_at hl 0 rfl) ?_
        obtain ⟨k38, hw⟩ := hw
        refine res_i hC (run_V (As := []) (rest := []) hM hC hl.1.1 kv_RX5_44 (c_X5_kind l G base o h6 _ hw) (hc_4) k38 rfl rfl rfl ⟨Nat.le_of_ble_eq_true rfl, Nat.le_of_ble_eq_true rfl⟩ (Nat.le_of_ble_eq_true rfl) ⟨Nat.le_of_ble_eq_true rfl, Nat.le_of_ble_eq_true rfl⟩ dX5_readProduct_23) (fun z40 h39 H locs hw hC => ?_)
        refine lv_bipush (v := 47) hx hb dX5_readProduct_26 (by decide) ?_
        refine lv_icmp_ne (tgt := 104) hx hb dX5_readProduct_28 (by decide) (fun c41 => ?_) (fun c41 => ?_)
        ·
          replace hw := (if_neg c41).mp hw
          exact hK104  h39 H locs ls hC (lo_sub hl [] rfl) hw
        ·
          replace hw := (if_pos c41).mp hw
          exact t_X5_readProduct_J31 hM o x1 (wp_X5_readProduct_L6 o K104 Q n) K104 Q ih hK104 h39 H locs ls hC (lo_sub hl [0, 1] rfl) hw
set_option maxHeartbeats 4000000 in
set_option maxRecDepth 100000 in
theorem c_X5_readProduct (l : Launch) (G : GG) (base : Nat) (o : Nat) (h : Hp) (Q : Hp → Prop) (hw : wp_X5_readProduct o h Q) : Met l yX5_readProduct (ww yX5_readProduct cX5_readProduct 3 none) rm_X5_readProduct (va_Pc [.ref o] (PU G base h)) (va_Qv Q (PU G base) (fun q => base ≤ q)) 0 0 (fun q => base ≤ q) := by
  refine met_of (own := RX5) (nm := "readProduct") (by decide) rfl rfl (List.forall_mem_cons.mpr ⟨rfl, (fun _ h => absurd h List.not_mem_nil)⟩) (Nat.le_of_ble_eq_true rfl) rfl ?_
  intro p e s m below meth c ls hM hC hl
  obtain ⟨hx, hb, hr, hml, hown, hts, hg, hs, hlk, hnm⟩ := id hM
  obtain ⟨args, hargs⟩ : ∃ a : Array Value, a = ([.ref o] : List Value).toArray := ⟨_, rfl⟩
  rw [← hargs] at hM hts ⊢
  obtain ⟨H, hH⟩ : ∃ H : Heap, H = s.heap := ⟨_, rfl⟩
  obtain ⟨locs, hlocs⟩ : ∃ x : List Loc, x = [] := ⟨_, rfl⟩
  have hC : Cx G base h s.heap H locs := by rw [hH, hlocs]; exact hC
  show W p l e rm_X5_readProduct s m args below meth c s.heap [] 0 0 (MQ below (va_Qv Q (PU G base) (fun q => base ≤ q)) args s 0 0 (fun q => base ≤ q)) (F0 m 0 ls [])
  rw [← hlocs]
  have hgoal : W p l e rm_X5_readProduct s m args below meth c H locs 0 0 (MQ below (va_Qv Q (PU G base) (fun q => base ≤ q)) args s 0 0 (fun q => base ≤ q)) (F0 m 0 ls []) := ?_
  · rw [hH] at hgoal; exact hgoal
  clear hH hlocs
  unfold wp_X5_readProduct at hw
  refine lv_aload_n hx hb dX5_readProduct_0 rfl (lo_at hl 0 rfl) ?_
  obtain ⟨k1, hw⟩ := hw
  refine res_v hC (run_V (As := []) (rest := []) hM hC hl.1.1 kv_RX5_103 (c_X5_readPart l G base o h _ hw) (hc_4) k1 rfl rfl rfl ⟨Nat.le_of_ble_eq_true rfl, Nat.le_of_ble_eq_true rfl⟩ (Nat.le_of_ble_eq_true rfl) ⟨Nat.le_of_ble_eq_true rfl, Nat.le_of_ble_eq_true rfl⟩ dX5_readProduct_1) (fun h2 H locs hw hC => ?_)
  refine lv_iconst (v := 0) hx hb dX5_readProduct_4 (by decide) ?_
  refine lo_istore_n (lv' := [(1, .int ((0 : Int32))), (0, .ref o)]) hx hb dX5_readProduct_5 rfl hl (by decide) rfl (fun ls hl => ?_)
  refine t_X5_readProduct_L6 hM o _ Q ?_ fuel (0 : Int32) h2 H locs ls hC (lo_sub hl [1, 0] rfl) hw
  intro  h42 H locs ls hC hl hw
  exact ret_v hM hC hw dX5_readProduct_104
abbrev rm_X7_isSo : Room := { frames := 2, cells := 0, slots := 0, locals := 48 }
def wp_X7_isSo (o : Nat) (x1 : Int32) (r2 : Option Nat) (h : Hp) (Q : Int32 → Hp → Prop) : Prop := ((hpK h o).1 = 20 + 5) ∧ (okA h (hpR h o 2) 1 x1 ∧ (∀ v3 : Int32, v3 = hpI h (ad (hpR h o 2)) (x1).toNatClampNeg → (okA h (hpR h o 3) 1 x1 ∧ (∀ v5 : Int32, v5 = hpI h (ad (hpR h o 3)) (x1).toNatClampNeg → ((if v3 = v5 then (Q (1 : Int32) h) else (okA h (hpR h o 2) 1 x1 ∧ (∀ v8 : Int32, v8 = hpI h (ad (hpR h o 2)) (x1).toNatClampNeg → (okA h (hpR h o 3) 1 x1 ∧ (∀ v10 : Int32, v10 = hpI h (ad (hpR h o 3)) (x1).toNatClampNeg → (wp_X7_value o v8 v10 r2 h (fun (z12 : Int32) (h11 : Hp) => (if z12 = 0 then (Q (0 : Int32) h11) else (Q (1 : Int32) h11))))))))))))))
set_option maxHeartbeats 4000000 in
set_option maxRecDepth 100000 in
theorem c_X7_isSo (l : Launch) (G : GG) (base : Nat) (o : Nat) (x1 : Int32) (r2 : Option Nat) (h : Hp) (Q : Int32 → Hp → Prop) (hw : wp_X7_isSo o x1 r2 h Q) : Met l yX7_isSo (ww yX7_isSo cX7_isSo 3 (some .boolean)) rm_X7_isSo (va_Pc [.ref o, .int x1, va_rf r2] (PU G base h)) (va_Qi Q (PU G base) (fun q => base ≤ q)) 0 0 (fun q => base ≤ q) := by
  refine met_of (own := RX7) (nm := "isSo") (by decide) rfl rfl (List.forall_mem_cons.mpr ⟨rfl, (List.forall_mem_cons.mpr ⟨rfl, (List.forall_mem_cons.mpr ⟨va_rf_cat _, (fun _ h => absurd h List.not_mem_nil)⟩)⟩)⟩) (Nat.le_of_ble_eq_true rfl) rfl ?_
  intro p e s m below meth c ls hM hC hl
  obtain ⟨hx, hb, hr, hml, hown, hts, hg, hs, hlk, hnm⟩ := id hM
  obtain ⟨args, hargs⟩ : ∃ a : Array Value, a = ([.ref o, .int x1, va_rf r2] : List Value).toArray := ⟨_, rfl⟩
  rw [← hargs] at hM hts ⊢
  obtain ⟨H, hH⟩ : ∃ H : Heap, H = s.heap := ⟨_, rfl⟩
  obtain ⟨locs, hlocs⟩ : ∃ x : List Loc, x = [] := ⟨_, rfl⟩
  have hC : Cx G base h s.heap H locs := by rw [hH, hlocs]; exact hC
  show W p l e rm_X7_isSo s m args below meth c s.heap [] 0 0 (MQ below (va_Qi Q (PU G base) (fun q => base ≤ q)) args s 0 0 (fun q => base ≤ q)) (F0 m 0 ls [])
  rw [← hlocs]
  have hgoal : W p l e rm_X7_isSo s m args below meth c H locs 0 0 (MQ below (va_Qi Q (PU G base) (fun q => base ≤ q)) args s 0 0 (fun q => base ≤ q)) (F0 m 0 ls []) := ?_
  · rw [hH] at hgoal; exact hgoal
  clear hH hlocs
  unfold wp_X7_isSo at hw
  refine lv_aload_n hx hb dX7_isSo_0 rfl (lo_at hl 0 rfl) ?_
  obtain ⟨k1, hw⟩ := hw
  refine r_getR hx hb hts hown hg hC fb_5_2 k1 mk_f_RX7_18 dX7_isSo_1 ?_
  refine lv_iload_n hx hb dX7_isSo_4 rfl (lo_at hl 1 rfl) ?_
  obtain ⟨k2, hw⟩ := hw
  refine rf_2 k2.1 ?_
  refine r_iald hx hb hg hC k2.2.1 k2.2.2 dX7_isSo_5 ?_
  refine lv_topi (fun v3 ev3 => ?_)
  replace hw := hw v3 ev3
  refine lv_aload_n hx hb dX7_isSo_6 rfl (lo_at hl 0 rfl) ?_
  refine r_getR hx hb hts hown hg hC fb_5_3 k1 mk_f_RX7_21 dX7_isSo_7 ?_
  refine lv_iload_n hx hb dX7_isSo_10 rfl (lo_at hl 1 rfl) ?_
  obtain ⟨k4, hw⟩ := hw
  refine rf_2 k4.1 ?_
  refine r_iald hx hb hg hC k4.2.1 k4.2.2 dX7_isSo_11 ?_
  refine lv_topi (fun v5 ev5 => ?_)
  replace hw := hw v5 ev5
  refine lv_icmp_eq (tgt := 35) hx hb dX7_isSo_12 (by decide) (fun c6 => ?_) (fun c6 => ?_)
  ·
    replace hw := (if_pos c6).mp hw
    refine lv_iconst (v := 1) hx hb dX7_isSo_35 (by decide) ?_
    refine lv_goto (tgt := 40) hx hb dX7_isSo_36 (by decide) ?_
    exact ret_z hM hC rfl hw dX7_isSo_40
  ·
    replace hw := (if_neg c6).mp hw
    refine lv_aload_n hx hb dX7_isSo_15 rfl (lo_at hl 0 rfl) ?_
    refine lv_aload_n hx hb dX7_isSo_16 rfl (lo_at hl 0 rfl) ?_
    refine r_getR hx hb hts hown hg hC fb_5_2 k1 mk_f_RX7_18 dX7_isSo_17 ?_
    refine lv_iload_n hx hb dX7_isSo_20 rfl (lo_at hl 1 rfl) ?_
    obtain ⟨k7, hw⟩ := hw
    refine rf_2 k7.1 ?_
    refine r_iald hx hb hg hC k7.2.1 k7.2.2 dX7_isSo_21 ?_
    refine lv_topi (fun v8 ev8 => ?_)
    replace hw := hw v8 ev8
    refine lv_aload_n hx hb dX7_isSo_22 rfl (lo_at hl 0 rfl) ?_
    refine r_getR hx hb hts hown hg hC fb_5_3 k1 mk_f_RX7_21 dX7_isSo_23 ?_
    refine lv_iload_n hx hb dX7_isSo_26 rfl (lo_at hl 1 rfl) ?_
    obtain ⟨k9, hw⟩ := hw
    refine rf_2 k9.1 ?_
    refine r_iald hx hb hg hC k9.2.1 k9.2.2 dX7_isSo_27 ?_
    refine lv_topi (fun v10 ev10 => ?_)
    replace hw := hw v10 ev10
    refine lo_aload_n (r := r2) hx hb dX7_isSo_28 rfl (lo_at hl 2 rfl) ?_
    refine res_i hC (run_V (As := [.int v8, .int v10, va_rf r2]) (rest := []) hM hC hl.1.1 kv_RX7_45 (c_X7_value l G base o v8 v10 r2 h _ hw) (hc_5) k1 rfl rfl rfl ⟨Nat.le_of_ble_eq_true rfl, Nat.le_of_ble_eq_true rfl⟩ (Nat.le_of_ble_eq_true rfl) ⟨Nat.le_of_ble_eq_true rfl, Nat.le_of_ble_eq_true rfl⟩ dX7_isSo_29) (fun z12 h11 H locs hw hC => ?_)
    refine lv_if_eq (tgt := 39) hx hb dX7_isSo_32 (by decide) (fun c13 => ?_) (fun c13 => ?_)
    ·
      replace hw := (if_pos c13).mp hw
      refine lv_iconst (v := 0) hx hb dX7_isSo_39 (by decide) ?_
      exact ret_z hM hC rfl hw dX7_isSo_40
    ·
      replace hw := (if_neg c13).mp hw
      refine lv_iconst (v := 1) hx hb dX7_isSo_35 (by decide) ?_
      refine lv_goto (tgt := 40) hx hb dX7_isSo_36 (by decide) ?_
      exact ret_z hM hC rfl hw dX7_isSo_40
abbrev rm_X7_newHeight : Room := { frames := 3, cells := 0, slots := 0, locals := 70 }
def wp_X7_newHeight_L3 (o : Nat) (x1 : Int32) (x2 : Int32) (r3 : Option Nat) (K33 : Int32 → Hp → Prop) (K68 : Hp → Prop) (Q : Int32 → Hp → Prop) : Nat → Int32 → Hp → Prop
  | 0, _, _ => False
  | n + 1, x4, h => ((hpK h o).1 = 20 + 5) ∧ ((if (hpI h o 7) ≤ x4 then (K68 h) else (okA h (hpR h o 0) 1 x4 ∧ (∀ v4 : Int32, v4 = hpI h (ad (hpR h o 0)) (x4).toNatClampNeg → ((if v4 = x1 then (wp_X7_isSo o x4 r3 h (fun (z8 : Int32) (h7 : Hp) => (if z8 = 0 then (∀ v10 : Int32, v10 = x4 + (1 : Int32) → (wp_X7_newHeight_L3 o x1 x2 r3 K33 K68 Q n v10 h7)) else (K33 x4 h7)))) else (∀ v6 : Int32, v6 = x4 + (1 : Int32) → (wp_X7_newHeight_L3 o x1 x2 r3 K33 K68 Q n v6 h))))))))
def wp_X7_newHeight (o : Nat) (x1 : Int32) (x2 : Int32) (r3 : Option Nat) (h : Hp) (Q : Int32 → Hp → Prop) : Prop := wp_X7_newHeight_L3 o x1 x2 r3 (fun (y12 : Int32) (h11 : Hp) => ((hpK h11 o).1 = 20 + 5) ∧ (okA h11 (hpR h11 o 1) 1 y12 ∧ (∀ v15 : Int32, v15 = hpI h11 (ad (hpR h11 o 1)) (y12).toNatClampNeg → (okA h11 (hpR h11 o 2) 1 y12 ∧ (∀ v17 : Int32, v17 = hpI h11 (ad (hpR h11 o 2)) (y12).toNatClampNeg → (wp_X7_value o v15 v17 r3 h11 (fun (z19 : Int32) (h18 : Hp) => ∀ v20 : Int32, v20 = (if z19 < (63 : Int32) then z19 else (63 : Int32)) → (∀ v21 : Int32, v21 = (if (0 : Int32) < v20 then v20 else (0 : Int32)) → (Q v21 h18))))))))) (fun (h22 : Hp) => Q x2 h22) Q fuel (0 : Int32) h
set_option maxHeartbeats 4000000 in
set_option maxRecDepth 100000 in
theorem t_X7_newHeight_L3 {p : Program} {l : Launch} {e : Env} {s : State} {m : MethodId} {args : Array Value} {below : List Frame} {meth : Method} {c : Code} {G : GG} {base : Nat} (hM : Mx G base p s m args meth c cX7_newHeight 5 (some .int) RX7 "newHeight") (o : Nat) (x1 : Int32) (x2 : Int32) (r3 : Option Nat) (K33 : Int32 → Hp → Prop) (K68 : Hp → Prop) (Q : Int32 → Hp → Prop) (hK33 : ∀ (y4 : Int32) (h : Hp) (H : Heap) (locs : List Loc) (ls : Array Slot), Cx G base h s.heap H locs → lo_has ls 5 [(0, .ref o), (3, va_rf r3), (4, .int y4)] → K33 y4 h → W p l e rm_X7_newHeight s m args below meth c H locs 0 0 (MQ below (va_Qi Q (PU G base) (fun q => base ≤ q)) args s 0 0 (fun q => base ≤ q)) (F0 m 33 ls [])) (hK68 : ∀ (h : Hp) (H : Heap) (locs : List Loc) (ls : Array Slot), Cx G base h s.heap H locs → lo_has ls 5 [(2, .int x2)] → K68 h → W p l e rm_X7_newHeight s m args below meth c H locs 0 0 (MQ below (va_Qi Q (PU G base) (fun q => base ≤ q)) args s 0 0 (fun q => base ≤ q)) (F0 m 68 ls [])) : ∀ (n : Nat) (x4 : Int32) (h : Hp) (H : Heap) (locs : List Loc) (ls : Array Slot), Cx G base h s.heap H locs → lo_has ls 5 [(0, .ref o), (1, .int x1), (2, .int x2), (3, va_rf r3), (4, .int x4)] → wp_X7_newHeight_L3 o x1 x2 r3 K33 K68 Q n x4 h → W p l e rm_X7_newHeight s m args below meth c H locs 0 0 (MQ below (va_Qi Q (PU G base) (fun q => base ≤ q)) args s 0 0 (fun q => base ≤ q)) (F0 m 3 ls []) := by
  intro n
  induction n with
  | zero =>
    intro x4 h H locs ls hC hl hw
    rw [wp_X7_newHeight_L3] at hw
    exact hw.elim
  | succ n ih =>
    intro x4 h H locs ls hC hl hw
    rw [wp_X7_newHeight_L3] at hw
    obtain ⟨hx, hb, hr, hml, hown, hts, hg, hs, hlk, hnm⟩ := id hM
    refine lv_iload hx hb dX7_newHeight_3 (lo_at hl 4 rfl) ?_
    refine lv_aload_n hx hb dX7_newHeight_5 rfl (lo_at hl 0 rfl) ?_
    obtain ⟨k1, hw⟩ := hw
    refine r_getI hx hb hts hown hg hC fb_5_7 k1 mk_f_RX7_34 dX7_newHeight_6 ?_
    refine lv_icmp_ge (tgt := 68) hx hb dX7_newHeight_9 (by decide) (fun c2 => ?_) (fun c2 => ?_)
    ·
      replace hw := (if_pos c2).mp hw
      exact hK68  h H locs ls hC (lo_sub hl [2] rfl) hw
    ·
      replace hw := (if_neg c2).mp hw
      refine lv_aload_n hx hb dX7_newHeight_12 rfl (lo_at hl 0 rfl) ?_
      refine r_getR hx hb hts hown hg hC fb_5_0 k1 mk_f_RX7_9 dX7_newHeight_13 ?_
      refine lv_iload hx hb dX7_newHeight_16 (lo_at hl 4 rfl) ?_
      obtain ⟨k3, hw⟩ := hw
      refine rf_2 k3.1 ?_
      refine r_iald hx hb hg hC k3.2.1 k3.2.2 dX7_newHeight_18 ?_
      refine lv_topi (fun v4 ev4 => ?_)
      replace hw := hw v4 ev4
      refine lv_iload_n hx hb dX7_newHeight_19 rfl (lo_at hl 1 rfl) ?_
      refine lv_icmp_ne (tgt := 62) hx hb dX7_newHeight_20 (by decide) (fun c5 => ?_) (fun c5 => ?_)
      ·
        replace hw := (if_neg c5).mp hw
        obtain ⟨v6, ev6⟩ : ∃ y : Int32, y = x4 + (1 : Int32) := ⟨_, rfl⟩
        replace hw := hw v6 ev6
        refine lo_iinc (v := v6) (lv' := [(4, .int v6), (0, .ref o), (1, .int x1), (2, .int x2), (3, va_rf r3)]) hx hb dX7_newHeight_62 hl (k := 4) rfl (by rw [ev6]; rfl) (by decide) rfl (fun ls hl => ?_)
        refine lv_goto (tgt := 3) hx hb dX7_newHeight_65 (by decide) ?_
        exact ih v6 h H locs ls hC (lo_sub hl [1, 2, 3, 4, 0] rfl) hw
      ·
        replace hw := (if_pos c5).mp hw
        refine lv_aload_n hx hb dX7_newHeight_23 rfl (lo_at hl 0 rfl) ?_
        refine lv_iload hx hb dX7_newHeight_24 (lo_at hl 4 rfl) ?_
        refine lo_aload_n (r := r3) hx hb dX7_newHeight_26 rfl (lo_at hl 3 rfl) ?_
        refine res_i hC (run_V (As := [.int x4, va_rf r3]) (rest := []) hM hC hl.1.1 kv_RX7_72 (c_X7_isSo l G base o x4 r3 h _ hw) (hc_5) k1 rfl rfl rfl ⟨Nat.le_of_ble_eq_true rfl, Nat.le_of_ble_eq_true rfl⟩ (Nat.le_of_ble_eq_true rfl) ⟨Nat.le_of_ble_eq_true rfl, Nat.le_of_ble_eq_true rfl⟩ dX7_newHeight_27) (fun z8 h7 H locs hw hC => ?_)
        refine lv_if_eq (tgt := 62) hx hb dX7_newHeight_30 (by decide) (fun c9 => ?_) (fun c9 => ?_)
        ·
          replace hw := (if_pos c9).mp hw
          obtain ⟨v10, ev10⟩ : ∃ y : Int32, y = x4 + (1 : Int32) := ⟨_, rfl⟩
          replace hw := hw v10 ev10
          refine lo_iinc (v := v10) (lv' := [(4, .int v10), (0, .ref o), (1, .int x1), (2, .int x2), (3, va_rf r3)]) hx hb dX7_newHeight_62 hl (k := 4) rfl (by rw [ev10]; rfl) (by decide) rfl (fun ls hl => ?_)
          refine lv_goto (tgt := 3) hx hb dX7_newHeight_65 (by decide) ?_
          exact ih v10 h7 H locs ls hC (lo_sub hl [1, 2, 3, 4, 0] rfl) hw
        ·
          replace hw := (if_neg c9).mp hw
          exact hK33 x4 h7 H locs ls hC (lo_sub hl [0, 3, 4] rfl) hw
set_option maxHeartbeats 4000000 in
set_option maxRecDepth 100000 in
theorem c_X7_newHeight (l : Launch) (G : GG) (base : Nat) (o : Nat) (x1 : Int32) (x2 : Int32) (r3 : Option Nat) (h : Hp) (Q : Int32 → Hp → Prop) (hw : wp_X7_newHeight o x1 x2 r3 h Q) : Met l yX7_newHeight (ww yX7_newHeight cX7_newHeight 5 (some .int)) rm_X7_newHeight (va_Pc [.ref o, .int x1, .int x2, va_rf r3] (PU G base h)) (va_Qi Q (PU G base) (fun q => base ≤ q)) 0 0 (fun q => base ≤ q) := by
  refine met_of (own := RX7) (nm := "newHeight") (by decide) rfl rfl (List.forall_mem_cons.mpr ⟨rfl, (List.forall_mem_cons.mpr ⟨rfl, (List.forall_mem_cons.mpr ⟨rfl, (List.forall_mem_cons.mpr ⟨va_rf_cat _, (fun _ h => absurd h List.not_mem_nil)⟩)⟩)⟩)⟩) (Nat.le_of_ble_eq_true rfl) rfl ?_
  intro p e s m below meth c ls hM hC hl
  obtain ⟨hx, hb, hr, hml, hown, hts, hg, hs, hlk, hnm⟩ := id hM
  obtain ⟨args, hargs⟩ : ∃ a : Array Value, a = ([.ref o, .int x1, .int x2, va_rf r3] : List Value).toArray := ⟨_, rfl⟩
  rw [← hargs] at hM hts ⊢
  obtain ⟨H, hH⟩ : ∃ H : Heap, H = s.heap := ⟨_, rfl⟩
  obtain ⟨locs, hlocs⟩ : ∃ x : List Loc, x = [] := ⟨_, rfl⟩
  have hC : Cx G base h s.heap H locs := by rw [hH, hlocs]; exact hC
  show W p l e rm_X7_newHeight s m args below meth c s.heap [] 0 0 (MQ below (va_Qi Q (PU G base) (fun q => base ≤ q)) args s 0 0 (fun q => base ≤ q)) (F0 m 0 ls [])
  rw [← hlocs]
  have hgoal : W p l e rm_X7_newHeight s m args below meth c H locs 0 0 (MQ below (va_Qi Q (PU G base) (fun q => base ≤ q)) args s 0 0 (fun q => base ≤ q)) (F0 m 0 ls []) := ?_
  · rw [hH] at hgoal; exact hgoal
  clear hH hlocs
  unfold wp_X7_newHeight at hw
  refine lv_iconst (v := 0) hx hb dX7_newHeight_0 (by decide) ?_
  refine lo_istore (lv' := [(4, .int ((0 : Int32))), (0, .ref o), (1, .int x1), (2, .int x2), (3, va_rf r3)]) hx hb dX7_newHeight_1 hl (by decide) rfl (fun ls hl => ?_)
  refine t_X7_newHeight_L3 hM o x1 x2 r3 _ _ Q ?_ ?_ fuel (0 : Int32) h H locs ls hC (lo_sub hl [1, 2, 3, 4, 0] rfl) hw
  ·
    intro y12 h11 H locs ls hC hl hw
    refine lv_iconst (v := 0) hx hb dX7_newHeight_33 (by decide) ?_
    refine lv_bipush (v := 63) hx hb dX7_newHeight_34 (by decide) ?_
    refine lv_aload_n hx hb dX7_newHeight_36 rfl (lo_at hl 0 rfl) ?_
    refine lv_aload_n hx hb dX7_newHeight_37 rfl (lo_at hl 0 rfl) ?_
    obtain ⟨k13, hw⟩ := hw
    refine r_getR hx hb hts hown hg hC fb_5_1 k13 mk_f_RX7_15 dX7_newHeight_38 ?_
    refine lv_iload hx hb dX7_newHeight_41 (lo_at hl 2 rfl) ?_
    obtain ⟨k14, hw⟩ := hw
    refine rf_2 k14.1 ?_
    refine r_iald hx hb hg hC k14.2.1 k14.2.2 dX7_newHeight_43 ?_
    refine lv_topi (fun v15 ev15 => ?_)
    replace hw := hw v15 ev15
    refine lv_aload_n hx hb dX7_newHeight_44 rfl (lo_at hl 0 rfl) ?_
    refine r_getR hx hb hts hown hg hC fb_5_2 k13 mk_f_RX7_18 dX7_newHeight_45 ?_
    refine lv_iload hx hb dX7_newHeight_48 (lo_at hl 2 rfl) ?_
    obtain ⟨k16, hw⟩ := hw
    refine rf_2 k16.1 ?_
    refine r_iald hx hb hg hC k16.2.1 k16.2.2 dX7_newHeight_50 ?_
    refine lv_topi (fun v17 ev17 => ?_)
    replace hw := hw v17 ev17
    refine lo_aload_n (r := r3) hx hb dX7_newHeight_51 rfl (lo_at hl 1 rfl) ?_
    refine res_i hC (run_V (As := [.int v15, .int v17, va_rf r3]) (rest := [.int ((63 : Int32)), .int ((0 : Int32))]) hM hC hl.1.1 kv_RX7_45 (c_X7_value l G base o v15 v17 r3 h11 _ hw) (hc_5) k13 rfl rfl rfl ⟨Nat.le_of_ble_eq_true rfl, Nat.le_of_ble_eq_true rfl⟩ (Nat.le_of_ble_eq_true rfl) ⟨Nat.le_of_ble_eq_true rfl, Nat.le_of_ble_eq_true rfl⟩ dX7_newHeight_52) (fun z19 h18 H locs hw hC => ?_)
    refine va_mmin hx hb (by rw [hml]; exact hl.1.1.symm) hown (hts _ mk_m_RX7_76) (hts _ mk_math_s_min) (hts _ mk_ini_math) (hts _ mk_math_c_min) (Nat.le_of_ble_eq_true rfl) (Nat.le_of_ble_eq_true rfl) (Nat.le_of_ble_eq_true rfl) (Nat.le_of_ble_eq_true rfl) dX7_newHeight_55 ?_
    refine lv_topi (fun v20 ev20 => ?_)
    replace hw := hw v20 ev20
    refine va_mmax hx hb (by rw [hml]; exact hl.1.1.symm) hown (hts _ mk_m_RX7_82) (hts _ mk_math_s_max) (hts _ mk_ini_math) (hts _ mk_math_c_max) (Nat.le_of_ble_eq_true rfl) (Nat.le_of_ble_eq_true rfl) (Nat.le_of_ble_eq_true rfl) (Nat.le_of_ble_eq_true rfl) dX7_newHeight_58 ?_
    refine lv_topi (fun v21 ev21 => ?_)
    replace hw := hw v21 ev21
    exact ret_i hM hC hw dX7_newHeight_61
  ·
    intro  h22 H locs ls hC hl hw
    refine lv_iload_n hx hb dX7_newHeight_68 rfl (lo_at hl 0 rfl) ?_
    exact ret_i hM hC hw dX7_newHeight_69
abbrev rm_X11_slid : Room := { frames := 4, cells := 0, slots := 0, locals := 116 }
def wp_X11_slid (o : Nat) (x1 : Int32) (x2 : Int32) (x3 : Int32) (x4 : Int32) (h : Hp) (Q : Int32 → Hp → Prop) : Prop := ((hpK h o).1 = 20 + 9) ∧ (wp_X11_lookerAt o x1 h (fun (z3 : Option Nat) (h2 : Hp) => ((hpK h2 o).1 = 20 + 9) ∧ (wp_X11_ballAt o x2 h2 (fun (z6 : Option Nat) (h5 : Hp) => ((hpK h5 o).1 = 20 + 9) ∧ (wp_X11_ballAt o x3 h5 (fun (z9 : Option Nat) (h8 : Hp) => (if z3 = none then (Q (-1 : Int32) h8) else ((if z6 = none then (Q (-1 : Int32) h8) else ((if z9 = none then (Q (-1 : Int32) h8) else ((if x4 = (0 : Int32) then (okO h8 z3 2 ∧ (wp_X3_measured (ad z3) z6 z9 h8 (fun (z16 : Int32) (h15 : Hp) => wp_X2_many z16 h15 (fun (z18 : Int32) (h17 : Hp) => Q z18 h17)))) else if x4 = (1 : Int32) then (okO h8 z3 2 ∧ (wp_X3_measured (ad z3) z6 z9 h8 (fun (z22 : Int32) (h21 : Hp) => wp_X2_slide z22 h21 (fun (z24 : Int32) (h23 : Hp) => Q z24 h23)))) else if x4 = (2 : Int32) then (okO h8 z3 2 ∧ (wp_X3_measured (ad z3) z6 z9 h8 (fun (z28 : Int32) (h27 : Hp) => wp_X2_longest z28 h27 (fun (z30 : Int32) (h29 : Hp) => Q z30 h29)))) else if x4 = (3 : Int32) then (((hpK h8 o).1 = 20 + 9) ∧ (okO h8 z3 2 ∧ (wp_X3_piecesOf (ad z3) z6 z9 (hpR h8 o 15) h8 (fun (z35 : Int32) (h34 : Hp) => Q z35 h34)))) else if x4 = (4 : Int32) then (okO h8 z6 0 ∧ (wp_X0_missing (ad z6) h8 (fun (z39 : Int32) (h38 : Hp) => okO h38 z9 0 ∧ (wp_X0_missing (ad z9) h38 (fun (z42 : Int32) (h41 : Hp) => Q (z39 + z42) h41))))) else (if x4 < (32 : Int32) then (Q (-1 : Int32) h8) else ((if x4 < (64 : Int32) then (okO h8 z6 0 ∧ (okO h8 z9 0 ∧ (okO h8 z3 2 ∧ (wp_X6_runs (hpR h8 (ad z6) 4) (hpR h8 (ad z9) 4) (x4 - (32 : Int32)) (hpI h8 (ad z3) 0) h8 (fun (z49 : Int32) (h48 : Hp) => wp_J6_bitCount_0f7a4 z49 h48 (fun (z51 : Int32) (h50 : Hp) => Q z51 h50)))))) else (Q (-1 : Int32) h8)))))))))))))))))
set_option maxHeartbeats 4000000 in
set_option maxRecDepth 100000 in
theorem c_X11_slid (l : Launch) (G : GG) (base : Nat) (o : Nat) (x1 : Int32) (x2 : Int32) (x3 : Int32) (x4 : Int32) (h : Hp) (Q : Int32 → Hp → Prop) (hw : wp_X11_slid o x1 x2 x3 x4 h Q) : Met l yX11_slid (ww yX11_slid cX11_slid 8 (some .int)) rm_X11_slid (va_Pc [.ref o, .int x1, .int x2, .int x3, .int x4] (PU G base h)) (va_Qi Q (PU G base) (fun q => base ≤ q)) 0 0 (fun q => base ≤ q) := by
  refine met_of (own := RX11) (nm := "slid") (by decide) rfl rfl (List.forall_mem_cons.mpr ⟨rfl, (List.forall_mem_cons.mpr ⟨rfl, (List.forall_mem_cons.mpr ⟨rfl, (List.forall_mem_cons.mpr ⟨rfl, (List.forall_mem_cons.mpr ⟨rfl, (fun _ h => absurd h List.not_mem_nil)⟩)⟩)⟩)⟩)⟩) (Nat.le_of_ble_eq_true rfl) rfl ?_
  intro p e s m below meth c ls hM hC hl
  obtain ⟨hx, hb, hr, hml, hown, hts, hg, hs, hlk, hnm⟩ := id hM
  obtain ⟨args, hargs⟩ : ∃ a : Array Value, a = ([.ref o, .int x1, .int x2, .int x3, .int x4] : List Value).toArray := ⟨_, rfl⟩
  rw [← hargs] at hM hts ⊢
  obtain ⟨H, hH⟩ : ∃ H : Heap, H = s.heap := ⟨_, rfl⟩
  obtain ⟨locs, hlocs⟩ : ∃ x : List Loc, x = [] := ⟨_, rfl⟩
  have hC : Cx G base h s.heap H locs := by rw [hH, hlocs]; exact hC
  show W p l e rm_X11_slid s m args below meth c s.heap [] 0 0 (MQ below (va_Qi Q (PU G base) (fun q => base ≤ q)) args s 0 0 (fun q => base ≤ q)) (F0 m 0 ls [])
  rw [← hlocs]
  have hgoal : W p l e rm_X11_slid s m args below meth c H locs 0 0 (MQ below (va_Qi Q (PU G base) (fun q => base ≤ q)) args s 0 0 (fun q => base ≤ q)) (F0 m 0 ls []) := ?_
  · rw [hH] at hgoal; exact hgoal
  clear hH hlocs
  unfold wp_X11_slid at hw
  refine lv_aload_n hx hb dX11_slid_0 rfl (lo_at hl 0 rfl) ?_
  refine lv_iload_n hx hb dX11_slid_1 rfl (lo_at hl 1 rfl) ?_
  obtain ⟨k1, hw⟩ := hw
  refine res_q hC (run_V (As := [.int x1]) (rest := []) hM hC hl.1.1 kv_RX11_144 (c_X11_lookerAt l G base o x1 h _ hw) (hc_9) k1 rfl rfl rfl ⟨Nat.le_of_ble_eq_true rfl, Nat.le_of_ble_eq_true rfl⟩ (Nat.le_of_ble_eq_true rfl) ⟨Nat.le_of_ble_eq_true rfl, Nat.le_of_ble_eq_true rfl⟩ dX11_slid_2) (fun z3 h2 H locs hw hC => ?_)
  refine lo_astore (r := z3) (lv' := [(5, va_rf z3), (0, .ref o), (1, .int x1), (2, .int x2), (3, .int x3), (4, .int x4)]) hx hb dX11_slid_5 hl (by decide) rfl (fun ls hl => ?_)
  refine lv_aload_n hx hb dX11_slid_7 rfl (lo_at hl 1 rfl) ?_
  refine lv_iload_n hx hb dX11_slid_8 rfl (lo_at hl 3 rfl) ?_
  obtain ⟨k4, hw⟩ := hw
  refine res_q hC (run_V (As := [.int x2]) (rest := []) hM hC hl.1.1 kv_RX11_140 (c_X11_ballAt l G base o x2 h2 _ hw) (hc_9) k4 rfl rfl rfl ⟨Nat.le_of_ble_eq_true rfl, Nat.le_of_ble_eq_true rfl⟩ (Nat.le_of_ble_eq_true rfl) ⟨Nat.le_of_ble_eq_true rfl, Nat.le_of_ble_eq_true rfl⟩ dX11_slid_9) (fun z6 h5 H locs hw hC => ?_)
  refine lo_astore (r := z6) (lv' := [(6, va_rf z6), (5, va_rf z3), (0, .ref o), (1, .int x1), (2, .int x2), (3, .int x3), (4, .int x4)]) hx hb dX11_slid_12 hl (by decide) rfl (fun ls hl => ?_)
  refine lv_aload_n hx hb dX11_slid_14 rfl (lo_at hl 2 rfl) ?_
  refine lv_iload_n hx hb dX11_slid_15 rfl (lo_at hl 5 rfl) ?_
  obtain ⟨k7, hw⟩ := hw
  refine res_q hC (run_V (As := [.int x3]) (rest := []) hM hC hl.1.1 kv_RX11_140 (c_X11_ballAt l G base o x3 h5 _ hw) (hc_9) k7 rfl rfl rfl ⟨Nat.le_of_ble_eq_true rfl, Nat.le_of_ble_eq_true rfl⟩ (Nat.le_of_ble_eq_true rfl) ⟨Nat.le_of_ble_eq_true rfl, Nat.le_of_ble_eq_true rfl⟩ dX11_slid_16) (fun z9 h8 H locs hw hC => ?_)
  refine lo_astore (r := z9) (lv' := [(7, va_rf z9), (6, va_rf z6), (5, va_rf z3), (0, .ref o), (1, .int x1), (2, .int x2), (3, .int x3), (4, .int x4)]) hx hb dX11_slid_19 hl (by decide) rfl (fun ls hl => ?_)
  refine lo_aload (r := z3) hx hb dX11_slid_21 (lo_at hl 2 rfl) ?_
  refine lo_ifnull (r := z3) (tgt := 36) hx hb dX11_slid_23 (by decide) (fun c10 => ?_) (fun c10 => ?_)
  ·
    replace hw := (if_pos c10).mp hw
    refine lv_iconst (v := -1) hx hb dX11_slid_36 (by decide) ?_
    exact ret_i hM hC hw dX11_slid_37
  ·
    replace hw := (if_neg c10).mp hw
    refine lo_aload (r := z6) hx hb dX11_slid_26 (lo_at hl 1 rfl) ?_
    refine lo_ifnull (r := z6) (tgt := 36) hx hb dX11_slid_28 (by decide) (fun c11 => ?_) (fun c11 => ?_)
    ·
      replace hw := (if_pos c11).mp hw
      refine lv_iconst (v := -1) hx hb dX11_slid_36 (by decide) ?_
      exact ret_i hM hC hw dX11_slid_37
    ·
      replace hw := (if_neg c11).mp hw
      refine lo_aload (r := z9) hx hb dX11_slid_31 (lo_at hl 0 rfl) ?_
      refine lo_ifnonnull (r := z9) (tgt := 38) hx hb dX11_slid_33 (by decide) (fun c12 => ?_) (fun c12 => ?_)
      ·
        replace hw := (if_neg c12).mp hw
        refine lv_iload hx hb dX11_slid_38 (lo_at hl 7 rfl) ?_
        by_cases c13 : x4 = (0 : Int32)
        ·
          replace hw := (if_pos c13).mp hw
          refine lv_tableIn (tgt := 76) hx hb dX11_slid_40 (by rw [c13]; decide) (by rw [c13]; decide) (by rw [c13]; first | done | rfl) (by decide) ?_
          refine lo_aload (r := z3) hx hb dX11_slid_76 (lo_at hl 2 rfl) ?_
          refine lo_aload (r := z6) hx hb dX11_slid_78 (lo_at hl 1 rfl) ?_
          refine lo_aload (r := z9) hx hb dX11_slid_80 (lo_at hl 0 rfl) ?_
          obtain ⟨k14, hw⟩ := hw
          refine rf_3 k14.1 ?_
          refine res_i hC (run_V (As := [va_rf z6, va_rf z9]) (rest := []) hM hC hl.1.1 kv_RX11_199 (c_X3_measured l G base (ad z3) z6 z9 h8 _ hw) (hc_2) k14.2 rfl rfl rfl ⟨Nat.le_of_ble_eq_true rfl, Nat.le_of_ble_eq_true rfl⟩ (Nat.le_of_ble_eq_true rfl) ⟨Nat.le_of_ble_eq_true rfl, Nat.le_of_ble_eq_true rfl⟩ dX11_slid_82) (fun z16 h15 H locs hw hC => ?_)
          refine res_i hC (run_S (As := [.int z16]) (rest := []) hM hC hl.1.1 kv_RX11_203 (c_X2_many l G base z16 h15 _ hw) rfl rfl rfl ⟨Nat.le_of_ble_eq_true rfl, Nat.le_of_ble_eq_true rfl⟩ (Nat.le_of_ble_eq_true rfl) ⟨Nat.le_of_ble_eq_true rfl, Nat.le_of_ble_eq_true rfl⟩ dX11_slid_85) (fun z18 h17 H locs hw hC => ?_)
          exact ret_i hM hC hw dX11_slid_88
        replace hw := (if_neg c13).mp hw
        by_cases c19 : x4 = (1 : Int32)
        ·
          replace hw := (if_pos c19).mp hw
          refine lv_tableIn (tgt := 89) hx hb dX11_slid_40 (by rw [c19]; decide) (by rw [c19]; decide) (by rw [c19]; first | done | rfl) (by decide) ?_
          refine lo_aload (r := z3) hx hb dX11_slid_89 (lo_at hl 2 rfl) ?_
          refine lo_aload (r := z6) hx hb dX11_slid_91 (lo_at hl 1 rfl) ?_
          refine lo_aload (r := z9) hx hb dX11_slid_93 (lo_at hl 0 rfl) ?_
          obtain ⟨k20, hw⟩ := hw
          refine rf_3 k20.1 ?_
          refine res_i hC (run_V (As := [va_rf z6, va_rf z9]) (rest := []) hM hC hl.1.1 kv_RX11_199 (c_X3_measured l G base (ad z3) z6 z9 h8 _ hw) (hc_2) k20.2 rfl rfl rfl ⟨Nat.le_of_ble_eq_true rfl, Nat.le_of_ble_eq_true rfl⟩ (Nat.le_of_ble_eq_true rfl) ⟨Nat.le_of_ble_eq_true rfl, Nat.le_of_ble_eq_true rfl⟩ dX11_slid_95) (fun z22 h21 H locs hw hC => ?_)
          refine res_i hC (run_S (As := [.int z22]) (rest := []) hM hC hl.1.1 kv_RX11_209 (c_X2_slide l G base z22 h21 _ hw) rfl rfl rfl ⟨Nat.le_of_ble_eq_true rfl, Nat.le_of_ble_eq_true rfl⟩ (Nat.le_of_ble_eq_true rfl) ⟨Nat.le_of_ble_eq_true rfl, Nat.le_of_ble_eq_true rfl⟩ dX11_slid_98) (fun z24 h23 H locs hw hC => ?_)
          exact ret_i hM hC hw dX11_slid_101
        replace hw := (if_neg c19).mp hw
        by_cases c25 : x4 = (2 : Int32)
        ·
          replace hw := (if_pos c25).mp hw
          refine lv_tableIn (tgt := 102) hx hb dX11_slid_40 (by rw [c25]; decide) (by rw [c25]; decide) (by rw [c25]; first | done | rfl) (by decide) ?_
          refine lo_aload (r := z3) hx hb dX11_slid_102 (lo_at hl 2 rfl) ?_
          refine lo_aload (r := z6) hx hb dX11_slid_104 (lo_at hl 1 rfl) ?_
          refine lo_aload (r := z9) hx hb dX11_slid_106 (lo_at hl 0 rfl) ?_
          obtain ⟨k26, hw⟩ := hw
          refine rf_3 k26.1 ?_
          refine res_i hC (run_V (As := [va_rf z6, va_rf z9]) (rest := []) hM hC hl.1.1 kv_RX11_199 (c_X3_measured l G base (ad z3) z6 z9 h8 _ hw) (hc_2) k26.2 rfl rfl rfl ⟨Nat.le_of_ble_eq_true rfl, Nat.le_of_ble_eq_true rfl⟩ (Nat.le_of_ble_eq_true rfl) ⟨Nat.le_of_ble_eq_true rfl, Nat.le_of_ble_eq_true rfl⟩ dX11_slid_108) (fun z28 h27 H locs hw hC => ?_)
          refine res_i hC (run_S (As := [.int z28]) (rest := []) hM hC hl.1.1 kv_RX11_212 (c_X2_longest l G base z28 h27 _ hw) rfl rfl rfl ⟨Nat.le_of_ble_eq_true rfl, Nat.le_of_ble_eq_true rfl⟩ (Nat.le_of_ble_eq_true rfl) ⟨Nat.le_of_ble_eq_true rfl, Nat.le_of_ble_eq_true rfl⟩ dX11_slid_111) (fun z30 h29 H locs hw hC => ?_)
          exact ret_i hM hC hw dX11_slid_114
        replace hw := (if_neg c25).mp hw
        by_cases c31 : x4 = (3 : Int32)
        ·
          replace hw := (if_pos c31).mp hw
          refine lv_tableIn (tgt := 115) hx hb dX11_slid_40 (by rw [c31]; decide) (by rw [c31]; decide) (by rw [c31]; first | done | rfl) (by decide) ?_
          refine lo_aload (r := z3) hx hb dX11_slid_115 (lo_at hl 2 rfl) ?_
          refine lo_aload (r := z6) hx hb dX11_slid_117 (lo_at hl 1 rfl) ?_
          refine lo_aload (r := z9) hx hb dX11_slid_119 (lo_at hl 0 rfl) ?_
          refine lv_aload_n hx hb dX11_slid_121 rfl (lo_at hl 3 rfl) ?_
          obtain ⟨k32, hw⟩ := hw
          refine r_getR hx hb hts hown hg hC fb_9_15 k32 mk_f_RX11_69 dX11_slid_122 ?_
          obtain ⟨k33, hw⟩ := hw
          refine rf_4 k33.1 ?_
          refine res_i hC (run_V (As := [va_rf z6, va_rf z9, va_rf (hpR h8 o 15)]) (rest := []) hM hC hl.1.1 kv_RX11_215 (c_X3_piecesOf l G base (ad z3) z6 z9 (hpR h8 o 15) h8 _ hw) (hc_2) k33.2 rfl rfl rfl ⟨Nat.le_of_ble_eq_true rfl, Nat.le_of_ble_eq_true rfl⟩ (Nat.le_of_ble_eq_true rfl) ⟨Nat.le_of_ble_eq_true rfl, Nat.le_of_ble_eq_true rfl⟩ dX11_slid_125) (fun z35 h34 H locs hw hC => ?_)
          exact ret_i hM hC hw dX11_slid_128
        replace hw := (if_neg c31).mp hw
        by_cases c36 : x4 = (4 : Int32)
        ·
          replace hw := (if_pos c36).mp hw
          refine lv_tableIn (tgt := 129) hx hb dX11_slid_40 (by rw [c36]; decide) (by rw [c36]; decide) (by rw [c36]; first | done | rfl) (by decide) ?_
          refine lo_aload (r := z6) hx hb dX11_slid_129 (lo_at hl 1 rfl) ?_
          obtain ⟨k37, hw⟩ := hw
          refine rf_1 k37.1 ?_
          refine res_i hC (run_V (As := []) (rest := []) hM hC hl.1.1 kv_RX11_219 (c_X0_missing l G base (ad z6) h8 _ hw) (hc_0) k37.2 rfl rfl rfl ⟨Nat.le_of_ble_eq_true rfl, Nat.le_of_ble_eq_true rfl⟩ (Nat.le_of_ble_eq_true rfl) ⟨Nat.le_of_ble_eq_true rfl, Nat.le_of_ble_eq_true rfl⟩ dX11_slid_131) (fun z39 h38 H locs hw hC => ?_)
          refine lo_aload (r := z9) hx hb dX11_slid_134 (lo_at hl 0 rfl) ?_
          obtain ⟨k40, hw⟩ := hw
          refine rf_1 k40.1 ?_
          refine res_i hC (run_V (As := []) (rest := [.int z39]) hM hC hl.1.1 kv_RX11_219 (c_X0_missing l G base (ad z9) h38 _ hw) (hc_0) k40.2 rfl rfl rfl ⟨Nat.le_of_ble_eq_true rfl, Nat.le_of_ble_eq_true rfl⟩ (Nat.le_of_ble_eq_true rfl) ⟨Nat.le_of_ble_eq_true rfl, Nat.le_of_ble_eq_true rfl⟩ dX11_slid_136) (fun z42 h41 H locs hw hC => ?_)
          refine lv_iadd hx hb dX11_slid_139 ?_
          exact ret_i hM hC hw dX11_slid_140
        replace hw := (if_neg c36).mp hw
        refine lv_tableOut (tgt := 141) hx hb dX11_slid_40 (sw_out 0 5 (by decide) (fun k hk => match k, hk with | 0, _ => c13 | 1, _ => c19 | 2, _ => c25 | 3, _ => c31 | 4, _ => c36 | k + 5, hk => absurd hk (by omega))) (by decide) ?_
        refine lv_iload hx hb dX11_slid_141 (lo_at hl 7 rfl) ?_
        refine lv_bipush (v := 32) hx hb dX11_slid_143 (by decide) ?_
        refine lv_icmp_lt (tgt := 155) hx hb dX11_slid_145 (by decide) (fun c43 => ?_) (fun c43 => ?_)
        ·
          replace hw := (if_pos c43).mp hw
          refine lv_iconst (v := -1) hx hb dX11_slid_155 (by decide) ?_
          refine lv_goto (tgt := 185) hx hb dX11_slid_156 (by decide) ?_
          exact ret_i hM hC hw dX11_slid_185
        ·
          replace hw := (if_neg c43).mp hw
          refine lv_iload hx hb dX11_slid_148 (lo_at hl 7 rfl) ?_
          refine lv_bipush (v := 64) hx hb dX11_slid_150 (by decide) ?_
          refine lv_icmp_lt (tgt := 159) hx hb dX11_slid_152 (by decide) (fun c44 => ?_) (fun c44 => ?_)
          ·
            replace hw := (if_pos c44).mp hw
            refine lo_aload (r := z6) hx hb dX11_slid_159 (lo_at hl 1 rfl) ?_
            obtain ⟨k45, hw⟩ := hw
            refine rf_1 k45.1 ?_
            refine r_getR hx hb hts hown hg hC fb_0_4 k45.2 mk_f_RX11_131 dX11_slid_161 ?_
            refine lo_aload (r := z9) hx hb dX11_slid_164 (lo_at hl 0 rfl) ?_
            obtain ⟨k46, hw⟩ := hw
            refine rf_1 k46.1 ?_
            refine r_getR hx hb hts hown hg hC fb_0_4 k46.2 mk_f_RX11_131 dX11_slid_166 ?_
            refine lv_iload hx hb dX11_slid_169 (lo_at hl 7 rfl) ?_
            refine lv_bipush (v := 32) hx hb dX11_slid_171 (by decide) ?_
            refine lv_isub hx hb dX11_slid_173 ?_
            refine lo_aload (r := z3) hx hb dX11_slid_174 (lo_at hl 2 rfl) ?_
            obtain ⟨k47, hw⟩ := hw
            refine rf_1 k47.1 ?_
            refine r_getI hx hb hts hown hg hC fb_2_0 k47.2 mk_f_RX11_223 dX11_slid_176 ?_
            refine res_i hC (run_S (As := [va_rf (hpR h8 (ad z6) 4), va_rf (hpR h8 (ad z9) 4), .int (x4 - (32 : Int32)), .int (hpI h8 (ad z3) 0)]) (rest := []) hM hC hl.1.1 kv_RX11_226 (c_X6_runs l G base (hpR h8 (ad z6) 4) (hpR h8 (ad z9) 4) (x4 - (32 : Int32)) (hpI h8 (ad z3) 0) h8 _ hw) rfl rfl rfl ⟨Nat.le_of_ble_eq_true rfl, Nat.le_of_ble_eq_true rfl⟩ (Nat.le_of_ble_eq_true rfl) ⟨Nat.le_of_ble_eq_true rfl, Nat.le_of_ble_eq_true rfl⟩ dX11_slid_179) (fun z49 h48 H locs hw hC => ?_)
            refine res_i hC (run_S (As := [.int z49]) (rest := []) hM hC hl.1.1 kv_RX11_232 (c_J6_bitCount_0f7a4 l G base z49 h48 _ hw) rfl rfl rfl ⟨Nat.le_of_ble_eq_true rfl, Nat.le_of_ble_eq_true rfl⟩ (Nat.le_of_ble_eq_true rfl) ⟨Nat.le_of_ble_eq_true rfl, Nat.le_of_ble_eq_true rfl⟩ dX11_slid_182) (fun z51 h50 H locs hw hC => ?_)
            exact ret_i hM hC hw dX11_slid_185
          ·
            replace hw := (if_neg c44).mp hw
            refine lv_iconst (v := -1) hx hb dX11_slid_155 (by decide) ?_
            refine lv_goto (tgt := 185) hx hb dX11_slid_156 (by decide) ?_
            exact ret_i hM hC hw dX11_slid_185
      ·
        replace hw := (if_pos c12).mp hw
        refine lv_iconst (v := -1) hx hb dX11_slid_36 (by decide) ?_
        exact ret_i hM hC hw dX11_slid_37
