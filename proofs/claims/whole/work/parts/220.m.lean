abbrev rm_X11_judgement : Room := { frames := 167, cells := 0, slots := 0, locals := 3545 }
def wp_X11_judgement (o : Nat) (x1 : Int32) (h : Hp) (Q : Int32 → Hp → Prop) : Prop := ((hpK h o).1 = 20 + 9) ∧ (wp_X11_lookerAt o x1 h (fun (z3 : Option Nat) (h2 : Hp) => (if z3 = none then (((hpK h2 o).1 = 20 + 9) ∧ (okO h2 (hpR h2 o 13) 4 ∧ (wp_X5_pass (ad (hpR h2 o 13)) h2 (fun (h24 : Hp) => Q (-1 : Int32) h24)))) else (((hpK h2 o).1 = 20 + 9) ∧ (okO h2 (hpR h2 o 13) 4 ∧ (wp_X5_read (ad (hpR h2 o 13)) (0 : Int32) h2 (fun (z8 : Int32) (h7 : Hp) => (if z8 = 0 then (Q (-1 : Int32) h7) else (((hpK h7 o).1 = 20 + 9) ∧ (okO h7 z3 2 ∧ (okO h7 (hpR h7 o 13) 4 ∧ (wp_X5_exchange (ad (hpR h7 o 13)) (hpR h7 (ad z3) 1) h7 (fun (z14 : Option Nat) (h13 : Hp) => okO h13 z3 2 ∧ (∀ h16 : Hp, h16 = stR h13 (ad z3) 1 z14 → (okO h16 z3 2 ∧ (wp_X3_forgetSaid (ad z3) h16 (fun (h18 : Hp) => okO h18 z3 2 ∧ (okO h18 (hpR h18 (ad z3) 1) 5 ∧ (Q (hpI h18 (ad (hpR h18 (ad z3) 1)) 7) h18)))))))))))))))))))
set_option maxHeartbeats 4000000 in
set_option maxRecDepth 100000 in
theorem c_X11_judgement (l : Launch) (G : GG) (base : Nat) (o : Nat) (x1 : Int32) (h : Hp) (Q : Int32 → Hp → Prop) (hw : wp_X11_judgement o x1 h Q) : Met l yX11_judgement (ww yX11_judgement cX11_judgement 3 (some .int)) rm_X11_judgement (va_Pc [.ref o, .int x1] (PU G base h)) (va_Qi Q (PU G base) (fun q => base ≤ q)) 0 0 (fun q => base ≤ q) := by
  refine met_of (own := RX11) (nm := "judgement") (by decide) rfl rfl (List.forall_mem_cons.mpr ⟨rfl, (List.forall_mem_cons.mpr ⟨rfl, (fun _ h => absurd h List.not_mem_nil)⟩)⟩) (Nat.le_of_ble_eq_true rfl) rfl ?_
  intro p e s m below meth c ls hM hC hl
  obtain ⟨hx, hb, hr, hml, hown, hts, hg, hs, hlk, hnm⟩ := id hM
  obtain ⟨args, hargs⟩ : ∃ a : Array Value, a = ([.ref o, .int x1] : List Value).toArray := ⟨_, rfl⟩
  rw [← hargs] at hM hts ⊢
  obtain ⟨H, hH⟩ : ∃ H : Heap, H = s.heap := ⟨_, rfl⟩
  obtain ⟨locs, hlocs⟩ : ∃ x : List Loc, x = [] := ⟨_, rfl⟩
  have hC : Cx G base h s.heap H locs := by rw [hH, hlocs]; exact hC
  show W p l e rm_X11_judgement s m args below meth c s.heap [] 0 0 (MQ below (va_Qi Q (PU G base) (fun q => base ≤ q)) args s 0 0 (fun q => base ≤ q)) (F0 m 0 ls [])
  rw [← hlocs]
  have hgoal : W p l e rm_X11_judgement s m args below meth c H locs 0 0 (MQ below (va_Qi Q (PU G base) (fun q => base ≤ q)) args s 0 0 (fun q => base ≤ q)) (F0 m 0 ls []) := ?_
  · rw [hH] at hgoal; exact hgoal
  clear hH hlocs
  unfold wp_X11_judgement at hw
  refine lv_aload_n hx hb dX11_judgement_0 rfl (lo_at hl 0 rfl) ?_
  refine lv_iload_n hx hb dX11_judgement_1 rfl (lo_at hl 1 rfl) ?_
  obtain ⟨k1, hw⟩ := hw
  refine res_q hC (run_V (As := [.int x1]) (rest := []) hM hC hl.1.1 kv_RX11_144 (c_X11_lookerAt l G base o x1 h _ hw) (hc_9) k1 rfl rfl rfl ⟨Nat.le_of_ble_eq_true rfl, Nat.le_of_ble_eq_true rfl⟩ (Nat.le_of_ble_eq_true rfl) ⟨Nat.le_of_ble_eq_true rfl, Nat.le_of_ble_eq_true rfl⟩ dX11_judgement_2) (fun z3 h2 H locs hw hC => ?_)
  refine lo_astore_n (r := z3) (lv' := [(2, va_rf z3), (0, .ref o), (1, .int x1)]) hx hb dX11_judgement_5 rfl hl (by decide) rfl (fun ls hl => ?_)
  refine lo_aload_n (r := z3) hx hb dX11_judgement_6 rfl (lo_at hl 0 rfl) ?_
  refine lo_ifnonnull (r := z3) (tgt := 19) hx hb dX11_judgement_7 (by decide) (fun c4 => ?_) (fun c4 => ?_)
  ·
    replace hw := (if_neg c4).mp hw
    refine lv_aload_n hx hb dX11_judgement_19 rfl (lo_at hl 1 rfl) ?_
    obtain ⟨k5, hw⟩ := hw
    refine r_getR hx hb hts hown hg hC fb_9_13 k5 mk_f_RX11_55 dX11_judgement_20 ?_
    refine lv_iconst (v := 0) hx hb dX11_judgement_23 (by decide) ?_
    obtain ⟨k6, hw⟩ := hw
    refine rf_2 k6.1 ?_
    refine res_i hC (run_V (As := [.int ((0 : Int32))]) (rest := []) hM hC hl.1.1 kv_RX11_169 (c_X5_read l G base (ad (hpR h2 o 13)) (0 : Int32) h2 _ hw) (hc_4) k6.2 rfl rfl rfl ⟨Nat.le_of_ble_eq_true rfl, Nat.le_of_ble_eq_true rfl⟩ (Nat.le_of_ble_eq_true rfl) ⟨Nat.le_of_ble_eq_true rfl, Nat.le_of_ble_eq_true rfl⟩ dX11_judgement_24) (fun z8 h7 H locs hw hC => ?_)
    refine lv_if_ne (tgt := 32) hx hb dX11_judgement_27 (by decide) (fun c9 => ?_) (fun c9 => ?_)
    ·
      replace hw := (if_neg c9).mp hw
      refine lo_aload_n (r := z3) hx hb dX11_judgement_32 rfl (lo_at hl 0 rfl) ?_
      refine lv_aload_n hx hb dX11_judgement_33 rfl (lo_at hl 1 rfl) ?_
      obtain ⟨k10, hw⟩ := hw
      refine r_getR hx hb hts hown hg hC fb_9_13 k10 mk_f_RX11_55 dX11_judgement_34 ?_
      refine lo_aload_n (r := z3) hx hb dX11_judgement_37 rfl (lo_at hl 0 rfl) ?_
      obtain ⟨k11, hw⟩ := hw
      refine rf_1 k11.1 ?_
      refine r_getR hx hb hts hown hg hC fb_2_1 k11.2 mk_f_RX11_183 dX11_judgement_38 ?_
      obtain ⟨k12, hw⟩ := hw
      refine rf_2 k12.1 ?_
      refine res_q hC (run_V (As := [va_rf (hpR h7 (ad z3) 1)]) (rest := [va_rf z3]) hM hC hl.1.1 kv_RX11_173 (c_X5_exchange l G base (ad (hpR h7 o 13)) (hpR h7 (ad z3) 1) h7 _ hw) (hc_4) k12.2 rfl rfl rfl ⟨Nat.le_of_ble_eq_true rfl, Nat.le_of_ble_eq_true rfl⟩ (rest_le (List.forall_mem_cons.mpr ⟨va_rf_cat _, (fun _ h => absurd h List.not_mem_nil)⟩) (Nat.le_of_ble_eq_true rfl)) ⟨Nat.le_of_ble_eq_true rfl, Nat.le_of_ble_eq_true rfl⟩ dX11_judgement_41) (fun z14 h13 H locs hw hC => ?_)
      obtain ⟨k15, hw⟩ := hw
      refine rf_2 k15.1 ?_
      refine r_putR (v := z14) hx hb hts hown hg hC fb_2_1 k15.2 (nv_o) (fv_o) mk_f_RX11_183 dX11_judgement_44 (fun h16 H locs eh16 hC => ?_)
      replace hw := hw h16 eh16
      refine lo_aload_n (r := z3) hx hb dX11_judgement_47 rfl (lo_at hl 0 rfl) ?_
      obtain ⟨k17, hw⟩ := hw
      refine rf_1 k17.1 ?_
      refine res_v hC (run_V (As := []) (rest := []) hM hC hl.1.1 kv_RX11_186 (c_X3_forgetSaid l G base (ad z3) h16 _ hw) (hc_2) k17.2 rfl rfl rfl ⟨Nat.le_of_ble_eq_true rfl, Nat.le_of_ble_eq_true rfl⟩ (Nat.le_of_ble_eq_true rfl) ⟨Nat.le_of_ble_eq_true rfl, Nat.le_of_ble_eq_true rfl⟩ dX11_judgement_48) (fun h18 H locs hw hC => ?_)
      refine lo_aload_n (r := z3) hx hb dX11_judgement_51 rfl (lo_at hl 0 rfl) ?_
      obtain ⟨k20, hw⟩ := hw
      refine rf_1 k20.1 ?_
      refine r_getR hx hb hts hown hg hC fb_2_1 k20.2 mk_f_RX11_183 dX11_judgement_52 ?_
      obtain ⟨k21, hw⟩ := hw
      refine rf_1 k21.1 ?_
      refine r_getI hx hb hts hown hg hC fb_5_7 k21.2 mk_f_RX11_177 dX11_judgement_55 ?_
      exact ret_i hM hC hw dX11_judgement_58
    ·
      replace hw := (if_pos c9).mp hw
      refine lv_iconst (v := -1) hx hb dX11_judgement_30 (by decide) ?_
      exact ret_i hM hC hw dX11_judgement_31
  ·
    replace hw := (if_pos c4).mp hw
    refine lv_aload_n hx hb dX11_judgement_10 rfl (lo_at hl 1 rfl) ?_
    obtain ⟨k22, hw⟩ := hw
    refine r_getR hx hb hts hown hg hC fb_9_13 k22 mk_f_RX11_55 dX11_judgement_11 ?_
    obtain ⟨k23, hw⟩ := hw
    refine rf_1 k23.1 ?_
    refine res_v hC (run_V (As := []) (rest := []) hM hC hl.1.1 kv_RX11_180 (c_X5_pass l G base (ad (hpR h2 o 13)) h2 _ hw) (hc_4) k23.2 rfl rfl rfl ⟨Nat.le_of_ble_eq_true rfl, Nat.le_of_ble_eq_true rfl⟩ (Nat.le_of_ble_eq_true rfl) ⟨Nat.le_of_ble_eq_true rfl, Nat.le_of_ble_eq_true rfl⟩ dX11_judgement_14) (fun h24 H locs hw hC => ?_)
    refine lv_iconst (v := -1) hx hb dX11_judgement_17 (by decide) ?_
    exact ret_i hM hC hw dX11_judgement_18
