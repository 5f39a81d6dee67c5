abbrev rm_X8_wordKind : Room := { frames := 5, cells := 0, slots := 0, locals := 109 }
def wp_X8_wordKind_J56 (o : Nat) (x1 : Int32) (x2 : Int32) (x3 : Int32) (x5 : Int32) (KH : Int32 → Int32 → Int32 → Hp → Prop) (K50 : Int32 → Hp → Prop) (K71 : Hp → Prop) (Q : Int32 → Hp → Prop) (h : Hp) : Prop := ∀ v11 : Int32, v11 = x3 + (1 : Int32) → (∀ v12 : Int32, v12 = x5 + (1 : Int32) → (∀ v13 : Int32, v13 = x5 + (1 : Int32) → (KH v11 v12 v13 h)))
def wp_X8_wordKind_L8 (o : Nat) (x1 : Int32) (x2 : Int32) (K50 : Int32 → Hp → Prop) (K71 : Hp → Prop) (Q : Int32 → Hp → Prop) : Nat → Int32 → Int32 → Int32 → Hp → Prop
  | 0, _, _, _, _ => False
  | n + 1, x3, x4, x5, h => (0 < 2) ∧ (wp_J0_length_8abf5 0 h (fun (z3 : Int32) (h2 : Hp) => (if z3 ≤ x5 then (K71 h2) else ((0 < 2) ∧ (wp_J0_charAt_5068e 0 x5 h2 (fun (z7 : Int32) (h6 : Hp) => (if z7 = (32 : Int32) then ((if (x5 - x4) = x2 then (((hpK h6 o).1 = 20 + 6) ∧ (wp_X8_isWord o x1 x4 x2 h6 (fun (z16 : Int32) (h15 : Hp) => (if z16 = 0 then (wp_X8_wordKind_J56 o x1 x2 x3 x5 (wp_X8_wordKind_L8 o x1 x2 K50 K71 Q n) K50 K71 Q h15) else (K50 x3 h15))))) else (wp_X8_wordKind_J56 o x1 x2 x3 x5 (wp_X8_wordKind_L8 o x1 x2 K50 K71 Q n) K50 K71 Q h6))) else (∀ v9 : Int32, v9 = x5 + (1 : Int32) → (wp_X8_wordKind_L8 o x1 x2 K50 K71 Q n x3 x4 v9 h6)))))))))
def wp_X8_wordKind (o : Nat) (x1 : Int32) (x2 : Int32) (h : Hp) (Q : Int32 → Hp → Prop) : Prop := wp_X8_wordKind_L8 o x1 x2 (fun (y19 : Int32) (h18 : Hp) => Q ((256 : Int32) + y19) h18) (fun (h20 : Hp) => Q (1 : Int32) h20) Q fuel (0 : Int32) (0 : Int32) (0 : Int32) h
set_option maxHeartbeats 4000000 in
set_option maxRecDepth 100000 in
theorem t_X8_wordKind_J56 {p : Program} {l : Launch} {e : Env} {s : State} {m : MethodId} {args : Array Value} {below : List Frame} {meth : Method} {c : Code} {G : GG} {base : Nat} (hM : Mx G base p s m args meth c cX8_wordKind 6 (some .int) RX8 "wordKind") (o : Nat) (x1 : Int32) (x2 : Int32) (x3 : Int32) (x5 : Int32) (KH : Int32 → Int32 → Int32 → Hp → Prop) (K50 : Int32 → Hp → Prop) (K71 : Hp → Prop) (Q : Int32 → Hp → Prop) (hKH : ∀ (y3 : Int32) (y4 : Int32) (y5 : Int32) (h : Hp) (H : Heap) (locs : List Loc) (ls : Array Slot), Cx G base h s.heap H locs → lo_has ls 6 [(0, .ref o), (1, .int x1), (2, .int x2), (3, .int y3), (4, .int y4), (5, .int y5)] → KH y3 y4 y5 h → W p l e rm_X8_wordKind s m args below meth c H locs 0 0 (MQ below (va_Qi Q (PU G base) (fun q => base ≤ q)) args s 0 0 (fun q => base ≤ q)) (F0 m 8 ls [])) (hK50 : ∀ (y3 : Int32) (h : Hp) (H : Heap) (locs : List Loc) (ls : Array Slot), Cx G base h s.heap H locs → lo_has ls 6 [(3, .int y3)] → K50 y3 h → W p l e rm_X8_wordKind s m args below meth c H locs 0 0 (MQ below (va_Qi Q (PU G base) (fun q => base ≤ q)) args s 0 0 (fun q => base ≤ q)) (F0 m 50 ls [])) (hK71 : ∀ (h : Hp) (H : Heap) (locs : List Loc) (ls : Array Slot), Cx G base h s.heap H locs → lo_has ls 6 [] → K71 h → W p l e rm_X8_wordKind s m args below meth c H locs 0 0 (MQ below (va_Qi Q (PU G base) (fun q => base ≤ q)) args s 0 0 (fun q => base ≤ q)) (F0 m 71 ls [])) (h : Hp) (H : Heap) (locs : List Loc) (ls : Array Slot) : Cx G base h s.heap H locs → lo_has ls 6 [(0, .ref o), (1, .int x1), (2, .int x2), (3, .int x3), (5, .int x5)] → wp_X8_wordKind_J56 o x1 x2 x3 x5 KH K50 K71 Q h → W p l e rm_X8_wordKind s m args below meth c H locs 0 0 (MQ below (va_Qi Q (PU G base) (fun q => base ≤ q)) args s 0 0 (fun q => base ≤ q)) (F0 m 56 ls []) := by
  intro hC hl hw
  unfold wp_X8_wordKind_J56 at hw
  obtain ⟨hx, hb, hr, hml, hown, hts, hg, hs, hlk, hnm⟩ := id hM
  obtain ⟨v11, ev11⟩ : ∃ y : Int32, y = x3 + (1 : Int32) := ⟨_, rfl⟩
  replace hw := hw v11 ev11
  refine lo_iinc (v := v11) (lv' := [(3, .int v11), (0, .ref o), (1, .int x1), (2, .int x2), (5, .int x5)]) hx hb dX8_wordKind_56 hl (k := 3) rfl (by rw [ev11]; rfl) (by decide) rfl (fun ls hl => ?_)
  refine lv_iload hx hb dX8_wordKind_59 (lo_at hl 4 rfl) ?_
  refine lv_iconst (v := 1) hx hb dX8_wordKind_61 (by decide) ?_
  refine lv_iadd hx hb dX8_wordKind_62 ?_
  refine lv_topi (fun v12 ev12 => ?_)
  replace hw := hw v12 ev12
  refine lo_istore (lv' := [(4, .int v12), (3, .int v11), (0, .ref o), (1, .int x1), (2, .int x2), (5, .int x5)]) hx hb dX8_wordKind_63 hl (by decide) rfl (fun ls hl => ?_)
  obtain ⟨v13, ev13⟩ : ∃ y : Int32, y = x5 + (1 : Int32) := ⟨_, rfl⟩
  replace hw := hw v13 ev13
  refine lo_iinc (v := v13) (lv' := [(5, .int v13), (4, .int v12), (3, .int v11), (0, .ref o), (1, .int x1), (2, .int x2)]) hx hb dX8_wordKind_65 hl (k := 5) rfl (by rw [ev13]; rfl) (by decide) rfl (fun ls hl => ?_)
  refine lv_goto (tgt := 8) hx hb dX8_wordKind_68 (by decide) ?_
  exact hKH v11 v12 v13 h H locs ls hC (lo_sub hl [3, 4, 5, 2, 1, 0] rfl) hw
set_option maxHeartbeats 4000000 in
set_option maxRecDepth 100000 in
theorem t_X8_wordKind_L8 {p : Program} {l : Launch} {e : Env} {s : State} {m : MethodId} {args : Array Value} {below : List Frame} {meth : Method} {c : Code} {G : GG} {base : Nat} (hM : Mx G base p s m args meth c cX8_wordKind 6 (some .int) RX8 "wordKind") (o : Nat) (x1 : Int32) (x2 : Int32) (K50 : Int32 → Hp → Prop) (K71 : Hp → Prop) (Q : Int32 → Hp → Prop) (hK50 : ∀ (y3 : Int32) (h : Hp) (H : Heap) (locs : List Loc) (ls : Array Slot), Cx G base h s.heap H locs → lo_has ls 6 [(3, .int y3)] → K50 y3 h → W p l e rm_X8_wordKind s m args below meth c H locs 0 0 (MQ below (va_Qi Q (PU G base) (fun q => base ≤ q)) args s 0 0 (fun q => base ≤ q)) (F0 m 50 ls [])) (hK71 : ∀ (h : Hp) (H : Heap) (locs : List Loc) (ls : Array Slot), Cx G base h s.heap H locs → lo_has ls 6 [] → K71 h → W p l e rm_X8_wordKind s m args below meth c H locs 0 0 (MQ below (va_Qi Q (PU G base) (fun q => base ≤ q)) args s 0 0 (fun q => base ≤ q)) (F0 m 71 ls [])) : ∀ (n : Nat) (x3 : Int32) (x4 : Int32) (x5 : Int32) (h : Hp) (H : Heap) (locs : List Loc) (ls : Array Slot), Cx G base h s.heap H locs → lo_has ls 6 [(0, .ref o), (1, .int x1), (2, .int x2), (3, .int x3), (4, .int x4), (5, .int x5)] → wp_X8_wordKind_L8 o x1 x2 K50 K71 Q n x3 x4 x5 h → W p l e rm_X8_wordKind s m args below meth c H locs 0 0 (MQ below (va_Qi Q (PU G base) (fun q => base ≤ q)) args s 0 0 (fun q => base ≤ q)) (F0 m 8 ls []) := by
  intro n
  induction n with
  | zero =>
    intro x3 x4 x5 h H locs ls hC hl hw
    rw [wp_X8_wordKind_L8] at hw
    exact hw.elim
  | succ n ih =>
    intro x3 x4 x5 h H locs ls hC hl hw
    rw [wp_X8_wordKind_L8] at hw
    obtain ⟨hx, hb, hr, hml, hown, hts, hg, hs, hlk, hnm⟩ := id hM
    refine lv_iload hx hb dX8_wordKind_8 (lo_at hl 5 rfl) ?_
    refine va_ldcS hx hb hown hs.2.1 dX8_wordKind_10 ?_
    obtain ⟨k1, hw⟩ := hw
    refine res_i hC (run_VS (As := []) (rest := [.int x5]) hM hC hl.1.1 kv_RX8_58 (c_J0_length_8abf5 l G base 0 h _ hw) k1 rfl rfl rfl ⟨Nat.le_of_ble_eq_true rfl, Nat.le_of_ble_eq_true rfl⟩ (Nat.le_of_ble_eq_true rfl) ⟨Nat.le_of_ble_eq_true rfl, Nat.le_of_ble_eq_true rfl⟩ dX8_wordKind_12) (fun z3 h2 H locs hw hC => ?_)
    refine lv_icmp_ge (tgt := 71) hx hb dX8_wordKind_15 (by decide) (fun c4 => ?_) (fun c4 => ?_)
    ·
      replace hw := (if_pos c4).mp hw
      exact hK71  h2 H locs ls hC (lo_sub hl [] rfl) hw
    ·
      replace hw := (if_neg c4).mp hw
      refine va_ldcS hx hb hown hs.2.1 dX8_wordKind_18 ?_
      refine lv_iload hx hb dX8_wordKind_20 (lo_at hl 5 rfl) ?_
      obtain ⟨k5, hw⟩ := hw
      refine res_i hC (run_VS (As := [.int x5]) (rest := []) hM hC hl.1.1 kv_RX8_61 (c_J0_charAt_5068e l G base 0 x5 h2 _ hw) k5 rfl rfl rfl ⟨Nat.le_of_ble_eq_true rfl, Nat.le_of_ble_eq_true rfl⟩ (Nat.le_of_ble_eq_true rfl) ⟨Nat.le_of_ble_eq_true rfl, Nat.le_of_ble_eq_true rfl⟩ dX8_wordKind_22) (fun z7 h6 H locs hw hC => ?_)
      refine lv_bipush (v := 32) hx hb dX8_wordKind_25 (by decide) ?_
      refine lv_icmp_ne (tgt := 65) hx hb dX8_wordKind_27 (by decide) (fun c8 => ?_) (fun c8 => ?_)
      ·
        replace hw := (if_neg c8).mp hw
        obtain ⟨v9, ev9⟩ : ∃ y : Int32, y = x5 + (1 : Int32) := ⟨_, rfl⟩
        replace hw := hw v9 ev9
        refine lo_iinc (v := v9) (lv' := [(5, .int v9), (0, .ref o), (1, .int x1), (2, .int x2), (3, .int x3), (4, .int x4)]) hx hb dX8_wordKind_65 hl (k := 5) rfl (by rw [ev9]; rfl) (by decide) rfl (fun ls hl => ?_)
        refine lv_goto (tgt := 8) hx hb dX8_wordKind_68 (by decide) ?_
        exact ih x3 x4 v9 h6 H locs ls hC (lo_sub hl [1, 2, 3, 4, 5, 0] rfl) hw
      ·
        replace hw := (if_pos c8).mp hw
        refine lv_iload hx hb dX8_wordKind_30 (lo_at hl 5 rfl) ?_
        refine lv_iload hx hb dX8_wordKind_32 (lo_at hl 4 rfl) ?_
        refine lv_isub hx hb dX8_wordKind_34 ?_
        refine lv_iload_n hx hb dX8_wordKind_35 rfl (lo_at hl 2 rfl) ?_
        refine lv_icmp_ne (tgt := 56) hx hb dX8_wordKind_36 (by decide) (fun c10 => ?_) (fun c10 => ?_)
        ·
          replace hw := (if_neg c10).mp hw
          exact t_X8_wordKind_J56 hM o x1 x2 x3 x5 (wp_X8_wordKind_L8 o x1 x2 K50 K71 Q n) K50 K71 Q ih hK50 hK71 h6 H locs ls hC (lo_sub hl [0, 1, 2, 3, 5] rfl) hw
        ·
          replace hw := (if_pos c10).mp hw
          refine lv_aload_n hx hb dX8_wordKind_39 rfl (lo_at hl 0 rfl) ?_
          refine lv_iload_n hx hb dX8_wordKind_40 rfl (lo_at hl 1 rfl) ?_
          refine lv_iload hx hb dX8_wordKind_41 (lo_at hl 4 rfl) ?_
          refine lv_iload_n hx hb dX8_wordKind_43 rfl (lo_at hl 2 rfl) ?_
          obtain ⟨k14, hw⟩ := hw
          refine res_i hC (run_V (As := [.int x1, .int x4, .int x2]) (rest := []) hM hC hl.1.1 kv_RX8_65 (c_X8_isWord l G base o x1 x4 x2 h6 _ hw) (hc_6) k14 rfl rfl rfl ⟨Nat.le_of_ble_eq_true rfl, Nat.le_of_ble_eq_true rfl⟩ (Nat.le_of_ble_eq_true rfl) ⟨Nat.le_of_ble_eq_true rfl, Nat.le_of_ble_eq_true rfl⟩ dX8_wordKind_44) (fun z16 h15 H locs hw hC => ?_)
          refine lv_if_eq (tgt := 56) hx hb dX8_wordKind_47 (by decide) (fun c17 => ?_) (fun c17 => ?_)
          ·
            replace hw := (if_pos c17).mp hw
            exact t_X8_wordKind_J56 hM o x1 x2 x3 x5 (wp_X8_wordKind_L8 o x1 x2 K50 K71 Q n) K50 K71 Q ih hK50 hK71 h15 H locs ls hC (lo_sub hl [0, 1, 2, 3, 5] rfl) hw
          ·
            replace hw := (if_neg c17).mp hw
            exact hK50 x3 h15 H locs ls hC (lo_sub hl [3] rfl) hw
set_option maxHeartbeats 4000000 in
set_option maxRecDepth 100000 in
theorem c_X8_wordKind (l : Launch) (G : GG) (base : Nat) (o : Nat) (x1 : Int32) (x2 : Int32) (h : Hp) (Q : Int32 → Hp → Prop) (hw : wp_X8_wordKind o x1 x2 h Q) : Met l yX8_wordKind (ww yX8_wordKind cX8_wordKind 6 (some .int)) rm_X8_wordKind (va_Pc [.ref o, .int x1, .int x2] (PU G base h)) (va_Qi Q (PU G base) (fun q => base ≤ q)) 0 0 (fun q => base ≤ q) := by
  refine met_of (own := RX8) (nm := "wordKind") (by decide) rfl rfl (List.forall_mem_cons.mpr ⟨rfl, (List.forall_mem_cons.mpr ⟨rfl, (List.forall_mem_cons.mpr ⟨rfl, (fun _ h => absurd h List.not_mem_nil)⟩)⟩)⟩) (Nat.le_of_ble_eq_true rfl) rfl ?_
  intro p e s m below meth c ls hM hC hl
  obtain ⟨hx, hb, hr, hml, hown, hts, hg, hs, hlk, hnm⟩ := id hM
  obtain ⟨args, hargs⟩ : ∃ a : Array Value, a = ([.ref o, .int x1, .int x2] : List Value).toArray := ⟨_, rfl⟩
  rw [← hargs] at hM hts ⊢
  obtain ⟨H, hH⟩ : ∃ H : Heap, H = s.heap := ⟨_, rfl⟩
  obtain ⟨locs, hlocs⟩ : ∃ x : List Loc, x = [] := ⟨_, rfl⟩
  have hC : Cx G base h s.heap H locs := by rw [hH, hlocs]; exact hC
  show W p l e rm_X8_wordKind s m args below meth c s.heap [] 0 0 (MQ below (va_Qi Q (PU G base) (fun q => base ≤ q)) args s 0 0 (fun q => base ≤ q)) (F0 m 0 ls [])
  rw [← hlocs]
  have hgoal : W p l e rm_X8_wordKind s m args below meth c H locs 0 0 (MQ below (va_Qi Q (PU G base) (fun q => base ≤ q)) args s 0 0 (fun q => base ≤ q)) (F0 m 0 ls []) := ?_
  · rw [hH] at hgoal; exact hgoal
  clear hH hlocs
  unfold wp_X8_wordKind at hw
  refine lv_iconst (v := 0) hx hb dX8_wordKind_0 (by decide) ?_
  refine lo_istore_n (lv' := [(3, .int ((0 : Int32))), (0, .ref o), (1, .int x1), (2, .int x2)]) hx hb dX8_wordKind_1 rfl hl (by decide) rfl (fun ls hl => ?_)
  refine lv_iconst (v := 0) hx hb dX8_wordKind_2 (by decide) ?_
  refine lo_istore (lv' := [(4, .int ((0 : Int32))), (3, .int ((0 : Int32))), (0, .ref o), (1, .int x1), (2, .int x2)]) hx hb dX8_wordKind_3 hl (by decide) rfl (fun ls hl => ?_)
  refine lv_iconst (v := 0) hx hb dX8_wordKind_5 (by decide) ?_
  refine lo_istore (lv' := [(5, .int ((0 : Int32))), (4, .int ((0 : Int32))), (3, .int ((0 : Int32))), (0, .ref o), (1, .int x1), (2, .int x2)]) hx hb dX8_wordKind_6 hl (by decide) rfl (fun ls hl => ?_)
  refine t_X8_wordKind_L8 hM o x1 x2 _ _ Q ?_ ?_ fuel (0 : Int32) (0 : Int32) (0 : Int32) h H locs ls hC (lo_sub hl [3, 4, 5, 2, 1, 0] rfl) hw
  ·
    intro y19 h18 H locs ls hC hl hw
    refine lv_sipush (v := 256) hx hb dX8_wordKind_50 (by decide) ?_
    refine lv_iload_n hx hb dX8_wordKind_53 rfl (lo_at hl 0 rfl) ?_
    refine lv_iadd hx hb dX8_wordKind_54 ?_
    exact ret_i hM hC hw dX8_wordKind_55
  ·
    intro  h20 H locs ls hC hl hw
    refine lv_iconst (v := 1) hx hb dX8_wordKind_71 (by decide) ?_
    exact ret_i hM hC hw dX8_wordKind_72
abbrev rm_X11_says : Room := { frames := 6, cells := 0, slots := 0, locals := 169 }
def wp_X11_says (o : Nat) (x1 : Int32) (x2 : Int32) (x3 : Int32) (x4 : Int32) (h : Hp) (Q : Int32 → Hp → Prop) : Prop := ((hpK h o).1 = 20 + 9) ∧ (wp_X11_lookerAt o x1 h (fun (z3 : Option Nat) (h2 : Hp) => ((hpK h2 o).1 = 20 + 9) ∧ (wp_X11_ballAt o x2 h2 (fun (z6 : Option Nat) (h5 : Hp) => ((hpK h5 o).1 = 20 + 9) ∧ (wp_X11_ballAt o x3 h5 (fun (z9 : Option Nat) (h8 : Hp) => (if z3 = none then (Q (-1 : Int32) h8) else ((if z6 = none then (Q (-1 : Int32) h8) else ((if z9 = none then (Q (-1 : Int32) h8) else (((hpK h8 o).1 = 20 + 9) ∧ (okO h8 z3 2 ∧ (wp_X3_sayingOf (ad z3) z6 z9 x4 (hpR h8 o 15) h8 (fun (z16 : Int32) (h15 : Hp) => Q z16 h15)))))))))))))))
set_option maxHeartbeats 4000000 in
set_option maxRecDepth 100000 in
theorem c_X11_says (l : Launch) (G : GG) (base : Nat) (o : Nat) (x1 : Int32) (x2 : Int32) (x3 : Int32) (x4 : Int32) (h : Hp) (Q : Int32 → Hp → Prop) (hw : wp_X11_says o x1 x2 x3 x4 h Q) : Met l yX11_says (ww yX11_says cX11_says 8 (some .int)) rm_X11_says (va_Pc [.ref o, .int x1, .int x2, .int x3, .int x4] (PU G base h)) (va_Qi Q (PU G base) (fun q => base ≤ q)) 0 0 (fun q => base ≤ q) := by
  refine met_of (own := RX11) (nm := "says") (by decide) rfl rfl (List.forall_mem_cons.mpr ⟨rfl, (List.forall_mem_cons.mpr ⟨rfl, (List.forall_mem_cons.mpr ⟨rfl, (List.forall_mem_cons.mpr ⟨rfl, (List.forall_mem_cons.mpr ⟨rfl, (fun _ h => absurd h List.not_mem_nil)⟩)⟩)⟩)⟩)⟩) (Nat.le_of_ble_eq_true rfl) rfl ?_
  intro p e s m below meth c ls hM hC hl
  obtain ⟨hx, hb, hr, hml, hown, hts, hg, hs, hlk, hnm⟩ := id hM
  obtain ⟨args, hargs⟩ : ∃ a : Array Value, a = ([.ref o, .int x1, .int x2, .int x3, .int x4] : List Value).toArray := ⟨_, rfl⟩
  rw [← hargs] at hM hts ⊢
  obtain ⟨H, hH⟩ : ∃ H : Heap, H = s.heap := ⟨_, rfl⟩
  obtain ⟨locs, hlocs⟩ : ∃ x : List Loc, x = [] := ⟨_, rfl⟩
  have hC : Cx G base h s.heap H locs := by rw [hH, hlocs]; exact hC
  show W p l e rm_X11_says s m args below meth c s.heap [] 0 0 (MQ below (va_Qi Q (PU G base) (fun q => base ≤ q)) args s 0 0 (fun q => base ≤ q)) (F0 m 0 ls [])
  rw [← hlocs]
  have hgoal : W p l e rm_X11_says s m args below meth c H locs 0 0 (MQ below (va_Qi Q (PU G base) (fun q => base ≤ q)) args s 0 0 (fun q => base ≤ q)) (F0 m 0 ls []) := ?_
  · rw [hH] at hgoal; exact hgoal
  clear hH hlocs
  unfold wp_X11_says at hw
  refine lv_aload_n hx hb dX11_says_0 rfl (lo_at hl 0 rfl) ?_
  refine lv_iload_n hx hb dX11_says_1 rfl (lo_at hl 1 rfl) ?_
  obtain ⟨k1, hw⟩ := hw
  refine res_q hC (run_V (As := [.int x1]) (rest := []) hM hC hl.1.1 kv_RX11_144 (c_X11_lookerAt l G base o x1 h _ hw) (hc_9) k1 rfl rfl rfl ⟨Nat.le_of_ble_eq_true rfl, Nat.le_of_ble_eq_true rfl⟩ (Nat.le_of_ble_eq_true rfl) ⟨Nat.le_of_ble_eq_true rfl, Nat.le_of_ble_eq_true rfl⟩ dX11_says_2) (fun z3 h2 H locs hw hC => ?_)
  refine lo_astore (r := z3) (lv' := [(5, va_rf z3), (0, .ref o), (1, .int x1), (2, .int x2), (3, .int x3), (4, .int x4)]) hx hb dX11_says_5 hl (by decide) rfl (fun ls hl => ?_)
  refine lv_aload_n hx hb dX11_says_7 rfl (lo_at hl 1 rfl) ?_
  refine lv_iload_n hx hb dX11_says_8 rfl (lo_at hl 3 rfl) ?_
  obtain ⟨k4, hw⟩ := hw
  refine res_q hC (run_V (As := [.int x2]) (rest := []) hM hC hl.1.1 kv_RX11_140 (c_X11_ballAt l G base o x2 h2 _ hw) (hc_9) k4 rfl rfl rfl ⟨Nat.le_of_ble_eq_true rfl, Nat.le_of_ble_eq_true rfl⟩ (Nat.le_of_ble_eq_true rfl) ⟨Nat.le_of_ble_eq_true rfl, Nat.le_of_ble_eq_true rfl⟩ dX11_says_9) (fun z6 h5 H locs hw hC => ?_)
  refine lo_astore (r := z6) (lv' := [(6, va_rf z6), (5, va_rf z3), (0, .ref o), (1, .int x1), (2, .int x2), (3, .int x3), (4, .int x4)]) hx hb dX11_says_12 hl (by decide) rfl (fun ls hl => ?_)
  refine lv_aload_n hx hb dX11_says_14 rfl (lo_at hl 2 rfl) ?_
  refine lv_iload_n hx hb dX11_says_15 rfl (lo_at hl 5 rfl) ?_
  obtain ⟨k7, hw⟩ := hw
  refine res_q hC (run_V (As := [.int x3]) (rest := []) hM hC hl.1.1 kv_RX11_140 (c_X11_ballAt l G base o x3 h5 _ hw) (hc_9) k7 rfl rfl rfl ⟨Nat.le_of_ble_eq_true rfl, Nat.le_of_ble_eq_true rfl⟩ (Nat.le_of_ble_eq_true rfl) ⟨Nat.le_of_ble_eq_true rfl, Nat.le_of_ble_eq_true rfl⟩ dX11_says_16) (fun z9 h8 H locs hw hC => ?_)
  refine lo_astore (r := z9) (lv' := [(7, va_rf z9), (6, va_rf z6), (5, va_rf z3), (0, .ref o), (1, .int x1), (2, .int x2), (3, .int x3), (4, .int x4)]) hx hb dX11_says_19 hl (by decide) rfl (fun ls hl => ?_)
  refine lo_aload (r := z3) hx hb dX11_says_21 (lo_at hl 2 rfl) ?_
  refine lo_ifnull (r := z3) (tgt := 36) hx hb dX11_says_23 (by decide) (fun c10 => ?_) (fun c10 => ?_)
  ·
    replace hw := (if_pos c10).mp hw
    refine lv_iconst (v := -1) hx hb dX11_says_36 (by decide) ?_
    exact ret_i hM hC hw dX11_says_37
  ·
    replace hw := (if_neg c10).mp hw
    refine lo_aload (r := z6) hx hb dX11_says_26 (lo_at hl 1 rfl) ?_
    refine lo_ifnull (r := z6) (tgt := 36) hx hb dX11_says_28 (by decide) (fun c11 => ?_) (fun c11 => ?_)
    ·
      replace hw := (if_pos c11).mp hw
      refine lv_iconst (v := -1) hx hb dX11_says_36 (by decide) ?_
      exact ret_i hM hC hw dX11_says_37
    ·
      replace hw := (if_neg c11).mp hw
      refine lo_aload (r := z9) hx hb dX11_says_31 (lo_at hl 0 rfl) ?_
      refine lo_ifnonnull (r := z9) (tgt := 38) hx hb dX11_says_33 (by decide) (fun c12 => ?_) (fun c12 => ?_)
      ·
        replace hw := (if_neg c12).mp hw
        refine lo_aload (r := z3) hx hb dX11_says_38 (lo_at hl 2 rfl) ?_
        refine lo_aload (r := z6) hx hb dX11_says_40 (lo_at hl 1 rfl) ?_
        refine lo_aload (r := z9) hx hb dX11_says_42 (lo_at hl 0 rfl) ?_
        refine lv_iload hx hb dX11_says_44 (lo_at hl 7 rfl) ?_
        refine lv_aload_n hx hb dX11_says_46 rfl (lo_at hl 3 rfl) ?_
        obtain ⟨k13, hw⟩ := hw
        refine r_getR hx hb hts hown hg hC fb_9_15 k13 mk_f_RX11_69 dX11_says_47 ?_
        obtain ⟨k14, hw⟩ := hw
        refine rf_5 k14.1 ?_
        refine res_i hC (run_V (As := [va_rf z6, va_rf z9, .int x4, va_rf (hpR h8 o 15)]) (rest := []) hM hC hl.1.1 kv_RX11_237 (c_X3_sayingOf l G base (ad z3) z6 z9 x4 (hpR h8 o 15) h8 _ hw) (hc_2) k14.2 rfl rfl rfl ⟨Nat.le_of_ble_eq_true rfl, Nat.le_of_ble_eq_true rfl⟩ (Nat.le_of_ble_eq_true rfl) ⟨Nat.le_of_ble_eq_true rfl, Nat.le_of_ble_eq_true rfl⟩ dX11_says_50) (fun z16 h15 H locs hw hC => ?_)
        exact ret_i hM hC hw dX11_says_53
      ·
        replace hw := (if_pos c12).mp hw
        refine lv_iconst (v := -1) hx hb dX11_says_36 (by decide) ?_
        exact ret_i hM hC hw dX11_says_37
abbrev rm_X11_lean : Room := { frames := 6, cells := 0, slots := 0, locals := 169 }
def wp_X11_lean_L17 (o : Nat) (r2 : Option Nat) (K90 : Int32 → Hp → Prop) (Q : Int32 → Hp → Prop) : Nat → Int32 → Int32 → Hp → Prop
  | 0, _, _, _ => False
  | n + 1, x3, x4, h => ((hpK h o).1 = 20 + 9) ∧ ((if (hpI h o 10) ≤ x4 then (K90 x3 h) else (okA h (hpR h o 9) 6 x4 ∧ ((if (hpR h (ad (hpR h o 9)) (x4).toNatClampNeg) = none then (∀ v9 : Int32, v9 = x4 + (1 : Int32) → (wp_X11_lean_L17 o r2 K90 Q n x3 v9 h)) else (okO h (hpR h (ad (hpR h o 9)) (x4).toNatClampNeg) 3 ∧ (okO h r2 2 ∧ (wp_X3_sayingOf (ad r2) (hpR h (ad (hpR h (ad (hpR h o 9)) (x4).toNatClampNeg)) 0) (hpR h (ad (hpR h (ad (hpR h o 9)) (x4).toNatClampNeg)) 1) (1 : Int32) (hpR h o 15) h (fun (z13 : Int32) (h12 : Hp) => okO h12 (hpR h (ad (hpR h o 9)) (x4).toNatClampNeg) 3 ∧ (((hpK h12 o).1 = 20 + 9) ∧ (okO h12 r2 2 ∧ (wp_X3_sayingOf (ad r2) (hpR h12 (ad (hpR h (ad (hpR h o 9)) (x4).toNatClampNeg)) 0) (hpR h12 (ad (hpR h (ad (hpR h o 9)) (x4).toNatClampNeg)) 1) (0 : Int32) (hpR h12 o 15) h12 (fun (z18 : Int32) (h17 : Hp) => (if z13 = z18 then (∀ v20 : Int32, v20 = x4 + (1 : Int32) → (wp_X11_lean_L17 o r2 K90 Q n x3 v20 h17)) else (∀ v21 : Int32, v21 = x3 + (1 : Int32) → (∀ v22 : Int32, v22 = x4 + (1 : Int32) → (wp_X11_lean_L17 o r2 K90 Q n v21 v22 h17)))))))))))))))))
def wp_X11_lean (o : Nat) (x1 : Int32) (h : Hp) (Q : Int32 → Hp → Prop) : Prop := ((hpK h o).1 = 20 + 9) ∧ (wp_X11_lookerAt o x1 h (fun (z3 : Option Nat) (h2 : Hp) => (if z3 = none then (Q (-1 : Int32) h2) else (wp_X11_lean_L17 o z3 (fun (y24 : Int32) (h23 : Hp) => Q y24 h23) Q fuel (0 : Int32) (0 : Int32) h2))))
set_option maxHeartbeats 4000000 in
set_option maxRecDepth 100000 in
theorem t_X11_lean_L17 {p : Program} {l : Launch} {e : Env} {s : State} {m : MethodId} {args : Array Value} {below : List Frame} {meth : Method} {c : Code} {G : GG} {base : Nat} (hM : Mx G base p s m args meth c cX11_lean 6 (some .int) RX11 "lean") (o : Nat) (r2 : Option Nat) (K90 : Int32 → Hp → Prop) (Q : Int32 → Hp → Prop) (hK90 : ∀ (y3 : Int32) (h : Hp) (H : Heap) (locs : List Loc) (ls : Array Slot), Cx G base h s.heap H locs → lo_has ls 6 [(3, .int y3)] → K90 y3 h → W p l e rm_X11_lean s m args below meth c H locs 0 0 (MQ below (va_Qi Q (PU G base) (fun q => base ≤ q)) args s 0 0 (fun q => base ≤ q)) (F0 m 90 ls [])) : ∀ (n : Nat) (x3 : Int32) (x4 : Int32) (h : Hp) (H : Heap) (locs : List Loc) (ls : Array Slot), Cx G base h s.heap H locs → lo_has ls 6 [(0, .ref o), (2, va_rf r2), (3, .int x3), (4, .int x4)] → wp_X11_lean_L17 o r2 K90 Q n x3 x4 h → W p l e rm_X11_lean s m args below meth c H locs 0 0 (MQ below (va_Qi Q (PU G base) (fun q => base ≤ q)) args s 0 0 (fun q => base ≤ q)) (F0 m 17 ls []) := by
  intro n
  induction n with
  | zero =>
    intro x3 x4 h H locs ls hC hl hw
    rw [wp_X11_lean_L17] at hw
    exact hw.elim
  | succ n ih =>
    intro x3 x4 h H locs ls hC hl hw
    rw [wp_X11_lean_L17] at hw
    obtain ⟨hx, hb, hr, hml, hown, hts, hg, hs, hlk, hnm⟩ := id hM
    refine lv_iload hx hb dX11_lean_17 (lo_at hl 3 rfl) ?_
    refine lv_aload_n hx hb dX11_lean_19 rfl (lo_at hl 0 rfl) ?_
    obtain ⟨k5, hw⟩ := hw
    refine r_getI hx hb hts hown hg hC fb_9_10 k5 mk_f_RX11_258 dX11_lean_20 ?_
    refine lv_icmp_ge (tgt := 90) hx hb dX11_lean_23 (by decide) (fun c6 => ?_) (fun c6 => ?_)
    ·
      replace hw := (if_pos c6).mp hw
      exact hK90 x3 h H locs ls hC (lo_sub hl [2] rfl) hw
    ·
      replace hw := (if_neg c6).mp hw
      refine lv_aload_n hx hb dX11_lean_26 rfl (lo_at hl 0 rfl) ?_
      refine r_getR hx hb hts hown hg hC fb_9_9 k5 mk_f_RX11_35 dX11_lean_27 ?_
      refine lv_iload hx hb dX11_lean_30 (lo_at hl 3 rfl) ?_
      obtain ⟨k7, hw⟩ := hw
      refine rf_2 k7.1 ?_
      refine r_aald (kd := 6) (t0 := 5) hx hb hg hC k7.2.1 (by decide) rfl k7.2.2 dX11_lean_32 ?_
      refine lo_astore (r := hpR h (ad (hpR h o 9)) (x4).toNatClampNeg) (lv' := [(5, va_rf (hpR h (ad (hpR h o 9)) (x4).toNatClampNeg)), (0, .ref o), (2, va_rf r2), (3, .int x3), (4, .int x4)]) hx hb dX11_lean_33 hl (by decide) rfl (fun ls hl => ?_)
      refine lo_aload (r := hpR h (ad (hpR h o 9)) (x4).toNatClampNeg) hx hb dX11_lean_35 (lo_at hl 0 rfl) ?_
      refine lo_ifnull (r := hpR h (ad (hpR h o 9)) (x4).toNatClampNeg) (tgt := 84) hx hb dX11_lean_37 (by decide) (fun c8 => ?_) (fun c8 => ?_)
      ·
        replace hw := (if_pos c8).mp hw
        obtain ⟨v9, ev9⟩ : ∃ y : Int32, y = x4 + (1 : Int32) := ⟨_, rfl⟩
        replace hw := hw v9 ev9
        refine lo_iinc (v := v9) (lv' := [(4, .int v9), (5, va_rf (hpR h (ad (hpR h o 9)) (x4).toNatClampNeg)), (0, .ref o), (2, va_rf r2), (3, .int x3)]) hx hb dX11_lean_84 hl (k := 4) rfl (by rw [ev9]; rfl) (by decide) rfl (fun ls hl => ?_)
        refine lv_goto (tgt := 17) hx hb dX11_lean_87 (by decide) ?_
        exact ih x3 v9 h H locs ls hC (lo_sub hl [2, 3, 4, 0] rfl) hw
      ·
        replace hw := (if_neg c8).mp hw
        refine lo_aload_n (r := r2) hx hb dX11_lean_40 rfl (lo_at hl 2 rfl) ?_
        refine lo_aload (r := hpR h (ad (hpR h o 9)) (x4).toNatClampNeg) hx hb dX11_lean_41 (lo_at hl 0 rfl) ?_
        obtain ⟨k10, hw⟩ := hw
        refine rf_1 k10.1 ?_
        refine r_getR hx hb hts hown hg hC fb_3_0 k10.2 mk_f_RX11_277 dX11_lean_43 ?_
        refine lo_aload (r := hpR h (ad (hpR h o 9)) (x4).toNatClampNeg) hx hb dX11_lean_46 (lo_at hl 0 rfl) ?_
        refine rf_1 k10.1 ?_
        refine r_getR hx hb hts hown hg hC fb_3_1 k10.2 mk_f_RX11_281 dX11_lean_48 ?_
        refine lv_iconst (v := 1) hx hb dX11_lean_51 (by decide) ?_
        refine lv_aload_n hx hb dX11_lean_52 rfl (lo_at hl 1 rfl) ?_
        refine r_getR hx hb hts hown hg hC fb_9_15 k5 mk_f_RX11_69 dX11_lean_53 ?_
        obtain ⟨k11, hw⟩ := hw
        refine rf_5 k11.1 ?_
        refine res_i hC (run_V (As := [va_rf (hpR h (ad (hpR h (ad (hpR h o 9)) (x4).toNatClampNeg)) 0), va_rf (hpR h (ad (hpR h (ad (hpR h o 9)) (x4).toNatClampNeg)) 1), .int ((1 : Int32)), va_rf (hpR h o 15)]) (rest := []) hM hC hl.1.1 kv_RX11_237 (c_X3_sayingOf l G base (ad r2) (hpR h (ad (hpR h (ad (hpR h o 9)) (x4).toNatClampNeg)) 0) (hpR h (ad (hpR h (ad (hpR h o 9)) (x4).toNatClampNeg)) 1) (1 : Int32) (hpR h o 15) h _ hw) (hc_2) k11.2 rfl rfl rfl ⟨Nat.le_of_ble_eq_true rfl, Nat.le_of_ble_eq_true rfl⟩ (Nat.le_of_ble_eq_true rfl) ⟨Nat.le_of_ble_eq_true rfl, Nat.le_of_ble_eq_true rfl⟩ dX11_lean_56) (fun z13 h12 H locs hw hC => ?_)
        refine lo_aload_n (r := r2) hx hb dX11_lean_59 rfl (lo_at hl 2 rfl) ?_
        refine lo_aload (r := hpR h (ad (hpR h o 9)) (x4).toNatClampNeg) hx hb dX11_lean_60 (lo_at hl 0 rfl) ?_
        obtain ⟨k14, hw⟩ := hw
        refine rf_1 k14.1 ?_
        refine r_getR hx hb hts hown hg hC fb_3_0 k14.2 mk_f_RX11_277 dX11_lean_62 ?_
        refine lo_aload (r := hpR h (ad (hpR h o 9)) (x4).toNatClampNeg) hx hb dX11_lean_65 (lo_at hl 0 rfl) ?_
        refine rf_1 k14.1 ?_
        refine r_getR hx hb hts hown hg hC fb_3_1 k14.2 mk_f_RX11_281 dX11_lean_67 ?_
        refine lv_iconst (v := 0) hx hb dX11_lean_70 (by decide) ?_
        refine lv_aload_n hx hb dX11_lean_71 rfl (lo_at hl 1 rfl) ?_
        obtain ⟨k15, hw⟩ := hw
        refine r_getR hx hb hts hown hg hC fb_9_15 k15 mk_f_RX11_69 dX11_lean_72 ?_
        obtain ⟨k16, hw⟩ := hw
        refine rf_5 k16.1 ?_
        refine res_i hC (run_V (As := [va_rf (hpR h12 (ad (hpR h (ad (hpR h o 9)) (x4).toNatClampNeg)) 0), va_rf (hpR h12 (ad (hpR h (ad (hpR h o 9)) (x4).toNatClampNeg)) 1), .int ((0 : Int32)), va_rf (hpR h12 o 15)]) (rest := [.int z13]) hM hC hl.1.1 kv_RX11_237 (c_X3_sayingOf l G base (ad r2) (hpR h12 (ad (hpR h (ad (hpR h o 9)) (x4).toNatClampNeg)) 0) (hpR h12 (ad (hpR h (ad (hpR h o 9)) (x4).toNatClampNeg)) 1) (0 : Int32) (hpR h12 o 15) h12 _ hw) (hc_2) k16.2 rfl rfl rfl ⟨Nat.le_of_ble_eq_true rfl, Nat.le_of_ble_eq_true rfl⟩ (Nat.le_of_ble_eq_true rfl) ⟨Nat.le_of_ble_eq_true rfl, Nat.le_of_ble_eq_true rfl⟩ dX11_lean_75) (fun z18 h17 H locs hw hC => ?_)
        refine lv_icmp_eq (tgt := 84) hx hb dX11_lean_78 (by decide) (fun c19 => ?_) (fun c19 => ?_)
        ·
          replace hw := (if_pos c19).mp hw
          obtain ⟨v20, ev20⟩ : ∃ y : Int32, y = x4 + (1 : Int32) := ⟨_, rfl⟩
          replace hw := hw v20 ev20
          refine lo_iinc (v := v20) (lv' := [(4, .int v20), (5, va_rf (hpR h (ad (hpR h o 9)) (x4).toNatClampNeg)), (0, .ref o), (2, va_rf r2), (3, .int x3)]) hx hb dX11_lean_84 hl (k := 4) rfl (by rw [ev20]; rfl) (by decide) rfl (fun ls hl => ?_)
          refine lv_goto (tgt := 17) hx hb dX11_lean_87 (by decide) ?_
          exact ih x3 v20 h17 H locs ls hC (lo_sub hl [2, 3, 4, 0] rfl) hw
        ·
          replace hw := (if_neg c19).mp hw
          obtain ⟨v21, ev21⟩ : ∃ y : Int32, y = x3 + (1 : Int32) := ⟨_, rfl⟩
          replace hw := hw v21 ev21
          refine lo_iinc (v := v21) (lv' := [(3, .int v21), (5, va_rf (hpR h (ad (hpR h o 9)) (x4).toNatClampNeg)), (0, .ref o), (2, va_rf r2), (4, .int x4)]) hx hb dX11_lean_81 hl (k := 3) rfl (by rw [ev21]; rfl) (by decide) rfl (fun ls hl => ?_)
          obtain ⟨v22, ev22⟩ : ∃ y : Int32, y = x4 + (1 : Int32) := ⟨_, rfl⟩
          replace hw := hw v22 ev22
          refine lo_iinc (v := v22) (lv' := [(4, .int v22), (3, .int v21), (5, va_rf (hpR h (ad (hpR h o 9)) (x4).toNatClampNeg)), (0, .ref o), (2, va_rf r2)]) hx hb dX11_lean_84 hl (k := 4) rfl (by rw [ev22]; rfl) (by decide) rfl (fun ls hl => ?_)
          refine lv_goto (tgt := 17) hx hb dX11_lean_87 (by decide) ?_
          exact ih v21 v22 h17 H locs ls hC (lo_sub hl [3, 4, 1, 0] rfl) hw
set_option maxHeartbeats 4000000 in
set_option maxRecDepth 100000 in
theorem c_X11_lean (l : Launch) (G : GG) (base : Nat) (o : Nat) (x1 : Int32) (h : Hp) (Q : Int32 → Hp → Prop) (hw : wp_X11_lean o x1 h Q) : Met l yX11_lean (ww yX11_lean cX11_lean 6 (some .int)) rm_X11_lean (va_Pc [.ref o, .int x1] (PU G base h)) (va_Qi Q (PU G base) (fun q => base ≤ q)) 0 0 (fun q => base ≤ q) := by
  refine met_of (own := RX11) (nm := "lean") (by decide) rfl rfl (List.forall_mem_cons.mpr ⟨rfl, (List.forall_mem_cons.mpr ⟨rfl, (fun _ h => absurd h List.not_mem_nil)⟩)⟩) (Nat.le_of_ble_eq_true rfl) rfl ?_
  intro p e s m below meth c ls hM hC hl
  obtain ⟨hx, hb, hr, hml, hown, hts, hg, hs, hlk, hnm⟩ := id hM
  obtain ⟨args, hargs⟩ : ∃ a : Array Value, a = ([.ref o, .int x1] : List Value).toArray := ⟨_, rfl⟩
  rw [← hargs] at hM hts ⊢
  obtain ⟨H, hH⟩ : ∃ H : Heap, H = s.heap := ⟨_, rfl⟩
  obtain ⟨locs, hlocs⟩ : ∃ x : List Loc, x = [] := ⟨_, rfl⟩
  have hC : Cx G base h s.heap H locs := by rw [hH, hlocs]; exact hC
  show W p l e rm_X11_lean s m args below meth c s.heap [] 0 0 (MQ below (va_Qi Q (PU G base) (fun q => base ≤ q)) args s 0 0 (fun q => base ≤ q)) (F0 m 0 ls [])
  rw [← hlocs]
  have hgoal : W p l e rm_X11_lean s m args below meth c H locs 0 0 (MQ below (va_Qi Q (PU G base) (fun q => base ≤ q)) args s 0 0 (fun q => base ≤ q)) (F0 m 0 ls []) := ?_
  · rw [hH] at hgoal; exact hgoal
  clear hH hlocs
  unfold wp_X11_lean at hw
  refine lv_aload_n hx hb dX11_lean_0 rfl (lo_at hl 0 rfl) ?_
  refine lv_iload_n hx hb dX11_lean_1 rfl (lo_at hl 1 rfl) ?_
  obtain ⟨k1, hw⟩ := hw
  refine res_q hC (run_V (As := [.int x1]) (rest := []) hM hC hl.1.1 kv_RX11_144 (c_X11_lookerAt l G base o x1 h _ hw) (hc_9) k1 rfl rfl rfl ⟨Nat.le_of_ble_eq_true rfl, Nat.le_of_ble_eq_true rfl⟩ (Nat.le_of_ble_eq_true rfl) ⟨Nat.le_of_ble_eq_true rfl, Nat.le_of_ble_eq_true rfl⟩ dX11_lean_2) (fun z3 h2 H locs hw hC => ?_)
  refine lo_astore_n (r := z3) (lv' := [(2, va_rf z3), (0, .ref o), (1, .int x1)]) hx hb dX11_lean_5 rfl hl (by decide) rfl (fun ls hl => ?_)
  refine lo_aload_n (r := z3) hx hb dX11_lean_6 rfl (lo_at hl 0 rfl) ?_
  refine lo_ifnonnull (r := z3) (tgt := 12) hx hb dX11_lean_7 (by decide) (fun c4 => ?_) (fun c4 => ?_)
  ·
    replace hw := (if_neg c4).mp hw
    refine lv_iconst (v := 0) hx hb dX11_lean_12 (by decide) ?_
    refine lo_istore_n (lv' := [(3, .int ((0 : Int32))), (2, va_rf z3), (0, .ref o), (1, .int x1)]) hx hb dX11_lean_13 rfl hl (by decide) rfl (fun ls hl => ?_)
    refine lv_iconst (v := 0) hx hb dX11_lean_14 (by decide) ?_
    refine lo_istore (lv' := [(4, .int ((0 : Int32))), (3, .int ((0 : Int32))), (2, va_rf z3), (0, .ref o), (1, .int x1)]) hx hb dX11_lean_15 hl (by decide) rfl (fun ls hl => ?_)
    refine t_X11_lean_L17 hM o z3 _ Q ?_ fuel (0 : Int32) (0 : Int32) h2 H locs ls hC (lo_sub hl [3, 2, 1, 0] rfl) hw
    intro y24 h23 H locs ls hC hl hw
    refine lv_iload_n hx hb dX11_lean_90 rfl (lo_at hl 0 rfl) ?_
    exact ret_i hM hC hw dX11_lean_91
  ·
    replace hw := (if_pos c4).mp hw
    refine lv_iconst (v := -1) hx hb dX11_lean_10 (by decide) ?_
    exact ret_i hM hC hw dX11_lean_11
abbrev rm_X11_gradeOf : Room := { frames := 6, cells := 0, slots := 0, locals := 169 }
def wp_X11_gradeOf_J77 (s0 : Int32) (s1 : Int32) (Q : Int32 → Hp → Prop) (h : Hp) : Prop := (if s1 = s0 then (Q (0 : Int32) h) else (Q (1 : Int32) h))
def wp_X11_gradeOf_J67 (x4 : Int32) (s0 : Int32) (Q : Int32 → Hp → Prop) (h : Hp) : Prop := (if x4 = 0 then (wp_X11_gradeOf_J77 (1 : Int32) s0 Q h) else (wp_X11_gradeOf_J77 (0 : Int32) s0 Q h))
def wp_X11_gradeOf_J19 (o : Nat) (r1 : Option Nat) (r2 : Option Nat) (x3 : Int32) (s0 : Int32) (Q : Int32 → Hp → Prop) (h : Hp) : Prop := (if s0 = (-1 : Int32) then (Q (-1 : Int32) h) else (okO h r2 3 ∧ (((hpK h o).1 = 20 + 9) ∧ (okO h r1 2 ∧ (wp_X3_sayingOf (ad r1) (hpR h (ad r2) 0) (hpR h (ad r2) 1) x3 (hpR h o 15) h (fun (z10 : Int32) (h9 : Hp) => (if z10 = (2 : Int32) then (Q (2 : Int32) h9) else ((if z10 = (1 : Int32) then (wp_X11_gradeOf_J67 s0 (1 : Int32) Q h9) else (wp_X11_gradeOf_J67 s0 (0 : Int32) Q h9))))))))))
def wp_X11_gradeOf (o : Nat) (r1 : Option Nat) (r2 : Option Nat) (x3 : Int32) (h : Hp) (Q : Int32 → Hp → Prop) : Prop := (if r2 = none then (wp_X11_gradeOf_J19 o r1 r2 x3 (-1 : Int32) Q h) else (okO h r2 3 ∧ (wp_X11_truthOf (hpR h (ad r2) 0) (hpR h (ad r2) 1) h (fun (z4 : Int32) (h3 : Hp) => wp_X11_gradeOf_J19 o r1 r2 x3 z4 Q h3))))
set_option maxHeartbeats 4000000 in
set_option maxRecDepth 100000 in
theorem t_X11_gradeOf_J77 {p : Program} {l : Launch} {e : Env} {s : State} {m : MethodId} {args : Array Value} {below : List Frame} {meth : Method} {c : Code} {G : GG} {base : Nat} (hM : Mx G base p s m args meth c cX11_gradeOf 6 (some .int) RX11 "gradeOf") (s0 : Int32) (s1 : Int32) (Q : Int32 → Hp → Prop) (h : Hp) (H : Heap) (locs : List Loc) (ls : Array Slot) : Cx G base h s.heap H locs → lo_has ls 6 [] → wp_X11_gradeOf_J77 s0 s1 Q h → W p l e rm_X11_gradeOf s m args below meth c H locs 0 0 (MQ below (va_Qi Q (PU G base) (fun q => base ≤ q)) args s 0 0 (fun q => base ≤ q)) (F0 m 77 ls [.int s0, .int s1]) := by
  intro hC hl hw
  unfold wp_X11_gradeOf_J77 at hw
  obtain ⟨hx, hb, hr, hml, hown, hts, hg, hs, hlk, hnm⟩ := id hM
  refine lv_icmp_ne (tgt := 84) hx hb dX11_gradeOf_77 (by decide) (fun c14 => ?_) (fun c14 => ?_)
  ·
    replace hw := (if_neg c14).mp hw
    refine lv_iconst (v := 1) hx hb dX11_gradeOf_84 (by decide) ?_
    exact ret_i hM hC hw dX11_gradeOf_85
  ·
    replace hw := (if_pos c14).mp hw
    refine lv_iconst (v := 0) hx hb dX11_gradeOf_80 (by decide) ?_
    refine lv_goto (tgt := 85) hx hb dX11_gradeOf_81 (by decide) ?_
    exact ret_i hM hC hw dX11_gradeOf_85
set_option maxHeartbeats 4000000 in
set_option maxRecDepth 100000 in
theorem t_X11_gradeOf_J67 {p : Program} {l : Launch} {e : Env} {s : State} {m : MethodId} {args : Array Value} {below : List Frame} {meth : Method} {c : Code} {G : GG} {base : Nat} (hM : Mx G base p s m args meth c cX11_gradeOf 6 (some .int) RX11 "gradeOf") (x4 : Int32) (s0 : Int32) (Q : Int32 → Hp → Prop) (h : Hp) (H : Heap) (locs : List Loc) (ls : Array Slot) : Cx G base h s.heap H locs → lo_has ls 6 [(4, .int x4)] → wp_X11_gradeOf_J67 x4 s0 Q h → W p l e rm_X11_gradeOf s m args below meth c H locs 0 0 (MQ below (va_Qi Q (PU G base) (fun q => base ≤ q)) args s 0 0 (fun q => base ≤ q)) (F0 m 67 ls [.int s0]) := by
  intro hC hl hw
  unfold wp_X11_gradeOf_J67 at hw
  obtain ⟨hx, hb, hr, hml, hown, hts, hg, hs, hlk, hnm⟩ := id hM
  refine lv_iload hx hb dX11_gradeOf_67 (lo_at hl 0 rfl) ?_
  refine lv_if_ne (tgt := 76) hx hb dX11_gradeOf_69 (by decide) (fun c13 => ?_) (fun c13 => ?_)
  ·
    replace hw := (if_neg c13).mp hw
    refine lv_iconst (v := 0) hx hb dX11_gradeOf_76 (by decide) ?_
    exact t_X11_gradeOf_J77 hM (0 : Int32) s0 Q  h H locs ls hC (lo_sub hl [] rfl) hw
  ·
    replace hw := (if_pos c13).mp hw
    refine lv_iconst (v := 1) hx hb dX11_gradeOf_72 (by decide) ?_
    refine lv_goto (tgt := 77) hx hb dX11_gradeOf_73 (by decide) ?_
    exact t_X11_gradeOf_J77 hM (1 : Int32) s0 Q  h H locs ls hC (lo_sub hl [] rfl) hw
set_option maxHeartbeats 4000000 in
set_option maxRecDepth 100000 in
theorem t_X11_gradeOf_J19 {p : Program} {l : Launch} {e : Env} {s : State} {m : MethodId} {args : Array Value} {below : List Frame} {meth : Method} {c : Code} {G : GG} {base : Nat} (hM : Mx G base p s m args meth c cX11_gradeOf 6 (some .int) RX11 "gradeOf") (o : Nat) (r1 : Option Nat) (r2 : Option Nat) (x3 : Int32) (s0 : Int32) (Q : Int32 → Hp → Prop) (h : Hp) (H : Heap) (locs : List Loc) (ls : Array Slot) : Cx G base h s.heap H locs → lo_has ls 6 [(0, .ref o), (1, va_rf r1), (2, va_rf r2), (3, .int x3)] → wp_X11_gradeOf_J19 o r1 r2 x3 s0 Q h → W p l e rm_X11_gradeOf s m args below meth c H locs 0 0 (MQ below (va_Qi Q (PU G base) (fun q => base ≤ q)) args s 0 0 (fun q => base ≤ q)) (F0 m 19 ls [.int s0]) := by
  intro hC hl hw
  unfold wp_X11_gradeOf_J19 at hw
  obtain ⟨hx, hb, hr, hml, hown, hts, hg, hs, hlk, hnm⟩ := id hM
  refine lo_istore (lv' := [(4, .int s0), (0, .ref o), (1, va_rf r1), (2, va_rf r2), (3, .int x3)]) hx hb dX11_gradeOf_19 hl (by decide) rfl (fun ls hl => ?_)
  refine lv_iload hx hb dX11_gradeOf_21 (lo_at hl 0 rfl) ?_
  refine lv_iconst (v := -1) hx hb dX11_gradeOf_23 (by decide) ?_
  refine lv_icmp_ne (tgt := 29) hx hb dX11_gradeOf_24 (by decide) (fun c5 => ?_) (fun c5 => ?_)
  ·
    replace hw := (if_neg c5).mp hw
    refine lo_aload_n (r := r1) hx hb dX11_gradeOf_29 rfl (lo_at hl 2 rfl) ?_
    refine lo_aload_n (r := r2) hx hb dX11_gradeOf_30 rfl (lo_at hl 3 rfl) ?_
    obtain ⟨k6, hw⟩ := hw
    refine rf_1 k6.1 ?_
    refine r_getR hx hb hts hown hg hC fb_3_0 k6.2 mk_f_RX11_277 dX11_gradeOf_31 ?_
    refine lo_aload_n (r := r2) hx hb dX11_gradeOf_34 rfl (lo_at hl 3 rfl) ?_
    refine rf_1 k6.1 ?_
    refine r_getR hx hb hts hown hg hC fb_3_1 k6.2 mk_f_RX11_281 dX11_gradeOf_35 ?_
    refine lv_iload_n hx hb dX11_gradeOf_38 rfl (lo_at hl 4 rfl) ?_
    refine lv_aload_n hx hb dX11_gradeOf_39 rfl (lo_at hl 1 rfl) ?_
    obtain ⟨k7, hw⟩ := hw
    refine r_getR hx hb hts hown hg hC fb_9_15 k7 mk_f_RX11_69 dX11_gradeOf_40 ?_
    obtain ⟨k8, hw⟩ := hw
    refine rf_5 k8.1 ?_
    refine res_i hC (run_V (As := [va_rf (hpR h (ad r2) 0), va_rf (hpR h (ad r2) 1), .int x3, va_rf (hpR h o 15)]) (rest := []) hM hC hl.1.1 kv_RX11_237 (c_X3_sayingOf l G base (ad r1) (hpR h (ad r2) 0) (hpR h (ad r2) 1) x3 (hpR h o 15) h _ hw) (hc_2) k8.2 rfl rfl rfl ⟨Nat.le_of_ble_eq_true rfl, Nat.le_of_ble_eq_true rfl⟩ (Nat.le_of_ble_eq_true rfl) ⟨Nat.le_of_ble_eq_true rfl, Nat.le_of_ble_eq_true rfl⟩ dX11_gradeOf_43) (fun z10 h9 H locs hw hC => ?_)
    refine lo_istore (lv' := [(5, .int z10), (4, .int s0), (0, .ref o), (1, va_rf r1), (2, va_rf r2), (3, .int x3)]) hx hb dX11_gradeOf_46 hl (by decide) rfl (fun ls hl => ?_)
    refine lv_iload hx hb dX11_gradeOf_48 (lo_at hl 0 rfl) ?_
    refine lv_iconst (v := 2) hx hb dX11_gradeOf_50 (by decide) ?_
    refine lv_icmp_ne (tgt := 56) hx hb dX11_gradeOf_51 (by decide) (fun c11 => ?_) (fun c11 => ?_)
    ·
      replace hw := (if_neg c11).mp hw
      refine lv_iload hx hb dX11_gradeOf_56 (lo_at hl 0 rfl) ?_
      refine lv_iconst (v := 1) hx hb dX11_gradeOf_58 (by decide) ?_
      refine lv_icmp_ne (tgt := 66) hx hb dX11_gradeOf_59 (by decide) (fun c12 => ?_) (fun c12 => ?_)
      ·
        replace hw := (if_neg c12).mp hw
        refine lv_iconst (v := 0) hx hb dX11_gradeOf_66 (by decide) ?_
        exact t_X11_gradeOf_J67 hM s0 (0 : Int32) Q  h9 H locs ls hC (lo_sub hl [1] rfl) hw
      ·
        replace hw := (if_pos c12).mp hw
        refine lv_iconst (v := 1) hx hb dX11_gradeOf_62 (by decide) ?_
        refine lv_goto (tgt := 67) hx hb dX11_gradeOf_63 (by decide) ?_
        exact t_X11_gradeOf_J67 hM s0 (1 : Int32) Q  h9 H locs ls hC (lo_sub hl [1] rfl) hw
    ·
      replace hw := (if_pos c11).mp hw
      refine lv_iconst (v := 2) hx hb dX11_gradeOf_54 (by decide) ?_
      exact ret_i hM hC hw dX11_gradeOf_55
  ·
    replace hw := (if_pos c5).mp hw
    refine lv_iconst (v := -1) hx hb dX11_gradeOf_27 (by decide) ?_
    exact ret_i hM hC hw dX11_gradeOf_28
set_option maxHeartbeats 4000000 in
set_option maxRecDepth 100000 in
theorem c_X11_gradeOf (l : Launch) (G : GG) (base : Nat) (o : Nat) (r1 : Option Nat) (r2 : Option Nat) (x3 : Int32) (h : Hp) (Q : Int32 → Hp → Prop) (hw : wp_X11_gradeOf o r1 r2 x3 h Q) : Met l yX11_gradeOf (ww yX11_gradeOf cX11_gradeOf 6 (some .int)) rm_X11_gradeOf (va_Pc [.ref o, va_rf r1, va_rf r2, .int x3] (PU G base h)) (va_Qi Q (PU G base) (fun q => base ≤ q)) 0 0 (fun q => base ≤ q) := by
  refine met_of (own := RX11) (nm := "gradeOf") (by decide) rfl rfl (List.forall_mem_cons.mpr ⟨rfl, (List.forall_mem_cons.mpr ⟨va_rf_cat _, (List.forall_mem_cons.mpr ⟨va_rf_cat _, (List.forall_mem_cons.mpr ⟨rfl, (fun _ h => absurd h List.not_mem_nil)⟩)⟩)⟩)⟩) (Nat.le_of_ble_eq_true rfl) rfl ?_
  intro p e s m below meth c ls hM hC hl
  obtain ⟨hx, hb, hr, hml, hown, hts, hg, hs, hlk, hnm⟩ := id hM
  obtain ⟨args, hargs⟩ : ∃ a : Array Value, a = ([.ref o, va_rf r1, va_rf r2, .int x3] : List Value).toArray := ⟨_, rfl⟩
  rw [← hargs] at hM hts ⊢
  obtain ⟨H, hH⟩ : ∃ H : Heap, H = s.heap := ⟨_, rfl⟩
  obtain ⟨locs, hlocs⟩ : ∃ x : List Loc, x = [] := ⟨_, rfl⟩
  have hC : Cx G base h s.heap H locs := by rw [hH, hlocs]; exact hC
  show W p l e rm_X11_gradeOf s m args below meth c s.heap [] 0 0 (MQ below (va_Qi Q (PU G base) (fun q => base ≤ q)) args s 0 0 (fun q => base ≤ q)) (F0 m 0 ls [])
  rw [← hlocs]
  have hgoal : W p l e rm_X11_gradeOf s m args below meth c H locs 0 0 (MQ below (va_Qi Q (PU G base) (fun q => base ≤ q)) args s 0 0 (fun q => base ≤ q)) (F0 m 0 ls []) := ?_
  · rw [hH] at hgoal; exact hgoal
  clear hH hlocs
  unfold wp_X11_gradeOf at hw
  refine lo_aload_n (r := r2) hx hb dX11_gradeOf_0 rfl (lo_at hl 2 rfl) ?_
  refine lo_ifnonnull (r := r2) (tgt := 8) hx hb dX11_gradeOf_1 (by decide) (fun c1 => ?_) (fun c1 => ?_)
  ·
    replace hw := (if_neg c1).mp hw
    refine lo_aload_n (r := r2) hx hb dX11_gradeOf_8 rfl (lo_at hl 2 rfl) ?_
    obtain ⟨k2, hw⟩ := hw
    refine rf_1 k2.1 ?_
    refine r_getR hx hb hts hown hg hC fb_3_0 k2.2 mk_f_RX11_277 dX11_gradeOf_9 ?_
    refine lo_aload_n (r := r2) hx hb dX11_gradeOf_12 rfl (lo_at hl 2 rfl) ?_
    refine rf_1 k2.1 ?_
    refine r_getR hx hb hts hown hg hC fb_3_1 k2.2 mk_f_RX11_281 dX11_gradeOf_13 ?_
    refine res_i hC (run_S (As := [va_rf (hpR h (ad r2) 0), va_rf (hpR h (ad r2) 1)]) (rest := []) hM hC hl.1.1 kv_RX11_241 (c_X11_truthOf l G base (hpR h (ad r2) 0) (hpR h (ad r2) 1) h _ hw) rfl rfl rfl ⟨Nat.le_of_ble_eq_true rfl, Nat.le_of_ble_eq_true rfl⟩ (Nat.le_of_ble_eq_true rfl) ⟨Nat.le_of_ble_eq_true rfl, Nat.le_of_ble_eq_true rfl⟩ dX11_gradeOf_16) (fun z4 h3 H locs hw hC => ?_)
    exact t_X11_gradeOf_J19 hM o r1 r2 x3 z4 Q  h3 H locs ls hC (lo_sub hl [0, 1, 2, 3] rfl) hw
  ·
    replace hw := (if_pos c1).mp hw
    refine lv_iconst (v := -1) hx hb dX11_gradeOf_4 (by decide) ?_
    refine lv_goto (tgt := 19) hx hb dX11_gradeOf_5 (by decide) ?_
    exact t_X11_gradeOf_J19 hM o r1 r2 x3 (-1 : Int32) Q  h H locs ls hC (lo_sub hl [0, 1, 2, 3] rfl) hw
abbrev rm_X11_markMisled : Room := { frames := 7, cells := 0, slots := 0, locals := 194 }
def wp_X11_markMisled_L14 (o : Nat) (x1 : Int32) (K61 : Int32 → Hp → Prop) (Q : Hp → Prop) : Nat → Int32 → Int32 → Hp → Prop
  | 0, _, _, _ => False
  | n + 1, x2, x3, h => (if (6 : Int32) ≤ x3 then (K61 x2 h) else (((hpK h o).1 = 20 + 9) ∧ (wp_X11_lookerAt o x3 h (fun (z6 : Option Nat) (h5 : Hp) => (if z6 = none then (∀ v8 : Int32, v8 = x3 + (1 : Int32) → (wp_X11_markMisled_L14 o x1 K61 Q n x2 v8 h5)) else (((hpK h5 o).1 = 20 + 9) ∧ (okA h5 (hpR h5 o 9) 6 x1 ∧ (wp_X11_gradeOf o z6 (hpR h5 (ad (hpR h5 o 9)) (x1).toNatClampNeg) (0 : Int32) h5 (fun (z12 : Int32) (h11 : Hp) => (if z12 = (1 : Int32) then (∀ v15 : Int32, v15 = x2 ||| ((1 : Int32) <<< (x3 &&& 31)) → (∀ v16 : Int32, v16 = x3 + (1 : Int32) → (wp_X11_markMisled_L14 o x1 K61 Q n v15 v16 h11))) else (∀ v14 : Int32, v14 = x3 + (1 : Int32) → (wp_X11_markMisled_L14 o x1 K61 Q n x2 v14 h11))))))))))))
def wp_X11_markMisled_L2 (o : Nat) (K77 : Hp → Prop) (Q : Hp → Prop) : Nat → Int32 → Hp → Prop
  | 0, _, _ => False
  | n + 1, x1, h => ((hpK h o).1 = 20 + 9) ∧ ((if (hpI h o 10) ≤ x1 then (K77 h) else (wp_X11_markMisled_L14 o x1 (fun (y18 : Int32) (h17 : Hp) => ((hpK h17 o).1 = 20 + 9) ∧ (okO h17 (hpR h17 o 15) 8 ∧ (okA h17 (hpR h17 (ad (hpR h17 o 15)) 4) 1 x1 ∧ (∀ h22 : Hp, h22 = stI h17 (ad (hpR h17 (ad (hpR h17 o 15)) 4)) (x1).toNatClampNeg y18 → (∀ v23 : Int32, v23 = x1 + (1 : Int32) → (wp_X11_markMisled_L2 o K77 Q n v23 h22)))))) Q fuel (0 : Int32) (0 : Int32) h)))
def wp_X11_markMisled (o : Nat) (h : Hp) (Q : Hp → Prop) : Prop := wp_X11_markMisled_L2 o (fun (h24 : Hp) => Q h24) Q fuel (0 : Int32) h
set_option maxHeartbeats 4000000 in
set_option maxRecDepth 100000 in
theorem t_X11_markMisled_L14 {p : Program} {l : Launch} {e : Env} {s : State} {m : MethodId} {args : Array Value} {below : List Frame} {meth : Method} {c : Code} {G : GG} {base : Nat} (hM : Mx G base p s m args meth c cX11_markMisled 5 none RX11 "markMisled") (o : Nat) (x1 : Int32) (K61 : Int32 → Hp → Prop) (Q : Hp → Prop) (hK61 : ∀ (y2 : Int32) (h : Hp) (H : Heap) (locs : List Loc) (ls : Array Slot), Cx G base h s.heap H locs → lo_has ls 5 [(0, .ref o), (1, .int x1), (2, .int y2)] → K61 y2 h → W p l e rm_X11_markMisled s m args below meth c H locs 0 0 (MQ below (va_Qv Q (PU G base) (fun q => base ≤ q)) args s 0 0 (fun q => base ≤ q)) (F0 m 61 ls [])) : ∀ (n : Nat) (x2 : Int32) (x3 : Int32) (h : Hp) (H : Heap) (locs : List Loc) (ls : Array Slot), Cx G base h s.heap H locs → lo_has ls 5 [(0, .ref o), (1, .int x1), (2, .int x2), (3, .int x3)] → wp_X11_markMisled_L14 o x1 K61 Q n x2 x3 h → W p l e rm_X11_markMisled s m args below meth c H locs 0 0 (MQ below (va_Qv Q (PU G base) (fun q => base ≤ q)) args s 0 0 (fun q => base ≤ q)) (F0 m 14 ls []) := by
  intro n
  induction n with
  | zero =>
    intro x2 x3 h H locs ls hC hl hw
    rw [wp_X11_markMisled_L14] at hw
    exact hw.elim
  | succ n ih =>
    intro x2 x3 h H locs ls hC hl hw
    rw [wp_X11_markMisled_L14] at hw
    obtain ⟨hx, hb, hr, hml, hown, hts, hg, hs, hlk, hnm⟩ := id hM
    refine lv_iload_n hx hb dX11_markMisled_14 rfl (lo_at hl 3 rfl) ?_
    refine lv_bipush (v := 6) hx hb dX11_markMisled_15 (by decide) ?_
    refine lv_icmp_ge (tgt := 61) hx hb dX11_markMisled_17 (by decide) (fun c3 => ?_) (fun c3 => ?_)
    ·
      replace hw := (if_pos c3).mp hw
      exact hK61 x2 h H locs ls hC (lo_sub hl [0, 1, 2] rfl) hw
    ·
      replace hw := (if_neg c3).mp hw
      refine lv_aload_n hx hb dX11_markMisled_20 rfl (lo_at hl 0 rfl) ?_
      refine lv_iload_n hx hb dX11_markMisled_21 rfl (lo_at hl 3 rfl) ?_
      obtain ⟨k4, hw⟩ := hw
      refine res_q hC (run_V (As := [.int x3]) (rest := []) hM hC hl.1.1 kv_RX11_144 (c_X11_lookerAt l G base o x3 h _ hw) (hc_9) k4 rfl rfl rfl ⟨Nat.le_of_ble_eq_true rfl, Nat.le_of_ble_eq_true rfl⟩ (Nat.le_of_ble_eq_true rfl) ⟨Nat.le_of_ble_eq_true rfl, Nat.le_of_ble_eq_true rfl⟩ dX11_markMisled_22) (fun z6 h5 H locs hw hC => ?_)
      refine lo_astore (r := z6) (lv' := [(4, va_rf z6), (0, .ref o), (1, .int x1), (2, .int x2), (3, .int x3)]) hx hb dX11_markMisled_25 hl (by decide) rfl (fun ls hl => ?_)
      refine lo_aload (r := z6) hx hb dX11_markMisled_27 (lo_at hl 0 rfl) ?_
      refine lo_ifnull (r := z6) (tgt := 55) hx hb dX11_markMisled_29 (by decide) (fun c7 => ?_) (fun c7 => ?_)
      ·
        replace hw := (if_pos c7).mp hw
        obtain ⟨v8, ev8⟩ : ∃ y : Int32, y = x3 + (1 : Int32) := ⟨_, rfl⟩
        replace hw := hw v8 ev8
        refine lo_iinc (v := v8) (lv' := [(3, .int v8), (4, va_rf z6), (0, .ref o), (1, .int x1), (2, .int x2)]) hx hb dX11_markMisled_55 hl (k := 4) rfl (by rw [ev8]; rfl) (by decide) rfl (fun ls hl => ?_)
        refine lv_goto (tgt := 14) hx hb dX11_markMisled_58 (by decide) ?_
        exact ih x2 v8 h5 H locs ls hC (lo_sub hl [2, 3, 4, 0] rfl) hw
      ·
        replace hw := (if_neg c7).mp hw
        refine lv_aload_n hx hb dX11_markMisled_32 rfl (lo_at hl 1 rfl) ?_
        refine lo_aload (r := z6) hx hb dX11_markMisled_33 (lo_at hl 0 rfl) ?_
        refine lv_aload_n hx hb dX11_markMisled_35 rfl (lo_at hl 1 rfl) ?_
        obtain ⟨k9, hw⟩ := hw
        refine r_getR hx hb hts hown hg hC fb_9_9 k9 mk_f_RX11_35 dX11_markMisled_36 ?_
        refine lv_iload_n hx hb dX11_markMisled_39 rfl (lo_at hl 2 rfl) ?_
        obtain ⟨k10, hw⟩ := hw
        refine rf_2 k10.1 ?_
        refine r_aald (kd := 6) (t0 := 5) hx hb hg hC k10.2.1 (by decide) rfl k10.2.2 dX11_markMisled_40 ?_
        refine lv_iconst (v := 0) hx hb dX11_markMisled_41 (by decide) ?_
        refine res_i hC (run_V (As := [va_rf z6, va_rf (hpR h5 (ad (hpR h5 o 9)) (x1).toNatClampNeg), .int ((0 : Int32))]) (rest := []) hM hC hl.1.1 kv_RX11_264 (c_X11_gradeOf l G base o z6 (hpR h5 (ad (hpR h5 o 9)) (x1).toNatClampNeg) (0 : Int32) h5 _ hw) (hc_9) k9 rfl rfl rfl ⟨Nat.le_of_ble_eq_true rfl, Nat.le_of_ble_eq_true rfl⟩ (Nat.le_of_ble_eq_true rfl) ⟨Nat.le_of_ble_eq_true rfl, Nat.le_of_ble_eq_true rfl⟩ dX11_markMisled_42) (fun z12 h11 H locs hw hC => ?_)
        refine lv_iconst (v := 1) hx hb dX11_markMisled_45 (by decide) ?_
        refine lv_icmp_ne (tgt := 55) hx hb dX11_markMisled_46 (by decide) (fun c13 => ?_) (fun c13 => ?_)
        ·
          replace hw := (if_neg c13).mp hw
          obtain ⟨v14, ev14⟩ : ∃ y : Int32, y = x3 + (1 : Int32) := ⟨_, rfl⟩
          replace hw := hw v14 ev14
          refine lo_iinc (v := v14) (lv' := [(3, .int v14), (4, va_rf z6), (0, .ref o), (1, .int x1), (2, .int x2)]) hx hb dX11_markMisled_55 hl (k := 4) rfl (by rw [ev14]; rfl) (by decide) rfl (fun ls hl => ?_)
          refine lv_goto (tgt := 14) hx hb dX11_markMisled_58 (by decide) ?_
          exact ih x2 v14 h11 H locs ls hC (lo_sub hl [2, 3, 4, 0] rfl) hw
        ·
          replace hw := (if_pos c13).mp hw
          refine lv_iload_n hx hb dX11_markMisled_49 rfl (lo_at hl 3 rfl) ?_
          refine lv_iconst (v := 1) hx hb dX11_markMisled_50 (by decide) ?_
          refine lv_iload_n hx hb dX11_markMisled_51 rfl (lo_at hl 4 rfl) ?_
          refine lv_ishl hx hb dX11_markMisled_52 ?_
          refine lv_ior hx hb dX11_markMisled_53 ?_
          refine lv_topi (fun v15 ev15 => ?_)
          replace hw := hw v15 ev15
          refine lo_istore_n (lv' := [(2, .int v15), (4, va_rf z6), (0, .ref o), (1, .int x1), (3, .int x3)]) hx hb dX11_markMisled_54 rfl hl (by decide) rfl (fun ls hl => ?_)
          obtain ⟨v16, ev16⟩ : ∃ y : Int32, y = x3 + (1 : Int32) := ⟨_, rfl⟩
          replace hw := hw v16 ev16
          refine lo_iinc (v := v16) (lv' := [(3, .int v16), (2, .int v15), (4, va_rf z6), (0, .ref o), (1, .int x1)]) hx hb dX11_markMisled_55 hl (k := 4) rfl (by rw [ev16]; rfl) (by decide) rfl (fun ls hl => ?_)
          refine lv_goto (tgt := 14) hx hb dX11_markMisled_58 (by decide) ?_
          exact ih v15 v16 h11 H locs ls hC (lo_sub hl [3, 4, 1, 0] rfl) hw
set_option maxHeartbeats 4000000 in
set_option maxRecDepth 100000 in
theorem t_X11_markMisled_L2 {p : Program} {l : Launch} {e : Env} {s : State} {m : MethodId} {args : Array Value} {below : List Frame} {meth : Method} {c : Code} {G : GG} {base : Nat} (hM : Mx G base p s m args meth c cX11_markMisled 5 none RX11 "markMisled") (o : Nat) (K77 : Hp → Prop) (Q : Hp → Prop) (hK77 : ∀ (h : Hp) (H : Heap) (locs : List Loc) (ls : Array Slot), Cx G base h s.heap H locs → lo_has ls 5 [] → K77 h → W p l e rm_X11_markMisled s m args below meth c H locs 0 0 (MQ below (va_Qv Q (PU G base) (fun q => base ≤ q)) args s 0 0 (fun q => base ≤ q)) (F0 m 77 ls [])) : ∀ (n : Nat) (x1 : Int32) (h : Hp) (H : Heap) (locs : List Loc) (ls : Array Slot), Cx G base h s.heap H locs → lo_has ls 5 [(0, .ref o), (1, .int x1)] → wp_X11_markMisled_L2 o K77 Q n x1 h → W p l e rm_X11_markMisled s m args below meth c H locs 0 0 (MQ below (va_Qv Q (PU G base) (fun q => base ≤ q)) args s 0 0 (fun q => base ≤ q)) (F0 m 2 ls []) := by
  intro n
  induction n with
  | zero =>
    intro x1 h H locs ls hC hl hw
    rw [wp_X11_markMisled_L2] at hw
    exact hw.elim
  | succ n ih =>
    intro x1 h H locs ls hC hl hw
    rw [wp_X11_markMisled_L2] at hw
    obtain ⟨hx, hb, hr, hml, hown, hts, hg, hs, hlk, hnm⟩ := id hM
    refine lv_iload_n hx hb dX11_markMisled_2 rfl (lo_at hl 1 rfl) ?_
    refine lv_aload_n hx hb dX11_markMisled_3 rfl (lo_at hl 0 rfl) ?_
    obtain ⟨k1, hw⟩ := hw
    refine r_getI hx hb hts hown hg hC fb_9_10 k1 mk_f_RX11_258 dX11_markMisled_4 ?_
    refine lv_icmp_ge (tgt := 77) hx hb dX11_markMisled_7 (by decide) (fun c2 => ?_) (fun c2 => ?_)
    ·
      replace hw := (if_pos c2).mp hw
      exact hK77  h H locs ls hC (lo_sub hl [] rfl) hw
    ·
      replace hw := (if_neg c2).mp hw
      refine lv_iconst (v := 0) hx hb dX11_markMisled_10 (by decide) ?_
      refine lo_istore_n (lv' := [(2, .int ((0 : Int32))), (0, .ref o), (1, .int x1)]) hx hb dX11_markMisled_11 rfl hl (by decide) rfl (fun ls hl => ?_)
      refine lv_iconst (v := 0) hx hb dX11_markMisled_12 (by decide) ?_
      refine lo_istore_n (lv' := [(3, .int ((0 : Int32))), (2, .int ((0 : Int32))), (0, .ref o), (1, .int x1)]) hx hb dX11_markMisled_13 rfl hl (by decide) rfl (fun ls hl => ?_)
      refine t_X11_markMisled_L14 hM o x1 _ Q ?_ fuel (0 : Int32) (0 : Int32) h H locs ls hC (lo_sub hl [2, 3, 1, 0] rfl) hw
      intro y18 h17 H locs ls hC hl hw
      refine lv_aload_n hx hb dX11_markMisled_61 rfl (lo_at hl 0 rfl) ?_
      obtain ⟨k19, hw⟩ := hw
      refine r_getR hx hb hts hown hg hC fb_9_15 k19 mk_f_RX11_69 dX11_markMisled_62 ?_
      obtain ⟨k20, hw⟩ := hw
      refine rf_1 k20.1 ?_
      refine r_getR hx hb hts hown hg hC fb_8_4 k20.2 mk_f_RX11_318 dX11_markMisled_65 ?_
      refine lv_iload_n hx hb dX11_markMisled_68 rfl (lo_at hl 1 rfl) ?_
      refine lv_iload_n hx hb dX11_markMisled_69 rfl (lo_at hl 2 rfl) ?_
      obtain ⟨k21, hw⟩ := hw
      refine rf_3 k21.1 ?_
      refine r_iast hx hb hg hC k21.2.1 k21.2.2 dX11_markMisled_70 (fun h22 H locs eh22 hC => ?_)
      replace hw := hw h22 eh22
      obtain ⟨v23, ev23⟩ : ∃ y : Int32, y = x1 + (1 : Int32) := ⟨_, rfl⟩
      replace hw := hw v23 ev23
      refine lo_iinc (v := v23) (lv' := [(1, .int v23), (0, .ref o), (2, .int y18)]) hx hb dX11_markMisled_71 hl (k := 1) rfl (by rw [ev23]; rfl) (by decide) rfl (fun ls hl => ?_)
      refine lv_goto (tgt := 2) hx hb dX11_markMisled_74 (by decide) ?_
      exact ih v23 h22 H locs ls hC (lo_sub hl [1, 0] rfl) hw
set_option maxHeartbeats 4000000 in
set_option maxRecDepth 100000 in
theorem c_X11_markMisled (l : Launch) (G : GG) (base : Nat) (o : Nat) (h : Hp) (Q : Hp → Prop) (hw : wp_X11_markMisled o h Q) : Met l yX11_markMisled (ww yX11_markMisled cX11_markMisled 5 none) rm_X11_markMisled (va_Pc [.ref o] (PU G base h)) (va_Qv Q (PU G base) (fun q => base ≤ q)) 0 0 (fun q => base ≤ q) := by
  refine met_of (own := RX11) (nm := "markMisled") (by decide) rfl rfl (List.forall_mem_cons.mpr ⟨rfl, (fun _ h => absurd h List.not_mem_nil)⟩) (Nat.le_of_ble_eq_true rfl) rfl ?_
  intro p e s m below meth c ls hM hC hl
  obtain ⟨hx, hb, hr, hml, hown, hts, hg, hs, hlk, hnm⟩ := id hM
  obtain ⟨args, hargs⟩ : ∃ a : Array Value, a = ([.ref o] : List Value).toArray := ⟨_, rfl⟩
  rw [← hargs] at hM hts ⊢
  obtain ⟨H, hH⟩ : ∃ H : Heap, H = s.heap := ⟨_, rfl⟩
  obtain ⟨locs, hlocs⟩ : ∃ x : List Loc, x = [] := ⟨_, rfl⟩
  have hC : Cx G base h s.heap H locs := by rw [hH, hlocs]; exact hC
  show W p l e rm_X11_markMisled s m args below meth c s.heap [] 0 0 (MQ below (va_Qv Q (PU G base) (fun q => base ≤ q)) args s 0 0 (fun q => base ≤ q)) (F0 m 0 ls [])
  rw [← hlocs]
  have hgoal : W p l e rm_X11_markMisled s m args below meth c H locs 0 0 (MQ below (va_Qv Q (PU G base) (fun q => base ≤ q)) args s 0 0 (fun q => base ≤ q)) (F0 m 0 ls []) := ?_
  · rw [hH] at hgoal; exact hgoal
  clear hH hlocs
  unfold wp_X11_markMisled at hw
  refine lv_iconst (v := 0) hx hb dX11_markMisled_0 (by decide) ?_
  refine lo_istore_n (lv' := [(1, .int ((0 : Int32))), (0, .ref o)]) hx hb dX11_markMisled_1 rfl hl (by decide) rfl (fun ls hl => ?_)
  refine t_X11_markMisled_L2 hM o _ Q ?_ fuel (0 : Int32) h H locs ls hC (lo_sub hl [1, 0] rfl) hw
  intro  h24 H locs ls hC hl hw
  exact ret_v hM hC hw dX11_markMisled_77
abbrev rm_X11_strengthOf : Room := { frames := 6, cells := 0, slots := 0, locals := 169 }
def wp_X11_strengthOf_L45 (o : Nat) (r1 : Option Nat) (x2 : Int32) (x3 : Int32) (x5 : Int32) (r6 : Option Nat) (K119 : Int32 → Hp → Prop) (Q : Int32 → Hp → Prop) : Nat → Int32 → Int32 → Hp → Prop
  | 0, _, _, _ => False
  | n + 1, x4, x7, h => ((hpK h o).1 = 20 + 9) ∧ ((if (hpI h o 5) ≤ x7 then (K119 x4 h) else (okA h (hpR h o 4) 3 x7 ∧ ((if (hpR h (ad (hpR h o 4)) (x7).toNatClampNeg) = none then (∀ v13 : Int32, v13 = x7 + (1 : Int32) → (wp_X11_strengthOf_L45 o r1 x2 x3 x5 r6 K119 Q n x4 v13 h)) else (wp_X11_isOfScene o x3 x7 h (fun (z15 : Int32) (h14 : Hp) => (if z15 = 0 then (∀ v17 : Int32, v17 = x7 + (1 : Int32) → (wp_X11_strengthOf_L45 o r1 x2 x3 x5 r6 K119 Q n x4 v17 h14)) else (((hpK h14 o).1 = 20 + 9) ∧ (okO h14 r1 2 ∧ (wp_X3_sayingOf (ad r1) r6 (hpR h (ad (hpR h o 4)) (x7).toNatClampNeg) (0 : Int32) (hpR h14 o 15) h14 (fun (z21 : Int32) (h20 : Hp) => (if z21 = (1 : Int32) then (okO h20 r1 2 ∧ (wp_X3_measured (ad r1) r6 (hpR h (ad (hpR h o 4)) (x7).toNatClampNeg) h20 (fun (z26 : Int32) (h25 : Hp) => wp_X2_longest z26 h25 (fun (z28 : Int32) (h27 : Hp) => ∀ v29 : Int32, v29 = (if x4 < z28 then z28 else x4) → (∀ v30 : Int32, v30 = x7 + (1 : Int32) → (wp_X11_strengthOf_L45 o r1 x2 x3 x5 r6 K119 Q n v29 v30 h27)))))) else (∀ v23 : Int32, v23 = x7 + (1 : Int32) → (wp_X11_strengthOf_L45 o r1 x2 x3 x5 r6 K119 Q n x4 v23 h20)))))))))))))))
def wp_X11_strengthOf_L6 (o : Nat) (r1 : Option Nat) (x2 : Int32) (x3 : Int32) (K125 : Int32 → Hp → Prop) (Q : Int32 → Hp → Prop) : Nat → Int32 → Int32 → Hp → Prop
  | 0, _, _, _ => False
  | n + 1, x4, x5, h => ((hpK h o).1 = 20 + 9) ∧ ((if (hpI h o 5) ≤ x5 then (K125 x4 h) else (okA h (hpR h o 4) 3 x5 ∧ ((if (hpR h (ad (hpR h o 4)) (x5).toNatClampNeg) = none then (∀ v5 : Int32, v5 = x5 + (1 : Int32) → (wp_X11_strengthOf_L6 o r1 x2 x3 K125 Q n x4 v5 h)) else (wp_X11_isOfScene o x2 x5 h (fun (z7 : Int32) (h6 : Hp) => (if z7 = 0 then (∀ v34 : Int32, v34 = x5 + (1 : Int32) → (wp_X11_strengthOf_L6 o r1 x2 x3 K125 Q n x4 v34 h6)) else (wp_X11_strengthOf_L45 o r1 x2 x3 x5 (hpR h (ad (hpR h o 4)) (x5).toNatClampNeg) (fun (y32 : Int32) (h31 : Hp) => ∀ v33 : Int32, v33 = x5 + (1 : Int32) → (wp_X11_strengthOf_L6 o r1 x2 x3 K125 Q n y32 v33 h31)) Q fuel x4 (0 : Int32) h6)))))))))
def wp_X11_strengthOf (o : Nat) (r1 : Option Nat) (x2 : Int32) (x3 : Int32) (h : Hp) (Q : Int32 → Hp → Prop) : Prop := wp_X11_strengthOf_L6 o r1 x2 x3 (fun (y36 : Int32) (h35 : Hp) => Q y36 h35) Q fuel (-1 : Int32) (0 : Int32) h
set_option maxHeartbeats 4000000 in
set_option maxRecDepth 100000 in
theorem t_X11_strengthOf_L45 {p : Program} {l : Launch} {e : Env} {s : State} {m : MethodId} {args : Array Value} {below : List Frame} {meth : Method} {c : Code} {G : GG} {base : Nat} (hM : Mx G base p s m args meth c cX11_strengthOf 9 (some .int) RX11 "strengthOf") (o : Nat) (r1 : Option Nat) (x2 : Int32) (x3 : Int32) (x5 : Int32) (r6 : Option Nat) (K119 : Int32 → Hp → Prop) (Q : Int32 → Hp → Prop) (hK119 : ∀ (y4 : Int32) (h : Hp) (H : Heap) (locs : List Loc) (ls : Array Slot), Cx G base h s.heap H locs → lo_has ls 9 [(0, .ref o), (1, va_rf r1), (2, .int x2), (3, .int x3), (4, .int y4), (5, .int x5)] → K119 y4 h → W p l e rm_X11_strengthOf s m args below meth c H locs 0 0 (MQ below (va_Qi Q (PU G base) (fun q => base ≤ q)) args s 0 0 (fun q => base ≤ q)) (F0 m 119 ls [])) : ∀ (n : Nat) (x4 : Int32) (x7 : Int32) (h : Hp) (H : Heap) (locs : List Loc) (ls : Array Slot), Cx G base h s.heap H locs → lo_has ls 9 [(0, .ref o), (1, va_rf r1), (2, .int x2), (3, .int x3), (4, .int x4), (5, .int x5), (6, va_rf r6), (7, .int x7)] → wp_X11_strengthOf_L45 o r1 x2 x3 x5 r6 K119 Q n x4 x7 h → W p l e rm_X11_strengthOf s m args below meth c H locs 0 0 (MQ below (va_Qi Q (PU G base) (fun q => base ≤ q)) args s 0 0 (fun q => base ≤ q)) (F0 m 45 ls []) := by
  intro n
  induction n with
  | zero =>
    intro x4 x7 h H locs ls hC hl hw
    rw [wp_X11_strengthOf_L45] at hw
    exact hw.elim
  | succ n ih =>
    intro x4 x7 h H locs ls hC hl hw
    rw [wp_X11_strengthOf_L45] at hw
    obtain ⟨hx, hb, hr, hml, hown, hts, hg, hs, hlk, hnm⟩ := id hM
    refine lv_iload hx hb dX11_strengthOf_45 (lo_at hl 7 rfl) ?_
    refine lv_aload_n hx hb dX11_strengthOf_47 rfl (lo_at hl 0 rfl) ?_
    obtain ⟨k9, hw⟩ := hw
    refine r_getI hx hb hts hown hg hC fb_9_5 k9 mk_f_RX11_122 dX11_strengthOf_48 ?_
    refine lv_icmp_ge (tgt := 119) hx hb dX11_strengthOf_51 (by decide) (fun c10 => ?_) (fun c10 => ?_)
    ·
      replace hw := (if_pos c10).mp hw
      exact hK119 x4 h H locs ls hC (lo_sub hl [0, 1, 2, 3, 4, 5] rfl) hw
    ·
      replace hw := (if_neg c10).mp hw
      refine lv_aload_n hx hb dX11_strengthOf_54 rfl (lo_at hl 0 rfl) ?_
      refine r_getR hx hb hts hown hg hC fb_9_4 k9 mk_f_RX11_23 dX11_strengthOf_55 ?_
      refine lv_iload hx hb dX11_strengthOf_58 (lo_at hl 7 rfl) ?_
      obtain ⟨k11, hw⟩ := hw
      refine rf_2 k11.1 ?_
      refine r_aald (kd := 3) (t0 := 2) hx hb hg hC k11.2.1 (by decide) rfl k11.2.2 dX11_strengthOf_60 ?_
      refine lo_astore (r := hpR h (ad (hpR h o 4)) (x7).toNatClampNeg) (lv' := [(8, va_rf (hpR h (ad (hpR h o 4)) (x7).toNatClampNeg)), (0, .ref o), (1, va_rf r1), (2, .int x2), (3, .int x3), (4, .int x4), (5, .int x5), (6, va_rf r6), (7, .int x7)]) hx hb dX11_strengthOf_61 hl (by decide) rfl (fun ls hl => ?_)
      refine lo_aload (r := hpR h (ad (hpR h o 4)) (x7).toNatClampNeg) hx hb dX11_strengthOf_63 (lo_at hl 0 rfl) ?_
      refine lo_ifnull (r := hpR h (ad (hpR h o 4)) (x7).toNatClampNeg) (tgt := 113) hx hb dX11_strengthOf_65 (by decide) (fun c12 => ?_) (fun c12 => ?_)
      ·
        replace hw := (if_pos c12).mp hw
        obtain ⟨v13, ev13⟩ : ∃ y : Int32, y = x7 + (1 : Int32) := ⟨_, rfl⟩
        replace hw := hw v13 ev13
        refine lo_iinc (v := v13) (lv' := [(7, .int v13), (8, va_rf (hpR h (ad (hpR h o 4)) (x7).toNatClampNeg)), (0, .ref o), (1, va_rf r1), (2, .int x2), (3, .int x3), (4, .int x4), (5, .int x5), (6, va_rf r6)]) hx hb dX11_strengthOf_113 hl (k := 8) rfl (by rw [ev13]; rfl) (by decide) rfl (fun ls hl => ?_)
        refine lv_goto (tgt := 45) hx hb dX11_strengthOf_116 (by decide) ?_
        exact ih x4 v13 h H locs ls hC (lo_sub hl [2, 3, 4, 5, 6, 7, 8, 0] rfl) hw
      ·
        replace hw := (if_neg c12).mp hw
        refine lv_aload_n hx hb dX11_strengthOf_68 rfl (lo_at hl 1 rfl) ?_
        refine lv_iload_n hx hb dX11_strengthOf_69 rfl (lo_at hl 4 rfl) ?_
        refine lv_iload hx hb dX11_strengthOf_70 (lo_at hl 8 rfl) ?_
        refine res_i hC (run_V (As := [.int x3, .int x7]) (rest := []) hM hC hl.1.1 kv_RX11_284 (c_X11_isOfScene l G base o x3 x7 h _ hw) (hc_9) k9 rfl rfl rfl ⟨Nat.le_of_ble_eq_true rfl, Nat.le_of_ble_eq_true rfl⟩ (Nat.le_of_ble_eq_true rfl) ⟨Nat.le_of_ble_eq_true rfl, Nat.le_of_ble_eq_true rfl⟩ dX11_strengthOf_72) (fun z15 h14 H locs hw hC => ?_)
        refine lv_if_eq (tgt := 113) hx hb dX11_strengthOf_75 (by decide) (fun c16 => ?_) (fun c16 => ?_)
        ·
          replace hw := (if_pos c16).mp hw
          obtain ⟨v17, ev17⟩ : ∃ y : Int32, y = x7 + (1 : Int32) := ⟨_, rfl⟩
          replace hw := hw v17 ev17
          refine lo_iinc (v := v17) (lv' := [(7, .int v17), (8, va_rf (hpR h (ad (hpR h o 4)) (x7).toNatClampNeg)), (0, .ref o), (1, va_rf r1), (2, .int x2), (3, .int x3), (4, .int x4), (5, .int x5), (6, va_rf r6)]) hx hb dX11_strengthOf_113 hl (k := 8) rfl (by rw [ev17]; rfl) (by decide) rfl (fun ls hl => ?_)
          refine lv_goto (tgt := 45) hx hb dX11_strengthOf_116 (by decide) ?_
          exact ih x4 v17 h14 H locs ls hC (lo_sub hl [2, 3, 4, 5, 6, 7, 8, 0] rfl) hw
        ·
          replace hw := (if_neg c16).mp hw
          refine lo_aload_n (r := r1) hx hb dX11_strengthOf_78 rfl (lo_at hl 2 rfl) ?_
          refine lo_aload (r := r6) hx hb dX11_strengthOf_79 (lo_at hl 7 rfl) ?_
          refine lo_aload (r := hpR h (ad (hpR h o 4)) (x7).toNatClampNeg) hx hb dX11_strengthOf_81 (lo_at hl 0 rfl) ?_
          refine lv_iconst (v := 0) hx hb dX11_strengthOf_83 (by decide) ?_
          refine lv_aload_n hx hb dX11_strengthOf_84 rfl (lo_at hl 1 rfl) ?_
          obtain ⟨k18, hw⟩ := hw
          refine r_getR hx hb hts hown hg hC fb_9_15 k18 mk_f_RX11_69 dX11_strengthOf_85 ?_
          obtain ⟨k19, hw⟩ := hw
          refine rf_5 k19.1 ?_
          refine res_i hC (run_V (As := [va_rf r6, va_rf (hpR h (ad (hpR h o 4)) (x7).toNatClampNeg), .int ((0 : Int32)), va_rf (hpR h14 o 15)]) (rest := []) hM hC hl.1.1 kv_RX11_237 (c_X3_sayingOf l G base (ad r1) r6 (hpR h (ad (hpR h o 4)) (x7).toNatClampNeg) (0 : Int32) (hpR h14 o 15) h14 _ hw) (hc_2) k19.2 rfl rfl rfl ⟨Nat.le_of_ble_eq_true rfl, Nat.le_of_ble_eq_true rfl⟩ (Nat.le_of_ble_eq_true rfl) ⟨Nat.le_of_ble_eq_true rfl, Nat.le_of_ble_eq_true rfl⟩ dX11_strengthOf_88) (fun z21 h20 H locs hw hC => ?_)
          refine lv_iconst (v := 1) hx hb dX11_strengthOf_91 (by decide) ?_
          refine lv_icmp_ne (tgt := 113) hx hb dX11_strengthOf_92 (by decide) (fun c22 => ?_) (fun c22 => ?_)
          ·
            replace hw := (if_neg c22).mp hw
            obtain ⟨v23, ev23⟩ : ∃ y : Int32, y = x7 + (1 : Int32) := ⟨_, rfl⟩
            replace hw := hw v23 ev23
            refine lo_iinc (v := v23) (lv' := [(7, .int v23), (8, va_rf (hpR h (ad (hpR h o 4)) (x7).toNatClampNeg)), (0, .ref o), (1, va_rf r1), (2, .int x2), (3, .int x3), (4, .int x4), (5, .int x5), (6, va_rf r6)]) hx hb dX11_strengthOf_113 hl (k := 8) rfl (by rw [ev23]; rfl) (by decide) rfl (fun ls hl => ?_)
            refine lv_goto (tgt := 45) hx hb dX11_strengthOf_116 (by decide) ?_
            exact ih x4 v23 h20 H locs ls hC (lo_sub hl [2, 3, 4, 5, 6, 7, 8, 0] rfl) hw
          ·
            replace hw := (if_pos c22).mp hw
            refine lv_iload hx hb dX11_strengthOf_95 (lo_at hl 5 rfl) ?_
            refine lo_aload_n (r := r1) hx hb dX11_strengthOf_97 rfl (lo_at hl 2 rfl) ?_
            refine lo_aload (r := r6) hx hb dX11_strengthOf_98 (lo_at hl 7 rfl) ?_
            refine lo_aload (r := hpR h (ad (hpR h o 4)) (x7).toNatClampNeg) hx hb dX11_strengthOf_100 (lo_at hl 0 rfl) ?_
            obtain ⟨k24, hw⟩ := hw
            refine rf_3 k24.1 ?_
            refine res_i hC (run_V (As := [va_rf r6, va_rf (hpR h (ad (hpR h o 4)) (x7).toNatClampNeg)]) (rest := [.int x4]) hM hC hl.1.1 kv_RX11_199 (c_X3_measured l G base (ad r1) r6 (hpR h (ad (hpR h o 4)) (x7).toNatClampNeg) h20 _ hw) (hc_2) k24.2 rfl rfl rfl ⟨Nat.le_of_ble_eq_true rfl, Nat.le_of_ble_eq_true rfl⟩ (Nat.le_of_ble_eq_true rfl) ⟨Nat.le_of_ble_eq_true rfl, Nat.le_of_ble_eq_true rfl⟩ dX11_strengthOf_102) (fun z26 h25 H locs hw hC => ?_)
            refine res_i hC (run_S (As := [.int z26]) (rest := [.int x4]) hM hC hl.1.1 kv_RX11_212 (c_X2_longest l G base z26 h25 _ hw) rfl rfl rfl ⟨Nat.le_of_ble_eq_true rfl, Nat.le_of_ble_eq_true rfl⟩ (Nat.le_of_ble_eq_true rfl) ⟨Nat.le_of_ble_eq_true rfl, Nat.le_of_ble_eq_true rfl⟩ dX11_strengthOf_105) (fun z28 h27 H locs hw hC => ?_)
            refine va_mmax hx hb (by rw [hml]; exact hl.1.1.symm) hown (hts _ mk_m_RX11_330) (hts _ mk_math_s_max) (hts _ mk_ini_math) (hts _ mk_math_c_max) (Nat.le_of_ble_eq_true rfl) (Nat.le_of_ble_eq_true rfl) (Nat.le_of_ble_eq_true rfl) (Nat.le_of_ble_eq_true rfl) dX11_strengthOf_108 ?_
            refine lv_topi (fun v29 ev29 => ?_)
            replace hw := hw v29 ev29
            refine lo_istore (lv' := [(4, .int v29), (8, va_rf (hpR h (ad (hpR h o 4)) (x7).toNatClampNeg)), (0, .ref o), (1, va_rf r1), (2, .int x2), (3, .int x3), (5, .int x5), (6, va_rf r6), (7, .int x7)]) hx hb dX11_strengthOf_111 hl (by decide) rfl (fun ls hl => ?_)
            obtain ⟨v30, ev30⟩ : ∃ y : Int32, y = x7 + (1 : Int32) := ⟨_, rfl⟩
            replace hw := hw v30 ev30
            refine lo_iinc (v := v30) (lv' := [(7, .int v30), (4, .int v29), (8, va_rf (hpR h (ad (hpR h o 4)) (x7).toNatClampNeg)), (0, .ref o), (1, va_rf r1), (2, .int x2), (3, .int x3), (5, .int x5), (6, va_rf r6)]) hx hb dX11_strengthOf_113 hl (k := 8) rfl (by rw [ev30]; rfl) (by decide) rfl (fun ls hl => ?_)
            refine lv_goto (tgt := 45) hx hb dX11_strengthOf_116 (by decide) ?_
            exact ih v29 v30 h27 H locs ls hC (lo_sub hl [3, 4, 5, 6, 1, 7, 8, 0] rfl) hw
set_option maxHeartbeats 4000000 in
set_option maxRecDepth 100000 in
theorem t_X11_strengthOf_L6 {p : Program} {l : Launch} {e : Env} {s : State} {m : MethodId} {args : Array Value} {below : List Frame} {meth : Method} {c : Code} {G : GG} {base : Nat} (hM : Mx G base p s m args meth c cX11_strengthOf 9 (some .int) RX11 "strengthOf") (o : Nat) (r1 : Option Nat) (x2 : Int32) (x3 : Int32) (K125 : Int32 → Hp → Prop) (Q : Int32 → Hp → Prop) (hK125 : ∀ (y4 : Int32) (h : Hp) (H : Heap) (locs : List Loc) (ls : Array Slot), Cx G base h s.heap H locs → lo_has ls 9 [(4, .int y4)] → K125 y4 h → W p l e rm_X11_strengthOf s m args below meth c H locs 0 0 (MQ below (va_Qi Q (PU G base) (fun q => base ≤ q)) args s 0 0 (fun q => base ≤ q)) (F0 m 125 ls [])) : ∀ (n : Nat) (x4 : Int32) (x5 : Int32) (h : Hp) (H : Heap) (locs : List Loc) (ls : Array Slot), Cx G base h s.heap H locs → lo_has ls 9 [(0, .ref o), (1, va_rf r1), (2, .int x2), (3, .int x3), (4, .int x4), (5, .int x5)] → wp_X11_strengthOf_L6 o r1 x2 x3 K125 Q n x4 x5 h → W p l e rm_X11_strengthOf s m args below meth c H locs 0 0 (MQ below (va_Qi Q (PU G base) (fun q => base ≤ q)) args s 0 0 (fun q => base ≤ q)) (F0 m 6 ls []) := by
  intro n
  induction n with
  | zero =>
    intro x4 x5 h H locs ls hC hl hw
    rw [wp_X11_strengthOf_L6] at hw
    exact hw.elim
  | succ n ih =>
    intro x4 x5 h H locs ls hC hl hw
    rw [wp_X11_strengthOf_L6] at hw
    obtain ⟨hx, hb, hr, hml, hown, hts, hg, hs, hlk, hnm⟩ := id hM
    refine lv_iload hx hb dX11_strengthOf_6 (lo_at hl 5 rfl) ?_
    refine lv_aload_n hx hb dX11_strengthOf_8 rfl (lo_at hl 0 rfl) ?_
    obtain ⟨k1, hw⟩ := hw
    refine r_getI hx hb hts hown hg hC fb_9_5 k1 mk_f_RX11_122 dX11_strengthOf_9 ?_
    refine lv_icmp_ge (tgt := 125) hx hb dX11_strengthOf_12 (by decide) (fun c2 => ?_) (fun c2 => ?_)
    ·
      replace hw := (if_pos c2).mp hw
      exact hK125 x4 h H locs ls hC (lo_sub hl [4] rfl) hw
    ·
      replace hw := (if_neg c2).mp hw
      refine lv_aload_n hx hb dX11_strengthOf_15 rfl (lo_at hl 0 rfl) ?_
      refine r_getR hx hb hts hown hg hC fb_9_4 k1 mk_f_RX11_23 dX11_strengthOf_16 ?_
      refine lv_iload hx hb dX11_strengthOf_19 (lo_at hl 5 rfl) ?_
      obtain ⟨k3, hw⟩ := hw
      refine rf_2 k3.1 ?_
      refine r_aald (kd := 3) (t0 := 2) hx hb hg hC k3.2.1 (by decide) rfl k3.2.2 dX11_strengthOf_21 ?_
      refine lo_astore (r := hpR h (ad (hpR h o 4)) (x5).toNatClampNeg) (lv' := [(6, va_rf (hpR h (ad (hpR h o 4)) (x5).toNatClampNeg)), (0, .ref o), (1, va_rf r1), (2, .int x2), (3, .int x3), (4, .int x4), (5, .int x5)]) hx hb dX11_strengthOf_22 hl (by decide) rfl (fun ls hl => ?_)
      refine lo_aload (r := hpR h (ad (hpR h o 4)) (x5).toNatClampNeg) hx hb dX11_strengthOf_24 (lo_at hl 0 rfl) ?_
      refine lo_ifnull (r := hpR h (ad (hpR h o 4)) (x5).toNatClampNeg) (tgt := 119) hx hb dX11_strengthOf_26 (by decide) (fun c4 => ?_) (fun c4 => ?_)
      ·
        replace hw := (if_pos c4).mp hw
        obtain ⟨v5, ev5⟩ : ∃ y : Int32, y = x5 + (1 : Int32) := ⟨_, rfl⟩
        replace hw := hw v5 ev5
        refine lo_iinc (v := v5) (lv' := [(5, .int v5), (6, va_rf (hpR h (ad (hpR h o 4)) (x5).toNatClampNeg)), (0, .ref o), (1, va_rf r1), (2, .int x2), (3, .int x3), (4, .int x4)]) hx hb dX11_strengthOf_119 hl (k := 6) rfl (by rw [ev5]; rfl) (by decide) rfl (fun ls hl => ?_)
        refine lv_goto (tgt := 6) hx hb dX11_strengthOf_122 (by decide) ?_
        exact ih x4 v5 h H locs ls hC (lo_sub hl [2, 3, 4, 5, 6, 0] rfl) hw
      ·
        replace hw := (if_neg c4).mp hw
        refine lv_aload_n hx hb dX11_strengthOf_29 rfl (lo_at hl 1 rfl) ?_
        refine lv_iload_n hx hb dX11_strengthOf_30 rfl (lo_at hl 3 rfl) ?_
        refine lv_iload hx hb dX11_strengthOf_31 (lo_at hl 6 rfl) ?_
        refine res_i hC (run_V (As := [.int x2, .int x5]) (rest := []) hM hC hl.1.1 kv_RX11_284 (c_X11_isOfScene l G base o x2 x5 h _ hw) (hc_9) k1 rfl rfl rfl ⟨Nat.le_of_ble_eq_true rfl, Nat.le_of_ble_eq_true rfl⟩ (Nat.le_of_ble_eq_true rfl) ⟨Nat.le_of_ble_eq_true rfl, Nat.le_of_ble_eq_true rfl⟩ dX11_strengthOf_33) (fun z7 h6 H locs hw hC => ?_)
        refine lv_if_ne (tgt := 42) hx hb dX11_strengthOf_36 (by decide) (fun c8 => ?_) (fun c8 => ?_)
        ·
          replace hw := (if_neg c8).mp hw
          refine lv_iconst (v := 0) hx hb dX11_strengthOf_42 (by decide) ?_
          refine lo_istore (lv' := [(7, .int ((0 : Int32))), (6, va_rf (hpR h (ad (hpR h o 4)) (x5).toNatClampNeg)), (0, .ref o), (1, va_rf r1), (2, .int x2), (3, .int x3), (4, .int x4), (5, .int x5)]) hx hb dX11_strengthOf_43 hl (by decide) rfl (fun ls hl => ?_)
          refine t_X11_strengthOf_L45 hM o r1 x2 x3 x5 (hpR h (ad (hpR h o 4)) (x5).toNatClampNeg) _ Q ?_ fuel x4 (0 : Int32) h6 H locs ls hC (lo_sub hl [2, 3, 4, 5, 6, 7, 1, 0] rfl) hw
          intro y32 h31 H locs ls hC hl hw
          obtain ⟨v33, ev33⟩ : ∃ y : Int32, y = x5 + (1 : Int32) := ⟨_, rfl⟩
          replace hw := hw v33 ev33
          refine lo_iinc (v := v33) (lv' := [(5, .int v33), (0, .ref o), (1, va_rf r1), (2, .int x2), (3, .int x3), (4, .int y32)]) hx hb dX11_strengthOf_119 hl (k := 5) rfl (by rw [ev33]; rfl) (by decide) rfl (fun ls hl => ?_)
          refine lv_goto (tgt := 6) hx hb dX11_strengthOf_122 (by decide) ?_
          exact ih y32 v33 h31 H locs ls hC (lo_sub hl [1, 2, 3, 4, 5, 0] rfl) hw
        ·
          replace hw := (if_pos c8).mp hw
          refine lv_goto (tgt := 119) hx hb dX11_strengthOf_39 (by decide) ?_
          obtain ⟨v34, ev34⟩ : ∃ y : Int32, y = x5 + (1 : Int32) := ⟨_, rfl⟩
          replace hw := hw v34 ev34
          refine lo_iinc (v := v34) (lv' := [(5, .int v34), (6, va_rf (hpR h (ad (hpR h o 4)) (x5).toNatClampNeg)), (0, .ref o), (1, va_rf r1), (2, .int x2), (3, .int x3), (4, .int x4)]) hx hb dX11_strengthOf_119 hl (k := 6) rfl (by rw [ev34]; rfl) (by decide) rfl (fun ls hl => ?_)
          refine lv_goto (tgt := 6) hx hb dX11_strengthOf_122 (by decide) ?_
          exact ih x4 v34 h6 H locs ls hC (lo_sub hl [2, 3, 4, 5, 6, 0] rfl) hw
set_option maxHeartbeats 4000000 in
set_option maxRecDepth 100000 in
theorem c_X11_strengthOf (l : Launch) (G : GG) (base : Nat) (o : Nat) (r1 : Option Nat) (x2 : Int32) (x3 : Int32) (h : Hp) (Q : Int32 → Hp → Prop) (hw : wp_X11_strengthOf o r1 x2 x3 h Q) : Met l yX11_strengthOf (ww yX11_strengthOf cX11_strengthOf 9 (some .int)) rm_X11_strengthOf (va_Pc [.ref o, va_rf r1, .int x2, .int x3] (PU G base h)) (va_Qi Q (PU G base) (fun q => base ≤ q)) 0 0 (fun q => base ≤ q) := by
  refine met_of (own := RX11) (nm := "strengthOf") (by decide) rfl rfl (List.forall_mem_cons.mpr ⟨rfl, (List.forall_mem_cons.mpr ⟨va_rf_cat _, (List.forall_mem_cons.mpr ⟨rfl, (List.forall_mem_cons.mpr ⟨rfl, (fun _ h => absurd h List.not_mem_nil)⟩)⟩)⟩)⟩) (Nat.le_of_ble_eq_true rfl) rfl ?_
  intro p e s m below meth c ls hM hC hl
  obtain ⟨hx, hb, hr, hml, hown, hts, hg, hs, hlk, hnm⟩ := id hM
  obtain ⟨args, hargs⟩ : ∃ a : Array Value, a = ([.ref o, va_rf r1, .int x2, .int x3] : List Value).toArray := ⟨_, rfl⟩
  rw [← hargs] at hM hts ⊢
  obtain ⟨H, hH⟩ : ∃ H : Heap, H = s.heap := ⟨_, rfl⟩
  obtain ⟨locs, hlocs⟩ : ∃ x : List Loc, x = [] := ⟨_, rfl⟩
  have hC : Cx G base h s.heap H locs := by rw [hH, hlocs]; exact hC
  show W p l e rm_X11_strengthOf s m args below meth c s.heap [] 0 0 (MQ below (va_Qi Q (PU G base) (fun q => base ≤ q)) args s 0 0 (fun q => base ≤ q)) (F0 m 0 ls [])
  rw [← hlocs]
  have hgoal : W p l e rm_X11_strengthOf s m args below meth c H locs 0 0 (MQ below (va_Qi Q (PU G base) (fun q => base ≤ q)) args s 0 0 (fun q => base ≤ q)) (F0 m 0 ls []) := ?_
  · rw [hH] at hgoal; exact hgoal
  clear hH hlocs
  unfold wp_X11_strengthOf at hw
  refine lv_iconst (v := -1) hx hb dX11_strengthOf_0 (by decide) ?_
  refine lo_istore (lv' := [(4, .int ((-1 : Int32))), (0, .ref o), (1, va_rf r1), (2, .int x2), (3, .int x3)]) hx hb dX11_strengthOf_1 hl (by decide) rfl (fun ls hl => ?_)
  refine lv_iconst (v := 0) hx hb dX11_strengthOf_3 (by decide) ?_
  refine lo_istore (lv' := [(5, .int ((0 : Int32))), (4, .int ((-1 : Int32))), (0, .ref o), (1, va_rf r1), (2, .int x2), (3, .int x3)]) hx hb dX11_strengthOf_4 hl (by decide) rfl (fun ls hl => ?_)
  refine t_X11_strengthOf_L6 hM o r1 x2 x3 _ Q ?_ fuel (-1 : Int32) (0 : Int32) h H locs ls hC (lo_sub hl [2, 3, 4, 5, 1, 0] rfl) hw
  intro y36 h35 H locs ls hC hl hw
  refine lv_iload hx hb dX11_strengthOf_125 (lo_at hl 0 rfl) ?_
  exact ret_i hM hC hw dX11_strengthOf_127
abbrev rm_X11_weakest : Room := { frames := 7, cells := 0, slots := 0, locals := 197 }
def wp_X11_weakest_L15 (o : Nat) (r1 : Option Nat) (x3 : Int32) (K73 : Int32 → Hp → Prop) (Q : Int32 → Hp → Prop) : Nat → Int32 → Int32 → Hp → Prop
  | 0, _, _, _ => False
  | n + 1, x2, x4, h => (if (8 : Int32) ≤ x4 then (K73 x2 h) else (((hpK h o).1 = 20 + 9) ∧ (wp_X11_strengthOf o r1 x3 x4 h (fun (z6 : Int32) (h5 : Hp) => ∀ v7 : Int32, v7 = (((z6 * (8 : Int32)) + x3) * (8 : Int32)) + x4 → ((if z6 = (-1 : Int32) then (∀ v9 : Int32, v9 = x4 + (1 : Int32) → (wp_X11_weakest_L15 o r1 x3 K73 Q n x2 v9 h5)) else ((if x2 = (-1 : Int32) then (∀ v11 : Int32, v11 = x4 + (1 : Int32) → (wp_X11_weakest_L15 o r1 x3 K73 Q n v7 v11 h5)) else ((if x2 ≤ v7 then (∀ v13 : Int32, v13 = x4 + (1 : Int32) → (wp_X11_weakest_L15 o r1 x3 K73 Q n x2 v13 h5)) else (∀ v14 : Int32, v14 = x4 + (1 : Int32) → (wp_X11_weakest_L15 o r1 x3 K73 Q n v7 v14 h5))))))))))))
def wp_X11_weakest_L4 (o : Nat) (r1 : Option Nat) (K79 : Int32 → Hp → Prop) (Q : Int32 → Hp → Prop) : Nat → Int32 → Int32 → Hp → Prop
  | 0, _, _, _ => False
  | n + 1, x2, x3, h => (if (8 : Int32) ≤ x3 then (K79 x2 h) else (∀ v2 : Int32, v2 = x3 + (1 : Int32) → (wp_X11_weakest_L15 o r1 x3 (fun (y16 : Int32) (h15 : Hp) => ∀ v17 : Int32, v17 = x3 + (1 : Int32) → (wp_X11_weakest_L4 o r1 K79 Q n y16 v17 h15)) Q fuel x2 v2 h)))
def wp_X11_weakest (o : Nat) (r1 : Option Nat) (h : Hp) (Q : Int32 → Hp → Prop) : Prop := wp_X11_weakest_L4 o r1 (fun (y19 : Int32) (h18 : Hp) => Q y19 h18) Q fuel (-1 : Int32) (0 : Int32) h
set_option maxHeartbeats 4000000 in
set_option maxRecDepth 100000 in
theorem t_X11_weakest_L15 {p : Program} {l : Launch} {e : Env} {s : State} {m : MethodId} {args : Array Value} {below : List Frame} {meth : Method} {c : Code} {G : GG} {base : Nat} (hM : Mx G base p s m args meth c cX11_weakest 7 (some .int) RX11 "weakest") (o : Nat) (r1 : Option Nat) (x3 : Int32) (K73 : Int32 → Hp → Prop) (Q : Int32 → Hp → Prop) (hK73 : ∀ (y2 : Int32) (h : Hp) (H : Heap) (locs : List Loc) (ls : Array Slot), Cx G base h s.heap H locs → lo_has ls 7 [(0, .ref o), (1, va_rf r1), (2, .int y2), (3, .int x3)] → K73 y2 h → W p l e rm_X11_weakest s m args below meth c H locs 0 0 (MQ below (va_Qi Q (PU G base) (fun q => base ≤ q)) args s 0 0 (fun q => base ≤ q)) (F0 m 73 ls [])) : ∀ (n : Nat) (x2 : Int32) (x4 : Int32) (h : Hp) (H : Heap) (locs : List Loc) (ls : Array Slot), Cx G base h s.heap H locs → lo_has ls 7 [(0, .ref o), (1, va_rf r1), (2, .int x2), (3, .int x3), (4, .int x4)] → wp_X11_weakest_L15 o r1 x3 K73 Q n x2 x4 h → W p l e rm_X11_weakest s m args below meth c H locs 0 0 (MQ below (va_Qi Q (PU G base) (fun q => base ≤ q)) args s 0 0 (fun q => base ≤ q)) (F0 m 15 ls []) := by
  intro n
  induction n with
  | zero =>
    intro x2 x4 h H locs ls hC hl hw
    rw [wp_X11_weakest_L15] at hw
    exact hw.elim
  | succ n ih =>
    intro x2 x4 h H locs ls hC hl hw
    rw [wp_X11_weakest_L15] at hw
    obtain ⟨hx, hb, hr, hml, hown, hts, hg, hs, hlk, hnm⟩ := id hM
    refine lv_iload hx hb dX11_weakest_15 (lo_at hl 4 rfl) ?_
    refine lv_bipush (v := 8) hx hb dX11_weakest_17 (by decide) ?_
    refine lv_icmp_ge (tgt := 73) hx hb dX11_weakest_19 (by decide) (fun c3 => ?_) (fun c3 => ?_)
    ·
      replace hw := (if_pos c3).mp hw
      exact hK73 x2 h H locs ls hC (lo_sub hl [0, 1, 2, 3] rfl) hw
    ·
      replace hw := (if_neg c3).mp hw
      refine lv_aload_n hx hb dX11_weakest_22 rfl (lo_at hl 0 rfl) ?_
      refine lo_aload_n (r := r1) hx hb dX11_weakest_23 rfl (lo_at hl 1 rfl) ?_
      refine lv_iload_n hx hb dX11_weakest_24 rfl (lo_at hl 3 rfl) ?_
      refine lv_iload hx hb dX11_weakest_25 (lo_at hl 4 rfl) ?_
      obtain ⟨k4, hw⟩ := hw
      refine res_i hC (run_V (As := [va_rf r1, .int x3, .int x4]) (rest := []) hM hC hl.1.1 kv_RX11_335 (c_X11_strengthOf l G base o r1 x3 x4 h _ hw) (hc_9) k4 rfl rfl rfl ⟨Nat.le_of_ble_eq_true rfl, Nat.le_of_ble_eq_true rfl⟩ (Nat.le_of_ble_eq_true rfl) ⟨Nat.le_of_ble_eq_true rfl, Nat.le_of_ble_eq_true rfl⟩ dX11_weakest_27) (fun z6 h5 H locs hw hC => ?_)
      refine lo_istore (lv' := [(5, .int z6), (0, .ref o), (1, va_rf r1), (2, .int x2), (3, .int x3), (4, .int x4)]) hx hb dX11_weakest_30 hl (by decide) rfl (fun ls hl => ?_)
      refine lv_iload hx hb dX11_weakest_32 (lo_at hl 0 rfl) ?_
      refine lv_bipush (v := 8) hx hb dX11_weakest_34 (by decide) ?_
      refine lv_imul hx hb dX11_weakest_36 ?_
      refine lv_iload_n hx hb dX11_weakest_37 rfl (lo_at hl 4 rfl) ?_
      refine lv_iadd hx hb dX11_weakest_38 ?_
      refine lv_bipush (v := 8) hx hb dX11_weakest_39 (by decide) ?_
      refine lv_imul hx hb dX11_weakest_41 ?_
      refine lv_iload hx hb dX11_weakest_42 (lo_at hl 5 rfl) ?_
      refine lv_iadd hx hb dX11_weakest_44 ?_
      refine lv_topi (fun v7 ev7 => ?_)
      replace hw := hw v7 ev7
      refine lo_istore (lv' := [(6, .int v7), (5, .int z6), (0, .ref o), (1, va_rf r1), (2, .int x2), (3, .int x3), (4, .int x4)]) hx hb dX11_weakest_45 hl (by decide) rfl (fun ls hl => ?_)
      refine lv_iload hx hb dX11_weakest_47 (lo_at hl 1 rfl) ?_
      refine lv_iconst (v := -1) hx hb dX11_weakest_49 (by decide) ?_
      refine lv_icmp_eq (tgt := 67) hx hb dX11_weakest_50 (by decide) (fun c8 => ?_) (fun c8 => ?_)
      ·
        replace hw := (if_pos c8).mp hw
        obtain ⟨v9, ev9⟩ : ∃ y : Int32, y = x4 + (1 : Int32) := ⟨_, rfl⟩
        replace hw := hw v9 ev9
        refine lo_iinc (v := v9) (lv' := [(4, .int v9), (6, .int v7), (5, .int z6), (0, .ref o), (1, va_rf r1), (2, .int x2), (3, .int x3)]) hx hb dX11_weakest_67 hl (k := 6) rfl (by rw [ev9]; rfl) (by decide) rfl (fun ls hl => ?_)
        refine lv_goto (tgt := 15) hx hb dX11_weakest_70 (by decide) ?_
        exact ih x2 v9 h5 H locs ls hC (lo_sub hl [3, 4, 5, 6, 0] rfl) hw
      ·
        replace hw := (if_neg c8).mp hw
        refine lv_iload_n hx hb dX11_weakest_53 rfl (lo_at hl 4 rfl) ?_
        refine lv_iconst (v := -1) hx hb dX11_weakest_54 (by decide) ?_
        refine lv_icmp_eq (tgt := 64) hx hb dX11_weakest_55 (by decide) (fun c10 => ?_) (fun c10 => ?_)
        ·
          replace hw := (if_pos c10).mp hw
          refine lv_iload hx hb dX11_weakest_64 (lo_at hl 0 rfl) ?_
          refine lo_istore_n (lv' := [(2, .int v7), (6, .int v7), (5, .int z6), (0, .ref o), (1, va_rf r1), (3, .int x3), (4, .int x4)]) hx hb dX11_weakest_66 rfl hl (by decide) rfl (fun ls hl => ?_)
          obtain ⟨v11, ev11⟩ : ∃ y : Int32, y = x4 + (1 : Int32) := ⟨_, rfl⟩
          replace hw := hw v11 ev11
          refine lo_iinc (v := v11) (lv' := [(4, .int v11), (2, .int v7), (6, .int v7), (5, .int z6), (0, .ref o), (1, va_rf r1), (3, .int x3)]) hx hb dX11_weakest_67 hl (k := 6) rfl (by rw [ev11]; rfl) (by decide) rfl (fun ls hl => ?_)
          refine lv_goto (tgt := 15) hx hb dX11_weakest_70 (by decide) ?_
          exact ih v7 v11 h5 H locs ls hC (lo_sub hl [4, 5, 1, 6, 0] rfl) hw
        ·
          replace hw := (if_neg c10).mp hw
          refine lv_iload hx hb dX11_weakest_58 (lo_at hl 0 rfl) ?_
          refine lv_iload_n hx hb dX11_weakest_60 rfl (lo_at hl 4 rfl) ?_
          refine lv_icmp_ge (tgt := 67) hx hb dX11_weakest_61 (by decide) (fun c12 => ?_) (fun c12 => ?_)
          ·
            replace hw := (if_pos c12).mp hw
            obtain ⟨v13, ev13⟩ : ∃ y : Int32, y = x4 + (1 : Int32) := ⟨_, rfl⟩
            replace hw := hw v13 ev13
            refine lo_iinc (v := v13) (lv' := [(4, .int v13), (6, .int v7), (5, .int z6), (0, .ref o), (1, va_rf r1), (2, .int x2), (3, .int x3)]) hx hb dX11_weakest_67 hl (k := 6) rfl (by rw [ev13]; rfl) (by decide) rfl (fun ls hl => ?_)
            refine lv_goto (tgt := 15) hx hb dX11_weakest_70 (by decide) ?_
            exact ih x2 v13 h5 H locs ls hC (lo_sub hl [3, 4, 5, 6, 0] rfl) hw
          ·
            replace hw := (if_neg c12).mp hw
            refine lv_iload hx hb dX11_weakest_64 (lo_at hl 0 rfl) ?_
            refine lo_istore_n (lv' := [(2, .int v7), (6, .int v7), (5, .int z6), (0, .ref o), (1, va_rf r1), (3, .int x3), (4, .int x4)]) hx hb dX11_weakest_66 rfl hl (by decide) rfl (fun ls hl => ?_)
            obtain ⟨v14, ev14⟩ : ∃ y : Int32, y = x4 + (1 : Int32) := ⟨_, rfl⟩
            replace hw := hw v14 ev14
            refine lo_iinc (v := v14) (lv' := [(4, .int v14), (2, .int v7), (6, .int v7), (5, .int z6), (0, .ref o), (1, va_rf r1), (3, .int x3)]) hx hb dX11_weakest_67 hl (k := 6) rfl (by rw [ev14]; rfl) (by decide) rfl (fun ls hl => ?_)
            refine lv_goto (tgt := 15) hx hb dX11_weakest_70 (by decide) ?_
            exact ih v7 v14 h5 H locs ls hC (lo_sub hl [4, 5, 1, 6, 0] rfl) hw
set_option maxHeartbeats 4000000 in
set_option maxRecDepth 100000 in
theorem t_X11_weakest_L4 {p : Program} {l : Launch} {e : Env} {s : State} {m : MethodId} {args : Array Value} {below : List Frame} {meth : Method} {c : Code} {G : GG} {base : Nat} (hM : Mx G base p s m args meth c cX11_weakest 7 (some .int) RX11 "weakest") (o : Nat) (r1 : Option Nat) (K79 : Int32 → Hp → Prop) (Q : Int32 → Hp → Prop) (hK79 : ∀ (y2 : Int32) (h : Hp) (H : Heap) (locs : List Loc) (ls : Array Slot), Cx G base h s.heap H locs → lo_has ls 7 [(2, .int y2)] → K79 y2 h → W p l e rm_X11_weakest s m args below meth c H locs 0 0 (MQ below (va_Qi Q (PU G base) (fun q => base ≤ q)) args s 0 0 (fun q => base ≤ q)) (F0 m 79 ls [])) : ∀ (n : Nat) (x2 : Int32) (x3 : Int32) (h : Hp) (H : Heap) (locs : List Loc) (ls : Array Slot), Cx G base h s.heap H locs → lo_has ls 7 [(0, .ref o), (1, va_rf r1), (2, .int x2), (3, .int x3)] → wp_X11_weakest_L4 o r1 K79 Q n x2 x3 h → W p l e rm_X11_weakest s m args below meth c H locs 0 0 (MQ below (va_Qi Q (PU G base) (fun q => base ≤ q)) args s 0 0 (fun q => base ≤ q)) (F0 m 4 ls []) := by
  intro n
  induction n with
  | zero =>
    intro x2 x3 h H locs ls hC hl hw
    rw [wp_X11_weakest_L4] at hw
    exact hw.elim
  | succ n ih =>
    intro x2 x3 h H locs ls hC hl hw
    rw [wp_X11_weakest_L4] at hw
    obtain ⟨hx, hb, hr, hml, hown, hts, hg, hs, hlk, hnm⟩ := id hM
    refine lv_iload_n hx hb dX11_weakest_4 rfl (lo_at hl 3 rfl) ?_
    refine lv_bipush (v := 8) hx hb dX11_weakest_5 (by decide) ?_
    refine lv_icmp_ge (tgt := 79) hx hb dX11_weakest_7 (by decide) (fun c1 => ?_) (fun c1 => ?_)
    ·
      replace hw := (if_pos c1).mp hw
      exact hK79 x2 h H locs ls hC (lo_sub hl [2] rfl) hw
    ·
      replace hw := (if_neg c1).mp hw
      refine lv_iload_n hx hb dX11_weakest_10 rfl (lo_at hl 3 rfl) ?_
      refine lv_iconst (v := 1) hx hb dX11_weakest_11 (by decide) ?_
      refine lv_iadd hx hb dX11_weakest_12 ?_
      refine lv_topi (fun v2 ev2 => ?_)
      replace hw := hw v2 ev2
      refine lo_istore (lv' := [(4, .int v2), (0, .ref o), (1, va_rf r1), (2, .int x2), (3, .int x3)]) hx hb dX11_weakest_13 hl (by decide) rfl (fun ls hl => ?_)
      refine t_X11_weakest_L15 hM o r1 x3 _ Q ?_ fuel x2 v2 h H locs ls hC (lo_sub hl [1, 2, 3, 4, 0] rfl) hw
      intro y16 h15 H locs ls hC hl hw
      obtain ⟨v17, ev17⟩ : ∃ y : Int32, y = x3 + (1 : Int32) := ⟨_, rfl⟩
      replace hw := hw v17 ev17
      refine lo_iinc (v := v17) (lv' := [(3, .int v17), (0, .ref o), (1, va_rf r1), (2, .int y16)]) hx hb dX11_weakest_73 hl (k := 3) rfl (by rw [ev17]; rfl) (by decide) rfl (fun ls hl => ?_)
      refine lv_goto (tgt := 4) hx hb dX11_weakest_76 (by decide) ?_
      exact ih y16 v17 h15 H locs ls hC (lo_sub hl [1, 2, 3, 0] rfl) hw
set_option maxHeartbeats 4000000 in
set_option maxRecDepth 100000 in
theorem c_X11_weakest (l : Launch) (G : GG) (base : Nat) (o : Nat) (r1 : Option Nat) (h : Hp) (Q : Int32 → Hp → Prop) (hw : wp_X11_weakest o r1 h Q) : Met l yX11_weakest (ww yX11_weakest cX11_weakest 7 (some .int)) rm_X11_weakest (va_Pc [.ref o, va_rf r1] (PU G base h)) (va_Qi Q (PU G base) (fun q => base ≤ q)) 0 0 (fun q => base ≤ q) := by
  refine met_of (own := RX11) (nm := "weakest") (by decide) rfl rfl (List.forall_mem_cons.mpr ⟨rfl, (List.forall_mem_cons.mpr ⟨va_rf_cat _, (fun _ h => absurd h List.not_mem_nil)⟩)⟩) (Nat.le_of_ble_eq_true rfl) rfl ?_
  intro p e s m below meth c ls hM hC hl
  obtain ⟨hx, hb, hr, hml, hown, hts, hg, hs, hlk, hnm⟩ := id hM
  obtain ⟨args, hargs⟩ : ∃ a : Array Value, a = ([.ref o, va_rf r1] : List Value).toArray := ⟨_, rfl⟩
  rw [← hargs] at hM hts ⊢
  obtain ⟨H, hH⟩ : ∃ H : Heap, H = s.heap := ⟨_, rfl⟩
  obtain ⟨locs, hlocs⟩ : ∃ x : List Loc, x = [] := ⟨_, rfl⟩
  have hC : Cx G base h s.heap H locs := by rw [hH, hlocs]; exact hC
  show W p l e rm_X11_weakest s m args below meth c s.heap [] 0 0 (MQ below (va_Qi Q (PU G base) (fun q => base ≤ q)) args s 0 0 (fun q => base ≤ q)) (F0 m 0 ls [])
  rw [← hlocs]
  have hgoal : W p l e rm_X11_weakest s m args below meth c H locs 0 0 (MQ below (va_Qi Q (PU G base) (fun q => base ≤ q)) args s 0 0 (fun q => base ≤ q)) (F0 m 0 ls []) := ?_
  · rw [hH] at hgoal; exact hgoal
  clear hH hlocs
  unfold wp_X11_weakest at hw
  refine lv_iconst (v := -1) hx hb dX11_weakest_0 (by decide) ?_
  refine lo_istore_n (lv' := [(2, .int ((-1 : Int32))), (0, .ref o), (1, va_rf r1)]) hx hb dX11_weakest_1 rfl hl (by decide) rfl (fun ls hl => ?_)
  refine lv_iconst (v := 0) hx hb dX11_weakest_2 (by decide) ?_
  refine lo_istore_n (lv' := [(3, .int ((0 : Int32))), (2, .int ((-1 : Int32))), (0, .ref o), (1, va_rf r1)]) hx hb dX11_weakest_3 rfl hl (by decide) rfl (fun ls hl => ?_)
  refine t_X11_weakest_L4 hM o r1 _ Q ?_ fuel (-1 : Int32) (0 : Int32) h H locs ls hC (lo_sub hl [2, 3, 1, 0] rfl) hw
  intro y19 h18 H locs ls hC hl hw
  refine lv_iload_n hx hb dX11_weakest_79 rfl (lo_at hl 0 rfl) ?_
  exact ret_i hM hC hw dX11_weakest_80
