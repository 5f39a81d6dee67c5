abbrev rm_X12_takesText : Room := { frames := 10, cells := 0, slots := 0, locals := 215 }
set_option maxRecDepth 100000 in
def wp_X12_takesText_L77 (o : Nat) (x1 : Int32) (x2 : Int32) (K168 : Hp → Prop) (Q : Int32 → Hp → Prop) : Nat → Int32 → Hp → Prop
  | 0, _, _ => False
  | n + 1, x3, h => (if x2 ≤ x3 then (K168 h) else (((hpK h o).1 = 20 + 10) ∧ (okA h (hpR h o 26) 1 ((112 : Int32) + x3) ∧ (∀ v20 : Int32, v20 = hpI h (ad (hpR h o 26)) ((112 : Int32) + x3).toNatClampNeg → (okA h (hpR h o 26) 1 (((16 : Int32) * x1) + x3) ∧ (∀ h22 : Hp, h22 = stI h (ad (hpR h o 26)) (((16 : Int32) * x1) + x3).toNatClampNeg v20 → (((hpK h22 o).1 = 20 + 10) ∧ (okA h22 (hpR h22 o 27) 1 ((112 : Int32) + x3) ∧ (∀ v25 : Int32, v25 = hpI h22 (ad (hpR h22 o 27)) ((112 : Int32) + x3).toNatClampNeg → (okA h22 (hpR h22 o 27) 1 (((16 : Int32) * x1) + x3) ∧ (∀ h27 : Hp, h27 = stI h22 (ad (hpR h22 o 27)) (((16 : Int32) * x1) + x3).toNatClampNeg v25 → (((hpK h27 o).1 = 20 + 10) ∧ (okA h27 (hpR h27 o 28) 1 ((112 : Int32) + x3) ∧ (∀ v30 : Int32, v30 = hpI h27 (ad (hpR h27 o 28)) ((112 : Int32) + x3).toNatClampNeg → (okA h27 (hpR h27 o 28) 1 (((16 : Int32) * x1) + x3) ∧ (∀ h32 : Hp, h32 = stI h27 (ad (hpR h27 o 28)) (((16 : Int32) * x1) + x3).toNatClampNeg v30 → (((hpK h32 o).1 = 20 + 10) ∧ (okA h32 (hpR h32 o 29) 1 ((112 : Int32) + x3) ∧ (∀ v35 : Int32, v35 = hpI h32 (ad (hpR h32 o 29)) ((112 : Int32) + x3).toNatClampNeg → (okA h32 (hpR h32 o 29) 1 (((16 : Int32) * x1) + x3) ∧ (∀ h37 : Hp, h37 = stI h32 (ad (hpR h32 o 29)) (((16 : Int32) * x1) + x3).toNatClampNeg v35 → (∀ v38 : Int32, v38 = x3 + (1 : Int32) → (wp_X12_takesText_L77 o x1 x2 K168 Q n v38 h37)))))))))))))))))))))))
set_option maxRecDepth 100000 in
def wp_X12_takesText_L170 (o : Nat) (x1 : Int32) (x2 : Int32) (K228 : Hp → Prop) (Q : Int32 → Hp → Prop) : Nat → Int32 → Hp → Prop
  | 0, _, _ => False
  | n + 1, x3, h => ((hpK h o).1 = 20 + 10) ∧ ((if (hpI h o 33) ≤ x3 then (K228 h) else (okA h (hpR h o 30) 1 ((4200 : Int32) + x3) ∧ (∀ v43 : Int32, v43 = hpI h (ad (hpR h o 30)) ((4200 : Int32) + x3).toNatClampNeg → (okA h (hpR h o 30) 1 (((600 : Int32) * x1) + x3) ∧ (∀ h45 : Hp, h45 = stI h (ad (hpR h o 30)) (((600 : Int32) * x1) + x3).toNatClampNeg v43 → (((hpK h45 o).1 = 20 + 10) ∧ (okA h45 (hpR h45 o 31) 1 ((4200 : Int32) + x3) ∧ (∀ v48 : Int32, v48 = hpI h45 (ad (hpR h45 o 31)) ((4200 : Int32) + x3).toNatClampNeg → (okA h45 (hpR h45 o 31) 1 (((600 : Int32) * x1) + x3) ∧ (∀ h50 : Hp, h50 = stI h45 (ad (hpR h45 o 31)) (((600 : Int32) * x1) + x3).toNatClampNeg v48 → (∀ v51 : Int32, v51 = x3 + (1 : Int32) → (wp_X12_takesText_L170 o x1 x2 K228 Q n v51 h50)))))))))))))
set_option maxRecDepth 100000 in
def wp_X12_takesText_J68 (o : Nat) (x1 : Int32) (x2 : Int32) (Q : Int32 → Hp → Prop) (h : Hp) : Prop := (if x2 = (-1 : Int32) then (Q (-1 : Int32) h) else (wp_X12_takesText_L77 o x1 x2 (fun (h39 : Hp) => wp_X12_takesText_L170 o x1 x2 (fun (h52 : Hp) => ((hpK h52 o).1 = 20 + 10) ∧ (okA h52 (hpR h52 o 25) 1 x1 ∧ (∀ h55 : Hp, h55 = stI h52 (ad (hpR h52 o 25)) (x1).toNatClampNeg x2 → (((hpK h55 o).1 = 20 + 10) ∧ (∀ h57 : Hp, h57 = stI h55 o 17 ((hpI h55 o 17) + (1 : Int32)) → (Q x2 h57)))))) Q fuel (0 : Int32) h39) Q fuel (0 : Int32) h))
set_option maxRecDepth 100000 in
def wp_X12_takesText_J36 (o : Nat) (x1 : Int32) (s0 : Int32) (Q : Int32 → Hp → Prop) (h : Hp) : Prop := ((hpK h o).1 = 20 + 10) ∧ (∀ h14 : Hp, h14 = stI h o 19 (0 : Int32) → ((if x1 = (-1 : Int32) then (wp_X12_takesText_J68 o x1 s0 Q h14) else ((if s0 = (-1 : Int32) then (((hpK h14 o).1 = 20 + 10) ∧ (∀ h60 : Hp, h60 = stI h14 o 39 (hpI h14 o 37) → (((hpK h60 o).1 = 20 + 10) ∧ (∀ h62 : Hp, h62 = stI h60 o 40 (hpI h60 o 38) → (wp_X12_takesText_J68 o x1 s0 Q h62))))) else (wp_X12_takesText_J68 o x1 s0 Q h14))))))
set_option maxRecDepth 100000 in
def wp_X12_takesText_J20 (o : Nat) (x1 : Int32) (s0 : Int32) (s1 : Option Nat) (Q : Int32 → Hp → Prop) (h : Hp) : Prop := okO h s1 10 ∧ (okZ s0 ∧ (∀ h7 : Hp, h7 = stI h (ad s1) 32 s0 → ((if x1 = (-1 : Int32) then (wp_X12_takesText_J36 o x1 (-1 : Int32) Q h7) else (((hpK h7 o).1 = 20 + 10) ∧ (wp_X12_readText o h7 (fun (z12 : Int32) (h11 : Hp) => wp_X12_takesText_J36 o x1 z12 Q h11)))))))
set_option maxRecDepth 100000 in
def wp_X12_takesText (o : Nat) (x1 : Int32) (h : Hp) (Q : Int32 → Hp → Prop) : Prop := ((hpK h o).1 = 20 + 10) ∧ (∀ h2 : Hp, h2 = stI h o 39 (0 : Int32) → (((hpK h2 o).1 = 20 + 10) ∧ (∀ h4 : Hp, h4 = stI h2 o 40 (-1 : Int32) → ((if x1 = 0 then (wp_X12_takesText_J20 o x1 (1 : Int32) (some o) Q h4) else (wp_X12_takesText_J20 o x1 (0 : Int32) (some o) Q h4))))))
set_option maxHeartbeats 4000000 in
set_option maxRecDepth 100000 in
theorem t_X12_takesText_L77 {p : Program} {l : Launch} {e : Env} {s : State} {m : MethodId} {args : Array Value} {below : List Frame} {meth : Method} {c : Code} {G : GG} {base : Nat} {A : Nat → Nat} {g0 : Hp} (hM : Mx G base p s m args meth c cX12_takesText 4 (some .int) RX12 "takesText") (o : Nat) (x1 : Int32) (x2 : Int32) (K168 : Hp → Prop) (Q : Int32 → Hp → Prop) (hK168 : ∀ (h : Hp) (H : Heap) (locs : List Loc) (ls : Array Slot), Cx2 G base A g0 A h s.heap H locs → lo_has ls 4 [(0, .ref (A o)), (1, .int x1), (2, .int x2)] → K168 h → W p l e rm_X12_takesText s m args below meth c H locs 0 0 (MQ below (va_Qi Q (PU2 G base A g0 A) (fun q => base ≤ q)) args s 0 0 (fun q => base ≤ q)) (F0 m 168 ls [])) : ∀ (n : Nat) (x3 : Int32) (h : Hp) (H : Heap) (locs : List Loc) (ls : Array Slot), Cx2 G base A g0 A h s.heap H locs → lo_has ls 4 [(0, .ref (A o)), (1, .int x1), (2, .int x2), (3, .int x3)] → wp_X12_takesText_L77 o x1 x2 K168 Q n x3 h → W p l e rm_X12_takesText s m args below meth c H locs 0 0 (MQ below (va_Qi Q (PU2 G base A g0 A) (fun q => base ≤ q)) args s 0 0 (fun q => base ≤ q)) (F0 m 77 ls []) := by
  intro n
  induction n with
  | zero =>
    intro x3 h H locs ls hC hl hw
    rw [wp_X12_takesText_L77] at hw
    exact hw.elim
  | succ n ih =>
    intro x3 h H locs ls hC hl hw
    rw [wp_X12_takesText_L77] at hw
    obtain ⟨hx, hb, hr, hml, hown, hts, hg, hs, hlk, hnm⟩ := id hM
    refine lv_iload_n hx hb dX12_takesText_77 rfl (lo_at hl 3 rfl) ?_
    refine lv_iload_n hx hb dX12_takesText_78 rfl (lo_at hl 2 rfl) ?_
    refine lv_icmp_ge (tgt := 168) hx hb dX12_takesText_79 (by decide) (fun c17 => ?_) (fun c17 => ?_)
    ·
      replace hw := (if_pos c17).mp hw
      exact hK168  h H locs ls hC (lo_sub hl [0, 1, 2] rfl) hw
    ·
      replace hw := (if_neg c17).mp hw
      refine lv_aload_n hx hb dX12_takesText_82 rfl (lo_at hl 0 rfl) ?_
      obtain ⟨k18, hw⟩ := hw
      refine s_getR hx hb hts hown hg hC fb_10_26 k18 mk_f_RX12_58 dX12_takesText_83 ?_
      refine lv_bipush (v := 16) hx hb dX12_takesText_86 (by decide) ?_
      refine lv_iload_n hx hb dX12_takesText_88 rfl (lo_at hl 1 rfl) ?_
      refine lv_imul hx hb dX12_takesText_89 ?_
      refine lv_iload_n hx hb dX12_takesText_90 rfl (lo_at hl 3 rfl) ?_
      refine lv_iadd hx hb dX12_takesText_91 ?_
      refine lv_aload_n hx hb dX12_takesText_92 rfl (lo_at hl 0 rfl) ?_
      refine s_getR hx hb hts hown hg hC fb_10_26 k18 mk_f_RX12_58 dX12_takesText_93 ?_
      refine lv_bipush (v := 112) hx hb dX12_takesText_96 (by decide) ?_
      refine lv_iload_n hx hb dX12_takesText_98 rfl (lo_at hl 3 rfl) ?_
      refine lv_iadd hx hb dX12_takesText_99 ?_
      obtain ⟨k19, hw⟩ := hw
      refine sf_2 k19.1 ?_
      refine s_iald hx hb hg hC k19.2.1 k19.2.2 dX12_takesText_100 ?_
      refine lv_topi (fun v20 ev20 => ?_)
      replace hw := hw v20 ev20
      obtain ⟨k21, hw⟩ := hw
      refine sf_3 k21.1 ?_
      refine s_iast hx hb hg hC k21.2.1 k21.2.2 dX12_takesText_101 (fun h22 H locs eh22 hC => ?_)
      replace hw := hw h22 eh22
      refine lv_aload_n hx hb dX12_takesText_102 rfl (lo_at hl 0 rfl) ?_
      obtain ⟨k23, hw⟩ := hw
      refine s_getR hx hb hts hown hg hC fb_10_27 k23 mk_f_RX12_61 dX12_takesText_103 ?_
      refine lv_bipush (v := 16) hx hb dX12_takesText_106 (by decide) ?_
      refine lv_iload_n hx hb dX12_takesText_108 rfl (lo_at hl 1 rfl) ?_
      refine lv_imul hx hb dX12_takesText_109 ?_
      refine lv_iload_n hx hb dX12_takesText_110 rfl (lo_at hl 3 rfl) ?_
      refine lv_iadd hx hb dX12_takesText_111 ?_
      refine lv_aload_n hx hb dX12_takesText_112 rfl (lo_at hl 0 rfl) ?_
      refine s_getR hx hb hts hown hg hC fb_10_27 k23 mk_f_RX12_61 dX12_takesText_113 ?_
      refine lv_bipush (v := 112) hx hb dX12_takesText_116 (by decide) ?_
      refine lv_iload_n hx hb dX12_takesText_118 rfl (lo_at hl 3 rfl) ?_
      refine lv_iadd hx hb dX12_takesText_119 ?_
      obtain ⟨k24, hw⟩ := hw
      refine sf_2 k24.1 ?_
      refine s_iald hx hb hg hC k24.2.1 k24.2.2 dX12_takesText_120 ?_
      refine lv_topi (fun v25 ev25 => ?_)
      replace hw := hw v25 ev25
      obtain ⟨k26, hw⟩ := hw
      refine sf_3 k26.1 ?_
      refine s_iast hx hb hg hC k26.2.1 k26.2.2 dX12_takesText_121 (fun h27 H locs eh27 hC => ?_)
      replace hw := hw h27 eh27
      refine lv_aload_n hx hb dX12_takesText_122 rfl (lo_at hl 0 rfl) ?_
      obtain ⟨k28, hw⟩ := hw
      refine s_getR hx hb hts hown hg hC fb_10_28 k28 mk_f_RX12_64 dX12_takesText_123 ?_
      refine lv_bipush (v := 16) hx hb dX12_takesText_126 (by decide) ?_
      refine lv_iload_n hx hb dX12_takesText_128 rfl (lo_at hl 1 rfl) ?_
      refine lv_imul hx hb dX12_takesText_129 ?_
      refine lv_iload_n hx hb dX12_takesText_130 rfl (lo_at hl 3 rfl) ?_
      refine lv_iadd hx hb dX12_takesText_131 ?_
      refine lv_aload_n hx hb dX12_takesText_132 rfl (lo_at hl 0 rfl) ?_
      refine s_getR hx hb hts hown hg hC fb_10_28 k28 mk_f_RX12_64 dX12_takesText_133 ?_
      refine lv_bipush (v := 112) hx hb dX12_takesText_136 (by decide) ?_
      refine lv_iload_n hx hb dX12_takesText_138 rfl (lo_at hl 3 rfl) ?_
      refine lv_iadd hx hb dX12_takesText_139 ?_
      obtain ⟨k29, hw⟩ := hw
      refine sf_2 k29.1 ?_
      refine s_iald hx hb hg hC k29.2.1 k29.2.2 dX12_takesText_140 ?_
      refine lv_topi (fun v30 ev30 => ?_)
      replace hw := hw v30 ev30
      obtain ⟨k31, hw⟩ := hw
      refine sf_3 k31.1 ?_
      refine s_iast hx hb hg hC k31.2.1 k31.2.2 dX12_takesText_141 (fun h32 H locs eh32 hC => ?_)
      replace hw := hw h32 eh32
      refine lv_aload_n hx hb dX12_takesText_142 rfl (lo_at hl 0 rfl) ?_
      obtain ⟨k33, hw⟩ := hw
      refine s_getR hx hb hts hown hg hC fb_10_29 k33 mk_f_RX12_67 dX12_takesText_143 ?_
      refine lv_bipush (v := 16) hx hb dX12_takesText_146 (by decide) ?_
      refine lv_iload_n hx hb dX12_takesText_148 rfl (lo_at hl 1 rfl) ?_
      refine lv_imul hx hb dX12_takesText_149 ?_
      refine lv_iload_n hx hb dX12_takesText_150 rfl (lo_at hl 3 rfl) ?_
      refine lv_iadd hx hb dX12_takesText_151 ?_
      refine lv_aload_n hx hb dX12_takesText_152 rfl (lo_at hl 0 rfl) ?_
      refine s_getR hx hb hts hown hg hC fb_10_29 k33 mk_f_RX12_67 dX12_takesText_153 ?_
      refine lv_bipush (v := 112) hx hb dX12_takesText_156 (by decide) ?_
      refine lv_iload_n hx hb dX12_takesText_158 rfl (lo_at hl 3 rfl) ?_
      refine lv_iadd hx hb dX12_takesText_159 ?_
      obtain ⟨k34, hw⟩ := hw
      refine sf_2 k34.1 ?_
      refine s_iald hx hb hg hC k34.2.1 k34.2.2 dX12_takesText_160 ?_
      refine lv_topi (fun v35 ev35 => ?_)
      replace hw := hw v35 ev35
      obtain ⟨k36, hw⟩ := hw
      refine sf_3 k36.1 ?_
      refine s_iast hx hb hg hC k36.2.1 k36.2.2 dX12_takesText_161 (fun h37 H locs eh37 hC => ?_)
      replace hw := hw h37 eh37
      obtain ⟨v38, ev38⟩ : ∃ y : Int32, y = x3 + (1 : Int32) := ⟨_, rfl⟩
      replace hw := hw v38 ev38
      refine lo_iinc (v := v38) (lv' := [(3, .int v38), (0, .ref (A o)), (1, .int x1), (2, .int x2)]) hx hb dX12_takesText_162 hl (k := 3) rfl (by rw [ev38]; rfl) (by decide) rfl (fun ls hl => ?_)
      refine lv_goto (tgt := 77) hx hb dX12_takesText_165 (by decide) ?_
      exact ih v38 h37 H locs ls hC (lo_sub hl [1, 2, 3, 0] rfl) hw
set_option maxHeartbeats 4000000 in
set_option maxRecDepth 100000 in
theorem t_X12_takesText_L170 {p : Program} {l : Launch} {e : Env} {s : State} {m : MethodId} {args : Array Value} {below : List Frame} {meth : Method} {c : Code} {G : GG} {base : Nat} {A : Nat → Nat} {g0 : Hp} (hM : Mx G base p s m args meth c cX12_takesText 4 (some .int) RX12 "takesText") (o : Nat) (x1 : Int32) (x2 : Int32) (K228 : Hp → Prop) (Q : Int32 → Hp → Prop) (hK228 : ∀ (h : Hp) (H : Heap) (locs : List Loc) (ls : Array Slot), Cx2 G base A g0 A h s.heap H locs → lo_has ls 4 [(0, .ref (A o)), (1, .int x1), (2, .int x2)] → K228 h → W p l e rm_X12_takesText s m args below meth c H locs 0 0 (MQ below (va_Qi Q (PU2 G base A g0 A) (fun q => base ≤ q)) args s 0 0 (fun q => base ≤ q)) (F0 m 228 ls [])) : ∀ (n : Nat) (x3 : Int32) (h : Hp) (H : Heap) (locs : List Loc) (ls : Array Slot), Cx2 G base A g0 A h s.heap H locs → lo_has ls 4 [(0, .ref (A o)), (1, .int x1), (2, .int x2), (3, .int x3)] → wp_X12_takesText_L170 o x1 x2 K228 Q n x3 h → W p l e rm_X12_takesText s m args below meth c H locs 0 0 (MQ below (va_Qi Q (PU2 G base A g0 A) (fun q => base ≤ q)) args s 0 0 (fun q => base ≤ q)) (F0 m 170 ls []) := by
  intro n
  induction n with
  | zero =>
    intro x3 h H locs ls hC hl hw
    rw [wp_X12_takesText_L170] at hw
    exact hw.elim
  | succ n ih =>
    intro x3 h H locs ls hC hl hw
    rw [wp_X12_takesText_L170] at hw
    obtain ⟨hx, hb, hr, hml, hown, hts, hg, hs, hlk, hnm⟩ := id hM
    refine lv_iload_n hx hb dX12_takesText_170 rfl (lo_at hl 3 rfl) ?_
    refine lv_aload_n hx hb dX12_takesText_171 rfl (lo_at hl 0 rfl) ?_
    obtain ⟨k40, hw⟩ := hw
    refine s_getI hx hb hts hown hg hC fb_10_33 k40 mk_f_RX12_216 dX12_takesText_172 ?_
    refine lv_icmp_ge (tgt := 228) hx hb dX12_takesText_175 (by decide) (fun c41 => ?_) (fun c41 => ?_)
    ·
      replace hw := (if_pos c41).mp hw
      exact hK228  h H locs ls hC (lo_sub hl [0, 1, 2] rfl) hw
    ·
      replace hw := (if_neg c41).mp hw
      refine lv_aload_n hx hb dX12_takesText_178 rfl (lo_at hl 0 rfl) ?_
      refine s_getR hx hb hts hown hg hC fb_10_30 k40 mk_f_RX12_70 dX12_takesText_179 ?_
      refine lv_sipush (v := 600) hx hb dX12_takesText_182 (by decide) ?_
      refine lv_iload_n hx hb dX12_takesText_185 rfl (lo_at hl 1 rfl) ?_
      refine lv_imul hx hb dX12_takesText_186 ?_
      refine lv_iload_n hx hb dX12_takesText_187 rfl (lo_at hl 3 rfl) ?_
      refine lv_iadd hx hb dX12_takesText_188 ?_
      refine lv_aload_n hx hb dX12_takesText_189 rfl (lo_at hl 0 rfl) ?_
      refine s_getR hx hb hts hown hg hC fb_10_30 k40 mk_f_RX12_70 dX12_takesText_190 ?_
      refine lv_sipush (v := 4200) hx hb dX12_takesText_193 (by decide) ?_
      refine lv_iload_n hx hb dX12_takesText_196 rfl (lo_at hl 3 rfl) ?_
      refine lv_iadd hx hb dX12_takesText_197 ?_
      obtain ⟨k42, hw⟩ := hw
      refine sf_2 k42.1 ?_
      refine s_iald hx hb hg hC k42.2.1 k42.2.2 dX12_takesText_198 ?_
      refine lv_topi (fun v43 ev43 => ?_)
      replace hw := hw v43 ev43
      obtain ⟨k44, hw⟩ := hw
      refine sf_3 k44.1 ?_
      refine s_iast hx hb hg hC k44.2.1 k44.2.2 dX12_takesText_199 (fun h45 H locs eh45 hC => ?_)
      replace hw := hw h45 eh45
      refine lv_aload_n hx hb dX12_takesText_200 rfl (lo_at hl 0 rfl) ?_
      obtain ⟨k46, hw⟩ := hw
      refine s_getR hx hb hts hown hg hC fb_10_31 k46 mk_f_RX12_73 dX12_takesText_201 ?_
      refine lv_sipush (v := 600) hx hb dX12_takesText_204 (by decide) ?_
      refine lv_iload_n hx hb dX12_takesText_207 rfl (lo_at hl 1 rfl) ?_
      refine lv_imul hx hb dX12_takesText_208 ?_
      refine lv_iload_n hx hb dX12_takesText_209 rfl (lo_at hl 3 rfl) ?_
      refine lv_iadd hx hb dX12_takesText_210 ?_
      refine lv_aload_n hx hb dX12_takesText_211 rfl (lo_at hl 0 rfl) ?_
      refine s_getR hx hb hts hown hg hC fb_10_31 k46 mk_f_RX12_73 dX12_takesText_212 ?_
      refine lv_sipush (v := 4200) hx hb dX12_takesText_215 (by decide) ?_
      refine lv_iload_n hx hb dX12_takesText_218 rfl (lo_at hl 3 rfl) ?_
      refine lv_iadd hx hb dX12_takesText_219 ?_
      obtain ⟨k47, hw⟩ := hw
      refine sf_2 k47.1 ?_
      refine s_iald hx hb hg hC k47.2.1 k47.2.2 dX12_takesText_220 ?_
      refine lv_topi (fun v48 ev48 => ?_)
      replace hw := hw v48 ev48
      obtain ⟨k49, hw⟩ := hw
      refine sf_3 k49.1 ?_
      refine s_iast hx hb hg hC k49.2.1 k49.2.2 dX12_takesText_221 (fun h50 H locs eh50 hC => ?_)
      replace hw := hw h50 eh50
      obtain ⟨v51, ev51⟩ : ∃ y : Int32, y = x3 + (1 : Int32) := ⟨_, rfl⟩
      replace hw := hw v51 ev51
      refine lo_iinc (v := v51) (lv' := [(3, .int v51), (0, .ref (A o)), (1, .int x1), (2, .int x2)]) hx hb dX12_takesText_222 hl (k := 3) rfl (by rw [ev51]; rfl) (by decide) rfl (fun ls hl => ?_)
      refine lv_goto (tgt := 170) hx hb dX12_takesText_225 (by decide) ?_
      exact ih v51 h50 H locs ls hC (lo_sub hl [1, 2, 3, 0] rfl) hw
set_option maxHeartbeats 4000000 in
set_option maxRecDepth 100000 in
theorem t_X12_takesText_J68 {p : Program} {l : Launch} {e : Env} {s : State} {m : MethodId} {args : Array Value} {below : List Frame} {meth : Method} {c : Code} {G : GG} {base : Nat} {A : Nat → Nat} {g0 : Hp} (hM : Mx G base p s m args meth c cX12_takesText 4 (some .int) RX12 "takesText") (o : Nat) (x1 : Int32) (x2 : Int32) (Q : Int32 → Hp → Prop) (h : Hp) (H : Heap) (locs : List Loc) (ls : Array Slot) : Cx2 G base A g0 A h s.heap H locs → lo_has ls 4 [(0, .ref (A o)), (1, .int x1), (2, .int x2)] → wp_X12_takesText_J68 o x1 x2 Q h → W p l e rm_X12_takesText s m args below meth c H locs 0 0 (MQ below (va_Qi Q (PU2 G base A g0 A) (fun q => base ≤ q)) args s 0 0 (fun q => base ≤ q)) (F0 m 68 ls []) := by
  intro hC hl hw
  unfold wp_X12_takesText_J68 at hw
  obtain ⟨hx, hb, hr, hml, hown, hts, hg, hs, hlk, hnm⟩ := id hM
  refine lv_iload_n hx hb dX12_takesText_68 rfl (lo_at hl 2 rfl) ?_
  refine lv_iconst (v := -1) hx hb dX12_takesText_69 (by decide) ?_
  refine lv_icmp_ne (tgt := 75) hx hb dX12_takesText_70 (by decide) (fun c16 => ?_) (fun c16 => ?_)
  ·
    replace hw := (if_neg c16).mp hw
    refine lv_iconst (v := 0) hx hb dX12_takesText_75 (by decide) ?_
    refine lo_istore_n (lv' := [(3, .int ((0 : Int32))), (0, .ref (A o)), (1, .int x1), (2, .int x2)]) hx hb dX12_takesText_76 rfl hl (by decide) rfl (fun ls hl => ?_)
    refine t_X12_takesText_L77 hM o x1 x2 _ Q ?_ fuel (0 : Int32) h H locs ls hC (lo_sub hl [1, 2, 3, 0] rfl) hw
    intro  h39 H locs ls hC hl hw
    refine lv_iconst (v := 0) hx hb dX12_takesText_168 (by decide) ?_
    refine lo_istore_n (lv' := [(3, .int ((0 : Int32))), (0, .ref (A o)), (1, .int x1), (2, .int x2)]) hx hb dX12_takesText_169 rfl hl (by decide) rfl (fun ls hl => ?_)
    refine t_X12_takesText_L170 hM o x1 x2 _ Q ?_ fuel (0 : Int32) h39 H locs ls hC (lo_sub hl [1, 2, 3, 0] rfl) hw
    intro  h52 H locs ls hC hl hw
    refine lv_aload_n hx hb dX12_takesText_228 rfl (lo_at hl 0 rfl) ?_
    obtain ⟨k53, hw⟩ := hw
    refine s_getR hx hb hts hown hg hC fb_10_25 k53 mk_f_RX12_55 dX12_takesText_229 ?_
    refine lv_iload_n hx hb dX12_takesText_232 rfl (lo_at hl 1 rfl) ?_
    refine lv_iload_n hx hb dX12_takesText_233 rfl (lo_at hl 2 rfl) ?_
    obtain ⟨k54, hw⟩ := hw
    refine sf_3 k54.1 ?_
    refine s_iast hx hb hg hC k54.2.1 k54.2.2 dX12_takesText_234 (fun h55 H locs eh55 hC => ?_)
    replace hw := hw h55 eh55
    refine lv_aload_n hx hb dX12_takesText_235 rfl (lo_at hl 0 rfl) ?_
    refine lv_aload_n hx hb dX12_takesText_236 rfl (lo_at hl 0 rfl) ?_
    obtain ⟨k56, hw⟩ := hw
    refine s_getI hx hb hts hown hg hC fb_10_17 k56 mk_f_RX12_165 dX12_takesText_237 ?_
    refine lv_iconst (v := 1) hx hb dX12_takesText_240 (by decide) ?_
    refine lv_iadd hx hb dX12_takesText_241 ?_
    refine s_putI hx hb hts hown hg hC fb_10_17 k56 rfl rfl mk_f_RX12_165 dX12_takesText_242 (fun h57 H locs eh57 hC => ?_)
    replace hw := hw h57 eh57
    refine lv_iload_n hx hb dX12_takesText_245 rfl (lo_at hl 2 rfl) ?_
    exact ret2_i hM hC hw dX12_takesText_246
  ·
    replace hw := (if_pos c16).mp hw
    refine lv_iconst (v := -1) hx hb dX12_takesText_73 (by decide) ?_
    exact ret2_i hM hC hw dX12_takesText_74
set_option maxHeartbeats 4000000 in
set_option maxRecDepth 100000 in
theorem t_X12_takesText_J36 {p : Program} {l : Launch} {e : Env} {s : State} {m : MethodId} {args : Array Value} {below : List Frame} {meth : Method} {c : Code} {G : GG} {base : Nat} {A : Nat → Nat} {g0 : Hp} (hM : Mx G base p s m args meth c cX12_takesText 4 (some .int) RX12 "takesText") (o : Nat) (x1 : Int32) (s0 : Int32) (Q : Int32 → Hp → Prop) (h : Hp) (H : Heap) (locs : List Loc) (ls : Array Slot) : Cx2 G base A g0 A h s.heap H locs → lo_has ls 4 [(0, .ref (A o)), (1, .int x1)] → wp_X12_takesText_J36 o x1 s0 Q h → W p l e rm_X12_takesText s m args below meth c H locs 0 0 (MQ below (va_Qi Q (PU2 G base A g0 A) (fun q => base ≤ q)) args s 0 0 (fun q => base ≤ q)) (F0 m 36 ls [.int s0]) := by
  intro hC hl hw
  unfold wp_X12_takesText_J36 at hw
  obtain ⟨hx, hb, hr, hml, hown, hts, hg, hs, hlk, hnm⟩ := id hM
  refine lo_istore_n (lv' := [(2, .int s0), (0, .ref (A o)), (1, .int x1)]) hx hb dX12_takesText_36 rfl hl (by decide) rfl (fun ls hl => ?_)
  refine lv_aload_n hx hb dX12_takesText_37 rfl (lo_at hl 1 rfl) ?_
  refine lv_iconst (v := 0) hx hb dX12_takesText_38 (by decide) ?_
  obtain ⟨k13, hw⟩ := hw
  refine s_putI hx hb hts hown hg hC fb_10_19 k13 rfl rfl mk_f_RX12_175 dX12_takesText_39 (fun h14 H locs eh14 hC => ?_)
  replace hw := hw h14 eh14
  refine lv_iload_n hx hb dX12_takesText_42 rfl (lo_at hl 2 rfl) ?_
  refine lv_iconst (v := -1) hx hb dX12_takesText_43 (by decide) ?_
  refine lv_icmp_eq (tgt := 68) hx hb dX12_takesText_44 (by decide) (fun c15 => ?_) (fun c15 => ?_)
  ·
    replace hw := (if_pos c15).mp hw
    exact t_X12_takesText_J68 hM o x1 s0 Q  h14 H locs ls hC (lo_sub hl [1, 2, 0] rfl) hw
  ·
    replace hw := (if_neg c15).mp hw
    refine lv_iload_n hx hb dX12_takesText_47 rfl (lo_at hl 0 rfl) ?_
    refine lv_iconst (v := -1) hx hb dX12_takesText_48 (by decide) ?_
    refine lv_icmp_ne (tgt := 68) hx hb dX12_takesText_49 (by decide) (fun c58 => ?_) (fun c58 => ?_)
    ·
      replace hw := (if_neg c58).mp hw
      exact t_X12_takesText_J68 hM o x1 s0 Q  h14 H locs ls hC (lo_sub hl [1, 2, 0] rfl) hw
    ·
      replace hw := (if_pos c58).mp hw
      refine lv_aload_n hx hb dX12_takesText_52 rfl (lo_at hl 1 rfl) ?_
      refine lv_aload_n hx hb dX12_takesText_53 rfl (lo_at hl 1 rfl) ?_
      obtain ⟨k59, hw⟩ := hw
      refine s_getI hx hb hts hown hg hC fb_10_37 k59 mk_f_RX12_210 dX12_takesText_54 ?_
      refine s_putI hx hb hts hown hg hC fb_10_39 k59 rfl rfl mk_f_RX12_274 dX12_takesText_57 (fun h60 H locs eh60 hC => ?_)
      replace hw := hw h60 eh60
      refine lv_aload_n hx hb dX12_takesText_60 rfl (lo_at hl 1 rfl) ?_
      refine lv_aload_n hx hb dX12_takesText_61 rfl (lo_at hl 1 rfl) ?_
      obtain ⟨k61, hw⟩ := hw
      refine s_getI hx hb hts hown hg hC fb_10_38 k61 mk_f_RX12_213 dX12_takesText_62 ?_
      refine s_putI hx hb hts hown hg hC fb_10_40 k61 rfl rfl mk_f_RX12_79 dX12_takesText_65 (fun h62 H locs eh62 hC => ?_)
      replace hw := hw h62 eh62
      exact t_X12_takesText_J68 hM o x1 s0 Q  h62 H locs ls hC (lo_sub hl [1, 2, 0] rfl) hw
set_option maxHeartbeats 4000000 in
set_option maxRecDepth 100000 in
theorem t_X12_takesText_J20 {p : Program} {l : Launch} {e : Env} {s : State} {m : MethodId} {args : Array Value} {below : List Frame} {meth : Method} {c : Code} {G : GG} {base : Nat} {A : Nat → Nat} {g0 : Hp} (hM : Mx G base p s m args meth c cX12_takesText 4 (some .int) RX12 "takesText") (o : Nat) (x1 : Int32) (s0 : Int32) (s1 : Option Nat) (Q : Int32 → Hp → Prop) (h : Hp) (H : Heap) (locs : List Loc) (ls : Array Slot) : Cx2 G base A g0 A h s.heap H locs → lo_has ls 4 [(0, .ref (A o)), (1, .int x1)] → wp_X12_takesText_J20 o x1 s0 s1 Q h → W p l e rm_X12_takesText s m args below meth c H locs 0 0 (MQ below (va_Qi Q (PU2 G base A g0 A) (fun q => base ≤ q)) args s 0 0 (fun q => base ≤ q)) (F0 m 20 ls [.int s0, va_rf (Option.map A s1)]) := by
  intro hC hl hw
  unfold wp_X12_takesText_J20 at hw
  obtain ⟨hx, hb, hr, hml, hown, hts, hg, hs, hlk, hnm⟩ := id hM
  obtain ⟨k6, hw⟩ := hw
  refine sf_2 k6.1 ?_
  obtain ⟨k8, hw⟩ := hw
  refine s_putI hx hb hts hown hg hC fb_10_32 k6.2 k8.1 k8.2 mk_f_RX12_219 dX12_takesText_20 (fun h7 H locs eh7 hC => ?_)
  replace hw := hw h7 eh7
  refine lv_iload_n hx hb dX12_takesText_23 rfl (lo_at hl 1 rfl) ?_
  refine lv_iconst (v := -1) hx hb dX12_takesText_24 (by decide) ?_
  refine lv_icmp_ne (tgt := 32) hx hb dX12_takesText_25 (by decide) (fun c9 => ?_) (fun c9 => ?_)
  ·
    replace hw := (if_neg c9).mp hw
    refine lv_aload_n hx hb dX12_takesText_32 rfl (lo_at hl 0 rfl) ?_
    obtain ⟨k10, hw⟩ := hw
    refine res2_i hC (run2_V (As := []) (rest := []) hM hC hl.1.1 kv_RX12_277 (c_X12_readText l G base A o h7 _ hw) (hc_10) k10 rfl rfl rfl ⟨Nat.le_of_ble_eq_true rfl, Nat.le_of_ble_eq_true rfl⟩ (Nat.le_of_ble_eq_true rfl) ⟨Nat.le_of_ble_eq_true rfl, Nat.le_of_ble_eq_true rfl⟩ dX12_takesText_33) (fun z12 h11 H locs hw hC => ?_)
    exact t_X12_takesText_J36 hM o x1 z12 Q  h11 H locs ls hC (lo_sub hl [0, 1] rfl) hw
  ·
    replace hw := (if_pos c9).mp hw
    refine lv_iconst (v := -1) hx hb dX12_takesText_28 (by decide) ?_
    refine lv_goto (tgt := 36) hx hb dX12_takesText_29 (by decide) ?_
    exact t_X12_takesText_J36 hM o x1 (-1 : Int32) Q  h7 H locs ls hC (lo_sub hl [0, 1] rfl) hw
set_option maxHeartbeats 4000000 in
set_option maxRecDepth 100000 in
theorem c_X12_takesText (l : Launch) (G : GG) (base : Nat) (A : Nat → Nat) (o : Nat) (x1 : Int32) (h : Hp) (Q : Int32 → Hp → Prop) (hw : wp_X12_takesText o x1 h Q) : Met l yX12_takesText (ww yX12_takesText cX12_takesText 4 (some .int)) rm_X12_takesText (va_Pc [.ref (A o), .int x1] (PU2 G base A h A h)) (va_Qi Q (PU2 G base A h A) (fun q => base ≤ q)) 0 0 (fun q => base ≤ q) := by
  refine met2_of (own := RX12) (nm := "takesText") (by decide) rfl rfl (List.forall_mem_cons.mpr ⟨rfl, (List.forall_mem_cons.mpr ⟨rfl, (fun _ h => absurd h List.not_mem_nil)⟩)⟩) (Nat.le_of_ble_eq_true rfl) rfl ?_
  intro p e s m args below meth c H locs ls hM hC hl
  obtain ⟨hx, hb, hr, hml, hown, hts, hg, hs, hlk, hnm⟩ := id hM
  unfold wp_X12_takesText at hw
  refine lv_aload_n hx hb dX12_takesText_0 rfl (lo_at hl 0 rfl) ?_
  refine lv_iconst (v := 0) hx hb dX12_takesText_1 (by decide) ?_
  obtain ⟨k1, hw⟩ := hw
  refine s_putI hx hb hts hown hg hC fb_10_39 k1 rfl rfl mk_f_RX12_274 dX12_takesText_2 (fun h2 H locs eh2 hC => ?_)
  replace hw := hw h2 eh2
  refine lv_aload_n hx hb dX12_takesText_5 rfl (lo_at hl 0 rfl) ?_
  refine lv_iconst (v := -1) hx hb dX12_takesText_6 (by decide) ?_
  obtain ⟨k3, hw⟩ := hw
  refine s_putI hx hb hts hown hg hC fb_10_40 k3 rfl rfl mk_f_RX12_79 dX12_takesText_7 (fun h4 H locs eh4 hC => ?_)
  replace hw := hw h4 eh4
  refine lv_aload_n hx hb dX12_takesText_10 rfl (lo_at hl 0 rfl) ?_
  refine lv_iload_n hx hb dX12_takesText_11 rfl (lo_at hl 1 rfl) ?_
  refine lv_if_ne (tgt := 19) hx hb dX12_takesText_12 (by decide) (fun c5 => ?_) (fun c5 => ?_)
  ·
    replace hw := (if_neg c5).mp hw
    refine lv_iconst (v := 0) hx hb dX12_takesText_19 (by decide) ?_
    exact t_X12_takesText_J20 hM o x1 (0 : Int32) (some o) Q  h4 H locs ls hC (lo_sub hl [0, 1] rfl) hw
  ·
    replace hw := (if_pos c5).mp hw
    refine lv_iconst (v := 1) hx hb dX12_takesText_15 (by decide) ?_
    refine lv_goto (tgt := 20) hx hb dX12_takesText_16 (by decide) ?_
    exact t_X12_takesText_J20 hM o x1 (1 : Int32) (some o) Q  h4 H locs ls hC (lo_sub hl [0, 1] rfl) hw
abbrev rm_X12_laws : Room := { frames := 11, cells := 0, slots := 0, locals := 238 }
set_option maxRecDepth 100000 in
def wp_X12_laws (o : Nat) (h : Hp) (Q : Int32 → Hp → Prop) : Prop := ((hpK h o).1 = 20 + 10) ∧ (∀ h2 : Hp, h2 = stI h o 0 (0 : Int32) → (((hpK h2 o).1 = 20 + 10) ∧ (wp_X12_takesText o (0 : Int32) h2 (fun (z5 : Int32) (h4 : Hp) => Q z5 h4))))
set_option maxHeartbeats 4000000 in
set_option maxRecDepth 100000 in
theorem c_X12_laws (l : Launch) (G : GG) (base : Nat) (A : Nat → Nat) (o : Nat) (h : Hp) (Q : Int32 → Hp → Prop) (hw : wp_X12_laws o h Q) : Met l yX12_laws (ww yX12_laws cX12_laws 1 (some .int)) rm_X12_laws (va_Pc [.ref (A o)] (PU2 G base A h A h)) (va_Qi Q (PU2 G base A h A) (fun q => base ≤ q)) 0 0 (fun q => base ≤ q) := by
  refine met2_of (own := RX12) (nm := "laws") (by decide) rfl rfl (List.forall_mem_cons.mpr ⟨rfl, (fun _ h => absurd h List.not_mem_nil)⟩) (Nat.le_of_ble_eq_true rfl) rfl ?_
  intro p e s m args below meth c H locs ls hM hC hl
  obtain ⟨hx, hb, hr, hml, hown, hts, hg, hs, hlk, hnm⟩ := id hM
  unfold wp_X12_laws at hw
  refine lv_aload_n hx hb dX12_laws_0 rfl (lo_at hl 0 rfl) ?_
  refine lv_iconst (v := 0) hx hb dX12_laws_1 (by decide) ?_
  obtain ⟨k1, hw⟩ := hw
  refine s_putI hx hb hts hown hg hC fb_10_0 k1 rfl rfl mk_f_RX12_132 dX12_laws_2 (fun h2 H locs eh2 hC => ?_)
  replace hw := hw h2 eh2
  refine lv_aload_n hx hb dX12_laws_5 rfl (lo_at hl 0 rfl) ?_
  refine lv_iconst (v := 0) hx hb dX12_laws_6 (by decide) ?_
  obtain ⟨k3, hw⟩ := hw
  refine res2_i hC (run2_V (As := [.int ((0 : Int32))]) (rest := []) hM hC hl.1.1 kv_RX12_280 (c_X12_takesText l G base A o (0 : Int32) h2 _ hw) (hc_10) k3 rfl rfl rfl ⟨Nat.le_of_ble_eq_true rfl, Nat.le_of_ble_eq_true rfl⟩ (Nat.le_of_ble_eq_true rfl) ⟨Nat.le_of_ble_eq_true rfl, Nat.le_of_ble_eq_true rfl⟩ dX12_laws_7) (fun z5 h4 H locs hw hC => ?_)
  exact ret2_i hM hC hw dX12_laws_10
abbrev rm_X12_judgement : Room := { frames := 11, cells := 0, slots := 0, locals := 238 }
set_option maxRecDepth 100000 in
def wp_X12_judgement (o : Nat) (x1 : Int32) (h : Hp) (Q : Int32 → Hp → Prop) : Prop := ((hpK h o).1 = 20 + 10) ∧ (∀ h2 : Hp, h2 = stI h o 0 (0 : Int32) → (((hpK h2 o).1 = 20 + 10) ∧ (wp_X12_isIn o x1 (0 : Int32) ((hpI h2 o 45) - (1 : Int32)) h2 (fun (z5 : Int32) (h4 : Hp) => (if z5 = 0 then (((hpK h4 o).1 = 20 + 10) ∧ (wp_X12_takesText o (-1 : Int32) h4 (fun (z9 : Int32) (h8 : Hp) => Q z9 h8))) else (((hpK h4 o).1 = 20 + 10) ∧ (wp_X12_takesText o ((1 : Int32) + x1) h4 (fun (z12 : Int32) (h11 : Hp) => Q z12 h11))))))))
set_option maxHeartbeats 4000000 in
set_option maxRecDepth 100000 in
theorem c_X12_judgement (l : Launch) (G : GG) (base : Nat) (A : Nat → Nat) (o : Nat) (x1 : Int32) (h : Hp) (Q : Int32 → Hp → Prop) (hw : wp_X12_judgement o x1 h Q) : Met l yX12_judgement (ww yX12_judgement cX12_judgement 2 (some .int)) rm_X12_judgement (va_Pc [.ref (A o), .int x1] (PU2 G base A h A h)) (va_Qi Q (PU2 G base A h A) (fun q => base ≤ q)) 0 0 (fun q => base ≤ q) := by
  refine met2_of (own := RX12) (nm := "judgement") (by decide) rfl rfl (List.forall_mem_cons.mpr ⟨rfl, (List.forall_mem_cons.mpr ⟨rfl, (fun _ h => absurd h List.not_mem_nil)⟩)⟩) (Nat.le_of_ble_eq_true rfl) rfl ?_
  intro p e s m args below meth c H locs ls hM hC hl
  obtain ⟨hx, hb, hr, hml, hown, hts, hg, hs, hlk, hnm⟩ := id hM
  unfold wp_X12_judgement at hw
  refine lv_aload_n hx hb dX12_judgement_0 rfl (lo_at hl 0 rfl) ?_
  refine lv_iconst (v := 0) hx hb dX12_judgement_1 (by decide) ?_
  obtain ⟨k1, hw⟩ := hw
  refine s_putI hx hb hts hown hg hC fb_10_0 k1 rfl rfl mk_f_RX12_132 dX12_judgement_2 (fun h2 H locs eh2 hC => ?_)
  replace hw := hw h2 eh2
  refine lv_aload_n hx hb dX12_judgement_5 rfl (lo_at hl 0 rfl) ?_
  refine lv_aload_n hx hb dX12_judgement_6 rfl (lo_at hl 0 rfl) ?_
  refine lv_iload_n hx hb dX12_judgement_7 rfl (lo_at hl 1 rfl) ?_
  refine lv_iconst (v := 0) hx hb dX12_judgement_8 (by decide) ?_
  refine lv_aload_n hx hb dX12_judgement_9 rfl (lo_at hl 0 rfl) ?_
  obtain ⟨k3, hw⟩ := hw
  refine s_getI hx hb hts hown hg hC fb_10_45 k3 mk_f_RX12_283 dX12_judgement_10 ?_
  refine lv_iconst (v := 1) hx hb dX12_judgement_13 (by decide) ?_
  refine lv_isub hx hb dX12_judgement_14 ?_
  refine res2_i hC (run2_V (As := [.int x1, .int ((0 : Int32)), .int ((hpI h2 o 45) - (1 : Int32))]) (rest := [.ref (A o)]) hM hC hl.1.1 kv_RX12_144 (c_X12_isIn l G base A o x1 (0 : Int32) ((hpI h2 o 45) - (1 : Int32)) h2 _ hw) (hc_10) k3 rfl rfl rfl ⟨Nat.le_of_ble_eq_true rfl, Nat.le_of_ble_eq_true rfl⟩ (Nat.le_of_ble_eq_true rfl) ⟨Nat.le_of_ble_eq_true rfl, Nat.le_of_ble_eq_true rfl⟩ dX12_judgement_15) (fun z5 h4 H locs hw hC => ?_)
  refine lv_if_eq (tgt := 27) hx hb dX12_judgement_18 (by decide) (fun c6 => ?_) (fun c6 => ?_)
  ·
    replace hw := (if_pos c6).mp hw
    refine lv_iconst (v := -1) hx hb dX12_judgement_27 (by decide) ?_
    obtain ⟨k7, hw⟩ := hw
    refine res2_i hC (run2_V (As := [.int ((-1 : Int32))]) (rest := []) hM hC hl.1.1 kv_RX12_280 (c_X12_takesText l G base A o (-1 : Int32) h4 _ hw) (hc_10) k7 rfl rfl rfl ⟨Nat.le_of_ble_eq_true rfl, Nat.le_of_ble_eq_true rfl⟩ (Nat.le_of_ble_eq_true rfl) ⟨Nat.le_of_ble_eq_true rfl, Nat.le_of_ble_eq_true rfl⟩ dX12_judgement_28) (fun z9 h8 H locs hw hC => ?_)
    exact ret2_i hM hC hw dX12_judgement_31
  ·
    replace hw := (if_neg c6).mp hw
    refine lv_iconst (v := 1) hx hb dX12_judgement_21 (by decide) ?_
    refine lv_iload_n hx hb dX12_judgement_22 rfl (lo_at hl 1 rfl) ?_
    refine lv_iadd hx hb dX12_judgement_23 ?_
    refine lv_goto (tgt := 28) hx hb dX12_judgement_24 (by decide) ?_
    obtain ⟨k10, hw⟩ := hw
    refine res2_i hC (run2_V (As := [.int ((1 : Int32) + x1)]) (rest := []) hM hC hl.1.1 kv_RX12_280 (c_X12_takesText l G base A o ((1 : Int32) + x1) h4 _ hw) (hc_10) k10 rfl rfl rfl ⟨Nat.le_of_ble_eq_true rfl, Nat.le_of_ble_eq_true rfl⟩ (Nat.le_of_ble_eq_true rfl) ⟨Nat.le_of_ble_eq_true rfl, Nat.le_of_ble_eq_true rfl⟩ dX12_judgement_28) (fun z12 h11 H locs hw hC => ?_)
    exact ret2_i hM hC hw dX12_judgement_31
abbrev rm_X12_fault : Room := { frames := 0, cells := 0, slots := 0, locals := 0 }
set_option maxRecDepth 100000 in
def wp_X12_fault (o : Nat) (x1 : Int32) (h : Hp) (Q : Int32 → Hp → Prop) : Prop := ((hpK h o).1 = 20 + 10) ∧ (∀ h2 : Hp, h2 = stI h o 0 (0 : Int32) → ((if x1 = 0 then (((hpK h2 o).1 = 20 + 10) ∧ (Q (hpI h2 o 39) h2)) else ((if x1 = (1 : Int32) then (((hpK h2 o).1 = 20 + 10) ∧ (Q (hpI h2 o 40) h2)) else (Q (-1 : Int32) h2))))))
set_option maxHeartbeats 4000000 in
set_option maxRecDepth 100000 in
theorem c_X12_fault (l : Launch) (G : GG) (base : Nat) (A : Nat → Nat) (o : Nat) (x1 : Int32) (h : Hp) (Q : Int32 → Hp → Prop) (hw : wp_X12_fault o x1 h Q) : Met l yX12_fault (ww yX12_fault cX12_fault 2 (some .int)) rm_X12_fault (va_Pc [.ref (A o), .int x1] (PU2 G base A h A h)) (va_Qi Q (PU2 G base A h A) (fun q => base ≤ q)) 0 0 (fun q => base ≤ q) := by
  refine met2_of (own := RX12) (nm := "fault") (by decide) rfl rfl (List.forall_mem_cons.mpr ⟨rfl, (List.forall_mem_cons.mpr ⟨rfl, (fun _ h => absurd h List.not_mem_nil)⟩)⟩) (Nat.le_of_ble_eq_true rfl) rfl ?_
  intro p e s m args below meth c H locs ls hM hC hl
  obtain ⟨hx, hb, hr, hml, hown, hts, hg, hs, hlk, hnm⟩ := id hM
  unfold wp_X12_fault at hw
  refine lv_aload_n hx hb dX12_fault_0 rfl (lo_at hl 0 rfl) ?_
  refine lv_iconst (v := 0) hx hb dX12_fault_1 (by decide) ?_
  obtain ⟨k1, hw⟩ := hw
  refine s_putI hx hb hts hown hg hC fb_10_0 k1 rfl rfl mk_f_RX12_132 dX12_fault_2 (fun h2 H locs eh2 hC => ?_)
  replace hw := hw h2 eh2
  refine lv_iload_n hx hb dX12_fault_5 rfl (lo_at hl 1 rfl) ?_
  refine lv_if_ne (tgt := 16) hx hb dX12_fault_6 (by decide) (fun c3 => ?_) (fun c3 => ?_)
  ·
    replace hw := (if_neg c3).mp hw
    refine lv_iload_n hx hb dX12_fault_16 rfl (lo_at hl 1 rfl) ?_
    refine lv_iconst (v := 1) hx hb dX12_fault_17 (by decide) ?_
    refine lv_icmp_ne (tgt := 28) hx hb dX12_fault_18 (by decide) (fun c4 => ?_) (fun c4 => ?_)
    ·
      replace hw := (if_neg c4).mp hw
      refine lv_iconst (v := -1) hx hb dX12_fault_28 (by decide) ?_
      exact ret2_i hM hC hw dX12_fault_29
    ·
      replace hw := (if_pos c4).mp hw
      refine lv_aload_n hx hb dX12_fault_21 rfl (lo_at hl 0 rfl) ?_
      obtain ⟨k5, hw⟩ := hw
      refine s_getI hx hb hts hown hg hC fb_10_40 k5 mk_f_RX12_79 dX12_fault_22 ?_
      refine lv_goto (tgt := 29) hx hb dX12_fault_25 (by decide) ?_
      exact ret2_i hM hC hw dX12_fault_29
  ·
    replace hw := (if_pos c3).mp hw
    refine lv_aload_n hx hb dX12_fault_9 rfl (lo_at hl 0 rfl) ?_
    obtain ⟨k6, hw⟩ := hw
    refine s_getI hx hb hts hown hg hC fb_10_39 k6 mk_f_RX12_274 dX12_fault_10 ?_
    refine lv_goto (tgt := 29) hx hb dX12_fault_13 (by decide) ?_
    exact ret2_i hM hC hw dX12_fault_29
abbrev rm_X12_twoOf : Room := { frames := 0, cells := 0, slots := 0, locals := 0 }
set_option maxRecDepth 100000 in
def wp_X12_twoOf (o : Nat) (x1 : Int32) (x2 : Int32) (x3 : Int32) (h : Hp) (Q : Int32 → Hp → Prop) : Prop := (if x1 = (2 : Int32) then (Q (x2 + x3) h) else ((if x1 = (3 : Int32) then (Q (x2 - x3) h) else ((if x1 = (4 : Int32) then (Q (x2 * x3) h) else ((if x1 = (5 : Int32) then ((¬ x3 = 0) ∧ (Q (x2 / x3) h)) else ((if x1 = (6 : Int32) then ((if x3 ≤ x2 then (Q (0 : Int32) h) else (Q (1 : Int32) h))) else ((if x1 = (7 : Int32) then ((if x2 = x3 then (Q (1 : Int32) h) else (Q (0 : Int32) h))) else ((if x1 = (8 : Int32) then ((if x2 ≤ x3 then (Q (0 : Int32) h) else (Q (1 : Int32) h))) else ((if x1 = (10 : Int32) then (Q (x2 * x3) h) else ((if (x2 + x3) ≤ 0 then (Q (0 : Int32) h) else (Q (1 : Int32) h))))))))))))))))))
set_option maxHeartbeats 4000000 in
set_option maxRecDepth 100000 in
theorem c_X12_twoOf (l : Launch) (G : GG) (base : Nat) (A : Nat → Nat) (o : Nat) (x1 : Int32) (x2 : Int32) (x3 : Int32) (h : Hp) (Q : Int32 → Hp → Prop) (hw : wp_X12_twoOf o x1 x2 x3 h Q) : Met l yX12_twoOf (ww yX12_twoOf cX12_twoOf 4 (some .int)) rm_X12_twoOf (va_Pc [.ref (A o), .int x1, .int x2, .int x3] (PU2 G base A h A h)) (va_Qi Q (PU2 G base A h A) (fun q => base ≤ q)) 0 0 (fun q => base ≤ q) := by
  refine met2_of (own := RX12) (nm := "twoOf") (by decide) rfl rfl (List.forall_mem_cons.mpr ⟨rfl, (List.forall_mem_cons.mpr ⟨rfl, (List.forall_mem_cons.mpr ⟨rfl, (List.forall_mem_cons.mpr ⟨rfl, (fun _ h => absurd h List.not_mem_nil)⟩)⟩)⟩)⟩) (Nat.le_of_ble_eq_true rfl) rfl ?_
  intro p e s m args below meth c H locs ls hM hC hl
  obtain ⟨hx, hb, hr, hml, hown, hts, hg, hs, hlk, hnm⟩ := id hM
  unfold wp_X12_twoOf at hw
  refine lv_iload_n hx hb dX12_twoOf_0 rfl (lo_at hl 1 rfl) ?_
  refine lv_iconst (v := 2) hx hb dX12_twoOf_1 (by decide) ?_
  refine lv_icmp_ne (tgt := 9) hx hb dX12_twoOf_2 (by decide) (fun c1 => ?_) (fun c1 => ?_)
  ·
    replace hw := (if_neg c1).mp hw
    refine lv_iload_n hx hb dX12_twoOf_9 rfl (lo_at hl 1 rfl) ?_
    refine lv_iconst (v := 3) hx hb dX12_twoOf_10 (by decide) ?_
    refine lv_icmp_ne (tgt := 18) hx hb dX12_twoOf_11 (by decide) (fun c2 => ?_) (fun c2 => ?_)
    ·
      replace hw := (if_neg c2).mp hw
      refine lv_iload_n hx hb dX12_twoOf_18 rfl (lo_at hl 1 rfl) ?_
      refine lv_iconst (v := 4) hx hb dX12_twoOf_19 (by decide) ?_
      refine lv_icmp_ne (tgt := 27) hx hb dX12_twoOf_20 (by decide) (fun c3 => ?_) (fun c3 => ?_)
      ·
        replace hw := (if_neg c3).mp hw
        refine lv_iload_n hx hb dX12_twoOf_27 rfl (lo_at hl 1 rfl) ?_
        refine lv_iconst (v := 5) hx hb dX12_twoOf_28 (by decide) ?_
        refine lv_icmp_ne (tgt := 36) hx hb dX12_twoOf_29 (by decide) (fun c4 => ?_) (fun c4 => ?_)
        ·
          replace hw := (if_neg c4).mp hw
          refine lv_iload_n hx hb dX12_twoOf_36 rfl (lo_at hl 1 rfl) ?_
          refine lv_bipush (v := 6) hx hb dX12_twoOf_37 (by decide) ?_
          refine lv_icmp_ne (tgt := 53) hx hb dX12_twoOf_39 (by decide) (fun c5 => ?_) (fun c5 => ?_)
          ·
            replace hw := (if_neg c5).mp hw
            refine lv_iload_n hx hb dX12_twoOf_53 rfl (lo_at hl 1 rfl) ?_
            refine lv_bipush (v := 7) hx hb dX12_twoOf_54 (by decide) ?_
            refine lv_icmp_ne (tgt := 70) hx hb dX12_twoOf_56 (by decide) (fun c6 => ?_) (fun c6 => ?_)
            ·
              replace hw := (if_neg c6).mp hw
              refine lv_iload_n hx hb dX12_twoOf_70 rfl (lo_at hl 1 rfl) ?_
              refine lv_bipush (v := 8) hx hb dX12_twoOf_71 (by decide) ?_
              refine lv_icmp_ne (tgt := 87) hx hb dX12_twoOf_73 (by decide) (fun c7 => ?_) (fun c7 => ?_)
              ·
                replace hw := (if_neg c7).mp hw
                refine lv_iload_n hx hb dX12_twoOf_87 rfl (lo_at hl 1 rfl) ?_
                refine lv_bipush (v := 10) hx hb dX12_twoOf_88 (by decide) ?_
                refine lv_icmp_ne (tgt := 99) hx hb dX12_twoOf_90 (by decide) (fun c8 => ?_) (fun c8 => ?_)
                ·
                  replace hw := (if_neg c8).mp hw
                  refine lv_iload_n hx hb dX12_twoOf_99 rfl (lo_at hl 2 rfl) ?_
                  refine lv_iload_n hx hb dX12_twoOf_100 rfl (lo_at hl 3 rfl) ?_
                  refine lv_iadd hx hb dX12_twoOf_101 ?_
                  refine lv_if_le (tgt := 109) hx hb dX12_twoOf_102 (by decide) (fun c9 => ?_) (fun c9 => ?_)
                  ·
                    replace hw := (if_pos c9).mp hw
                    refine lv_iconst (v := 0) hx hb dX12_twoOf_109 (by decide) ?_
                    exact ret2_i hM hC hw dX12_twoOf_110
                  ·
                    replace hw := (if_neg c9).mp hw
                    refine lv_iconst (v := 1) hx hb dX12_twoOf_105 (by decide) ?_
                    refine lv_goto (tgt := 110) hx hb dX12_twoOf_106 (by decide) ?_
                    exact ret2_i hM hC hw dX12_twoOf_110
                ·
                  replace hw := (if_pos c8).mp hw
                  refine lv_iload_n hx hb dX12_twoOf_93 rfl (lo_at hl 2 rfl) ?_
                  refine lv_iload_n hx hb dX12_twoOf_94 rfl (lo_at hl 3 rfl) ?_
                  refine lv_imul hx hb dX12_twoOf_95 ?_
                  refine lv_goto (tgt := 110) hx hb dX12_twoOf_96 (by decide) ?_
                  exact ret2_i hM hC hw dX12_twoOf_110
              ·
                replace hw := (if_pos c7).mp hw
                refine lv_iload_n hx hb dX12_twoOf_76 rfl (lo_at hl 2 rfl) ?_
                refine lv_iload_n hx hb dX12_twoOf_77 rfl (lo_at hl 3 rfl) ?_
                refine lv_icmp_le (tgt := 85) hx hb dX12_twoOf_78 (by decide) (fun c10 => ?_) (fun c10 => ?_)
                ·
                  replace hw := (if_pos c10).mp hw
                  refine lv_iconst (v := 0) hx hb dX12_twoOf_85 (by decide) ?_
                  exact ret2_i hM hC hw dX12_twoOf_86
                ·
                  replace hw := (if_neg c10).mp hw
                  refine lv_iconst (v := 1) hx hb dX12_twoOf_81 (by decide) ?_
                  refine lv_goto (tgt := 86) hx hb dX12_twoOf_82 (by decide) ?_
                  exact ret2_i hM hC hw dX12_twoOf_86
            ·
              replace hw := (if_pos c6).mp hw
              refine lv_iload_n hx hb dX12_twoOf_59 rfl (lo_at hl 2 rfl) ?_
              refine lv_iload_n hx hb dX12_twoOf_60 rfl (lo_at hl 3 rfl) ?_
              refine lv_icmp_ne (tgt := 68) hx hb dX12_twoOf_61 (by decide) (fun c11 => ?_) (fun c11 => ?_)
              ·
                replace hw := (if_neg c11).mp hw
                refine lv_iconst (v := 0) hx hb dX12_twoOf_68 (by decide) ?_
                exact ret2_i hM hC hw dX12_twoOf_69
              ·
                replace hw := (if_pos c11).mp hw
                refine lv_iconst (v := 1) hx hb dX12_twoOf_64 (by decide) ?_
                refine lv_goto (tgt := 69) hx hb dX12_twoOf_65 (by decide) ?_
                exact ret2_i hM hC hw dX12_twoOf_69
          ·
            replace hw := (if_pos c5).mp hw
            refine lv_iload_n hx hb dX12_twoOf_42 rfl (lo_at hl 2 rfl) ?_
            refine lv_iload_n hx hb dX12_twoOf_43 rfl (lo_at hl 3 rfl) ?_
            refine lv_icmp_ge (tgt := 51) hx hb dX12_twoOf_44 (by decide) (fun c12 => ?_) (fun c12 => ?_)
            ·
              replace hw := (if_pos c12).mp hw
              refine lv_iconst (v := 0) hx hb dX12_twoOf_51 (by decide) ?_
              exact ret2_i hM hC hw dX12_twoOf_52
            ·
              replace hw := (if_neg c12).mp hw
              refine lv_iconst (v := 1) hx hb dX12_twoOf_47 (by decide) ?_
              refine lv_goto (tgt := 52) hx hb dX12_twoOf_48 (by decide) ?_
              exact ret2_i hM hC hw dX12_twoOf_52
        ·
          replace hw := (if_pos c4).mp hw
          refine lv_iload_n hx hb dX12_twoOf_32 rfl (lo_at hl 2 rfl) ?_
          refine lv_iload_n hx hb dX12_twoOf_33 rfl (lo_at hl 3 rfl) ?_
          obtain ⟨k13, hw⟩ := hw
          refine lv_idiv hx hb dX12_twoOf_34 k13 ?_
          exact ret2_i hM hC hw dX12_twoOf_35
      ·
        replace hw := (if_pos c3).mp hw
        refine lv_iload_n hx hb dX12_twoOf_23 rfl (lo_at hl 2 rfl) ?_
        refine lv_iload_n hx hb dX12_twoOf_24 rfl (lo_at hl 3 rfl) ?_
        refine lv_imul hx hb dX12_twoOf_25 ?_
        exact ret2_i hM hC hw dX12_twoOf_26
    ·
      replace hw := (if_pos c2).mp hw
      refine lv_iload_n hx hb dX12_twoOf_14 rfl (lo_at hl 2 rfl) ?_
      refine lv_iload_n hx hb dX12_twoOf_15 rfl (lo_at hl 3 rfl) ?_
      refine lv_isub hx hb dX12_twoOf_16 ?_
      exact ret2_i hM hC hw dX12_twoOf_17
  ·
    replace hw := (if_pos c1).mp hw
    refine lv_iload_n hx hb dX12_twoOf_5 rfl (lo_at hl 2 rfl) ?_
    refine lv_iload_n hx hb dX12_twoOf_6 rfl (lo_at hl 3 rfl) ?_
    refine lv_iadd hx hb dX12_twoOf_7 ?_
    exact ret2_i hM hC hw dX12_twoOf_8
abbrev rm_X12_worth : Room := { frames := 1, cells := 0, slots := 0, locals := 23 }
set_option maxRecDepth 100000 in
def wp_X12_worth_J83 (o : Nat) (x1 : Int32) (x3 : Int32) (x4 : Int32) (x5 : Int32) (s0 : Int32) (s1 : Int32) (s2 : Option Nat) (KH : Int32 → Int32 → Hp → Prop) (K176 : Hp → Prop) (Q : Int32 → Hp → Prop) (h : Hp) : Prop := okA h s2 1 s1 ∧ (∀ h16 : Hp, h16 = stI h (ad s2) (s1).toNatClampNeg s0 → (∀ v17 : Int32, v17 = x4 + (1 : Int32) → (∀ v18 : Int32, v18 = x5 + (1 : Int32) → (KH v17 v18 h16))))
set_option maxRecDepth 100000 in
def wp_X12_worth_J45 (o : Nat) (x1 : Int32) (x3 : Int32) (x4 : Int32) (x5 : Int32) (KH : Int32 → Int32 → Hp → Prop) (K176 : Hp → Prop) (Q : Int32 → Hp → Prop) (h : Hp) : Prop := ((hpK h o).1 = 20 + 10) ∧ (okA h (hpR h o 30) 1 x5 ∧ (∀ v9 : Int32, v9 = hpI h (ad (hpR h o 30)) (x5).toNatClampNeg → ((if v9 = 0 then (okA h (hpR h o 31) 1 x5 ∧ (∀ v20 : Int32, v20 = hpI h (ad (hpR h o 31)) (x5).toNatClampNeg → (wp_X12_worth_J83 o x1 x3 x4 x5 v20 x4 (hpR h o 42) KH K176 Q h))) else (okA h (hpR h o 31) 1 x5 ∧ (∀ v12 : Int32, v12 = hpI h (ad (hpR h o 31)) (x5).toNatClampNeg → (okA h (hpR h o 41) 1 v12 ∧ (∀ v14 : Int32, v14 = hpI h (ad (hpR h o 41)) (v12).toNatClampNeg → (wp_X12_worth_J83 o x1 x3 x4 x5 v14 x4 (hpR h o 42) KH K176 Q h)))))))))
set_option maxRecDepth 100000 in
def wp_X12_worth_L12 (o : Nat) (x1 : Int32) (x3 : Int32) (K176 : Hp → Prop) (Q : Int32 → Hp → Prop) : Nat → Int32 → Int32 → Hp → Prop
  | 0, _, _, _ => False
  | n + 1, x4, x5, h => (if (((600 : Int32) * x1) + x3) ≤ x5 then (K176 h) else (((hpK h o).1 = 20 + 10) ∧ (okA h (hpR h o 30) 1 x5 ∧ (∀ v5 : Int32, v5 = hpI h (ad (hpR h o 30)) (x5).toNatClampNeg → ((if v5 = 0 then (wp_X12_worth_J45 o x1 x3 x4 x5 (wp_X12_worth_L12 o x1 x3 K176 Q n) K176 Q h) else (okA h (hpR h o 30) 1 x5 ∧ (∀ v22 : Int32, v22 = hpI h (ad (hpR h o 30)) (x5).toNatClampNeg → ((if v22 = (1 : Int32) then (wp_X12_worth_J45 o x1 x3 x4 x5 (wp_X12_worth_L12 o x1 x3 K176 Q n) K176 Q h) else (okA h (hpR h o 30) 1 x5 ∧ (∀ v25 : Int32, v25 = hpI h (ad (hpR h o 30)) (x5).toNatClampNeg → ((if v25 = (9 : Int32) then (okA h (hpR h o 42) 1 (x4 - (1 : Int32)) ∧ (∀ v40 : Int32, v40 = hpI h (ad (hpR h o 42)) (x4 - (1 : Int32)).toNatClampNeg → (okA h (hpR h o 42) 1 (x4 - (1 : Int32)) ∧ (∀ h42 : Hp, h42 = stI h (ad (hpR h o 42)) (x4 - (1 : Int32)).toNatClampNeg ((1 : Int32) - v40) → (∀ v43 : Int32, v43 = x5 + (1 : Int32) → (wp_X12_worth_L12 o x1 x3 K176 Q n x4 v43 h42)))))) else (∀ v27 : Int32, v27 = x4 - (1 : Int32) → (okA h (hpR h o 30) 1 x5 ∧ (∀ v29 : Int32, v29 = hpI h (ad (hpR h o 30)) (x5).toNatClampNeg → (okA h (hpR h o 42) 1 (v27 - (1 : Int32)) ∧ (∀ v31 : Int32, v31 = hpI h (ad (hpR h o 42)) (v27 - (1 : Int32)).toNatClampNeg → (okA h (hpR h o 42) 1 v27 ∧ (∀ v33 : Int32, v33 = hpI h (ad (hpR h o 42)) (v27).toNatClampNeg → (wp_X12_twoOf o v29 v31 v33 h (fun (z35 : Int32) (h34 : Hp) => okA h34 (hpR h o 42) 1 (v27 - (1 : Int32)) ∧ (∀ h37 : Hp, h37 = stI h34 (ad (hpR h o 42)) (v27 - (1 : Int32)).toNatClampNeg z35 → (∀ v38 : Int32, v38 = x5 + (1 : Int32) → (wp_X12_worth_L12 o x1 x3 K176 Q n v27 v38 h37))))))))))))))))))))))))))
set_option maxRecDepth 100000 in
def wp_X12_worth (o : Nat) (x1 : Int32) (x2 : Int32) (x3 : Int32) (h : Hp) (Q : Int32 → Hp → Prop) : Prop := ∀ v1 : Int32, v1 = ((600 : Int32) * x1) + x2 → (wp_X12_worth_L12 o x1 x3 (fun (h44 : Hp) => ((hpK h44 o).1 = 20 + 10) ∧ (okA h44 (hpR h44 o 42) 1 (0 : Int32) ∧ (∀ v47 : Int32, v47 = hpI h44 (ad (hpR h44 o 42)) ((0 : Int32)).toNatClampNeg → (Q v47 h44)))) Q fuel (0 : Int32) v1 h)
set_option maxHeartbeats 4000000 in
set_option maxRecDepth 100000 in
theorem t_X12_worth_J83 {p : Program} {l : Launch} {e : Env} {s : State} {m : MethodId} {args : Array Value} {below : List Frame} {meth : Method} {c : Code} {G : GG} {base : Nat} {A : Nat → Nat} {g0 : Hp} (hM : Mx G base p s m args meth c cX12_worth 6 (some .int) RX12 "worth") (o : Nat) (x1 : Int32) (x3 : Int32) (x4 : Int32) (x5 : Int32) (s0 : Int32) (s1 : Int32) (s2 : Option Nat) (KH : Int32 → Int32 → Hp → Prop) (K176 : Hp → Prop) (Q : Int32 → Hp → Prop) (hKH : ∀ (y4 : Int32) (y5 : Int32) (h : Hp) (H : Heap) (locs : List Loc) (ls : Array Slot), Cx2 G base A g0 A h s.heap H locs → lo_has ls 6 [(0, .ref (A o)), (1, .int x1), (3, .int x3), (4, .int y4), (5, .int y5)] → KH y4 y5 h → W p l e rm_X12_worth s m args below meth c H locs 0 0 (MQ below (va_Qi Q (PU2 G base A g0 A) (fun q => base ≤ q)) args s 0 0 (fun q => base ≤ q)) (F0 m 12 ls [])) (hK176 : ∀ (h : Hp) (H : Heap) (locs : List Loc) (ls : Array Slot), Cx2 G base A g0 A h s.heap H locs → lo_has ls 6 [(0, .ref (A o))] → K176 h → W p l e rm_X12_worth s m args below meth c H locs 0 0 (MQ below (va_Qi Q (PU2 G base A g0 A) (fun q => base ≤ q)) args s 0 0 (fun q => base ≤ q)) (F0 m 176 ls [])) (h : Hp) (H : Heap) (locs : List Loc) (ls : Array Slot) : Cx2 G base A g0 A h s.heap H locs → lo_has ls 6 [(0, .ref (A o)), (1, .int x1), (3, .int x3), (4, .int x4), (5, .int x5)] → wp_X12_worth_J83 o x1 x3 x4 x5 s0 s1 s2 KH K176 Q h → W p l e rm_X12_worth s m args below meth c H locs 0 0 (MQ below (va_Qi Q (PU2 G base A g0 A) (fun q => base ≤ q)) args s 0 0 (fun q => base ≤ q)) (F0 m 83 ls [.int s0, .int s1, va_rf (Option.map A s2)]) := by
  intro hC hl hw
  unfold wp_X12_worth_J83 at hw
  obtain ⟨hx, hb, hr, hml, hown, hts, hg, hs, hlk, hnm⟩ := id hM
  obtain ⟨k15, hw⟩ := hw
  refine sf_3 k15.1 ?_
  refine s_iast hx hb hg hC k15.2.1 k15.2.2 dX12_worth_83 (fun h16 H locs eh16 hC => ?_)
  replace hw := hw h16 eh16
  refine lv_iload hx hb dX12_worth_84 (lo_at hl 3 rfl) ?_
  refine lv_iconst (v := 1) hx hb dX12_worth_86 (by decide) ?_
  refine lv_iadd hx hb dX12_worth_87 ?_
  refine lv_topi (fun v17 ev17 => ?_)
  replace hw := hw v17 ev17
  refine lo_istore (lv' := [(4, .int v17), (0, .ref (A o)), (1, .int x1), (3, .int x3), (5, .int x5)]) hx hb dX12_worth_88 hl (by decide) rfl (fun ls hl => ?_)
  refine lv_goto (tgt := 170) hx hb dX12_worth_90 (by decide) ?_
  obtain ⟨v18, ev18⟩ : ∃ y : Int32, y = x5 + (1 : Int32) := ⟨_, rfl⟩
  replace hw := hw v18 ev18
  refine lo_iinc (v := v18) (lv' := [(5, .int v18), (4, .int v17), (0, .ref (A o)), (1, .int x1), (3, .int x3)]) hx hb dX12_worth_170 hl (k := 4) rfl (by rw [ev18]; rfl) (by decide) rfl (fun ls hl => ?_)
  refine lv_goto (tgt := 12) hx hb dX12_worth_173 (by decide) ?_
  exact hKH v17 v18 h16 H locs ls hC (lo_sub hl [2, 3, 4, 1, 0] rfl) hw
set_option maxHeartbeats 4000000 in
set_option maxRecDepth 100000 in
theorem t_X12_worth_J45 {p : Program} {l : Launch} {e : Env} {s : State} {m : MethodId} {args : Array Value} {below : List Frame} {meth : Method} {c : Code} {G : GG} {base : Nat} {A : Nat → Nat} {g0 : Hp} (hM : Mx G base p s m args meth c cX12_worth 6 (some .int) RX12 "worth") (o : Nat) (x1 : Int32) (x3 : Int32) (x4 : Int32) (x5 : Int32) (KH : Int32 → Int32 → Hp → Prop) (K176 : Hp → Prop) (Q : Int32 → Hp → Prop) (hKH : ∀ (y4 : Int32) (y5 : Int32) (h : Hp) (H : Heap) (locs : List Loc) (ls : Array Slot), Cx2 G base A g0 A h s.heap H locs → lo_has ls 6 [(0, .ref (A o)), (1, .int x1), (3, .int x3), (4, .int y4), (5, .int y5)] → KH y4 y5 h → W p l e rm_X12_worth s m args below meth c H locs 0 0 (MQ below (va_Qi Q (PU2 G base A g0 A) (fun q => base ≤ q)) args s 0 0 (fun q => base ≤ q)) (F0 m 12 ls [])) (hK176 : ∀ (h : Hp) (H : Heap) (locs : List Loc) (ls : Array Slot), Cx2 G base A g0 A h s.heap H locs → lo_has ls 6 [(0, .ref (A o))] → K176 h → W p l e rm_X12_worth s m args below meth c H locs 0 0 (MQ below (va_Qi Q (PU2 G base A g0 A) (fun q => base ≤ q)) args s 0 0 (fun q => base ≤ q)) (F0 m 176 ls [])) (h : Hp) (H : Heap) (locs : List Loc) (ls : Array Slot) : Cx2 G base A g0 A h s.heap H locs → lo_has ls 6 [(0, .ref (A o)), (1, .int x1), (3, .int x3), (4, .int x4), (5, .int x5)] → wp_X12_worth_J45 o x1 x3 x4 x5 KH K176 Q h → W p l e rm_X12_worth s m args below meth c H locs 0 0 (MQ below (va_Qi Q (PU2 G base A g0 A) (fun q => base ≤ q)) args s 0 0 (fun q => base ≤ q)) (F0 m 45 ls []) := by
  intro hC hl hw
  unfold wp_X12_worth_J45 at hw
  obtain ⟨hx, hb, hr, hml, hown, hts, hg, hs, hlk, hnm⟩ := id hM
  refine lv_aload_n hx hb dX12_worth_45 rfl (lo_at hl 0 rfl) ?_
  obtain ⟨k7, hw⟩ := hw
  refine s_getR hx hb hts hown hg hC fb_10_42 k7 mk_f_RX12_86 dX12_worth_46 ?_
  refine lv_iload hx hb dX12_worth_49 (lo_at hl 3 rfl) ?_
  refine lv_aload_n hx hb dX12_worth_51 rfl (lo_at hl 0 rfl) ?_
  refine s_getR hx hb hts hown hg hC fb_10_30 k7 mk_f_RX12_70 dX12_worth_52 ?_
  refine lv_iload hx hb dX12_worth_55 (lo_at hl 4 rfl) ?_
  obtain ⟨k8, hw⟩ := hw
  refine sf_2 k8.1 ?_
  refine s_iald hx hb hg hC k8.2.1 k8.2.2 dX12_worth_57 ?_
  refine lv_topi (fun v9 ev9 => ?_)
  replace hw := hw v9 ev9
  refine lv_if_ne (tgt := 71) hx hb dX12_worth_58 (by decide) (fun c10 => ?_) (fun c10 => ?_)
  ·
    replace hw := (if_neg c10).mp hw
    refine lv_aload_n hx hb dX12_worth_71 rfl (lo_at hl 0 rfl) ?_
    refine s_getR hx hb hts hown hg hC fb_10_41 k7 mk_f_RX12_83 dX12_worth_72 ?_
    refine lv_aload_n hx hb dX12_worth_75 rfl (lo_at hl 0 rfl) ?_
    refine s_getR hx hb hts hown hg hC fb_10_31 k7 mk_f_RX12_73 dX12_worth_76 ?_
    refine lv_iload hx hb dX12_worth_79 (lo_at hl 4 rfl) ?_
    obtain ⟨k11, hw⟩ := hw
    refine sf_2 k11.1 ?_
    refine s_iald hx hb hg hC k11.2.1 k11.2.2 dX12_worth_81 ?_
    refine lv_topi (fun v12 ev12 => ?_)
    replace hw := hw v12 ev12
    obtain ⟨k13, hw⟩ := hw
    refine sf_2 k13.1 ?_
    refine s_iald hx hb hg hC k13.2.1 k13.2.2 dX12_worth_82 ?_
    refine lv_topi (fun v14 ev14 => ?_)
    replace hw := hw v14 ev14
    exact t_X12_worth_J83 hM o x1 x3 x4 x5 v14 x4 (hpR h o 42) KH K176 Q hKH hK176 h H locs ls hC (lo_sub hl [0, 1, 2, 3, 4] rfl) hw
  ·
    replace hw := (if_pos c10).mp hw
    refine lv_aload_n hx hb dX12_worth_61 rfl (lo_at hl 0 rfl) ?_
    refine s_getR hx hb hts hown hg hC fb_10_31 k7 mk_f_RX12_73 dX12_worth_62 ?_
    refine lv_iload hx hb dX12_worth_65 (lo_at hl 4 rfl) ?_
    obtain ⟨k19, hw⟩ := hw
    refine sf_2 k19.1 ?_
    refine s_iald hx hb hg hC k19.2.1 k19.2.2 dX12_worth_67 ?_
    refine lv_topi (fun v20 ev20 => ?_)
    replace hw := hw v20 ev20
    refine lv_goto (tgt := 83) hx hb dX12_worth_68 (by decide) ?_
    exact t_X12_worth_J83 hM o x1 x3 x4 x5 v20 x4 (hpR h o 42) KH K176 Q hKH hK176 h H locs ls hC (lo_sub hl [0, 1, 2, 3, 4] rfl) hw
set_option maxHeartbeats 4000000 in
set_option maxRecDepth 100000 in
theorem t_X12_worth_L12 {p : Program} {l : Launch} {e : Env} {s : State} {m : MethodId} {args : Array Value} {below : List Frame} {meth : Method} {c : Code} {G : GG} {base : Nat} {A : Nat → Nat} {g0 : Hp} (hM : Mx G base p s m args meth c cX12_worth 6 (some .int) RX12 "worth") (o : Nat) (x1 : Int32) (x3 : Int32) (K176 : Hp → Prop) (Q : Int32 → Hp → Prop) (hK176 : ∀ (h : Hp) (H : Heap) (locs : List Loc) (ls : Array Slot), Cx2 G base A g0 A h s.heap H locs → lo_has ls 6 [(0, .ref (A o))] → K176 h → W p l e rm_X12_worth s m args below meth c H locs 0 0 (MQ below (va_Qi Q (PU2 G base A g0 A) (fun q => base ≤ q)) args s 0 0 (fun q => base ≤ q)) (F0 m 176 ls [])) : ∀ (n : Nat) (x4 : Int32) (x5 : Int32) (h : Hp) (H : Heap) (locs : List Loc) (ls : Array Slot), Cx2 G base A g0 A h s.heap H locs → lo_has ls 6 [(0, .ref (A o)), (1, .int x1), (3, .int x3), (4, .int x4), (5, .int x5)] → wp_X12_worth_L12 o x1 x3 K176 Q n x4 x5 h → W p l e rm_X12_worth s m args below meth c H locs 0 0 (MQ below (va_Qi Q (PU2 G base A g0 A) (fun q => base ≤ q)) args s 0 0 (fun q => base ≤ q)) (F0 m 12 ls []) := by
  intro n
  induction n with
  | zero =>
    intro x4 x5 h H locs ls hC hl hw
    rw [wp_X12_worth_L12] at hw
    exact hw.elim
  | succ n ih =>
    intro x4 x5 h H locs ls hC hl hw
    rw [wp_X12_worth_L12] at hw
    obtain ⟨hx, hb, hr, hml, hown, hts, hg, hs, hlk, hnm⟩ := id hM
    refine lv_iload hx hb dX12_worth_12 (lo_at hl 4 rfl) ?_
    refine lv_sipush (v := 600) hx hb dX12_worth_14 (by decide) ?_
    refine lv_iload_n hx hb dX12_worth_17 rfl (lo_at hl 1 rfl) ?_
    refine lv_imul hx hb dX12_worth_18 ?_
    refine lv_iload_n hx hb dX12_worth_19 rfl (lo_at hl 2 rfl) ?_
    refine lv_iadd hx hb dX12_worth_20 ?_
    refine lv_icmp_ge (tgt := 176) hx hb dX12_worth_21 (by decide) (fun c2 => ?_) (fun c2 => ?_)
    ·
      replace hw := (if_pos c2).mp hw
      exact hK176  h H locs ls hC (lo_sub hl [0] rfl) hw
    ·
      replace hw := (if_neg c2).mp hw
      refine lv_aload_n hx hb dX12_worth_24 rfl (lo_at hl 0 rfl) ?_
      obtain ⟨k3, hw⟩ := hw
      refine s_getR hx hb hts hown hg hC fb_10_30 k3 mk_f_RX12_70 dX12_worth_25 ?_
      refine lv_iload hx hb dX12_worth_28 (lo_at hl 4 rfl) ?_
      obtain ⟨k4, hw⟩ := hw
      refine sf_2 k4.1 ?_
      refine s_iald hx hb hg hC k4.2.1 k4.2.2 dX12_worth_30 ?_
      refine lv_topi (fun v5 ev5 => ?_)
      replace hw := hw v5 ev5
      refine lv_if_eq (tgt := 45) hx hb dX12_worth_31 (by decide) (fun c6 => ?_) (fun c6 => ?_)
      ·
        replace hw := (if_pos c6).mp hw
        exact t_X12_worth_J45 hM o x1 x3 x4 x5 (wp_X12_worth_L12 o x1 x3 K176 Q n) K176 Q ih hK176 h H locs ls hC (lo_sub hl [0, 1, 2, 3, 4] rfl) hw
      ·
        replace hw := (if_neg c6).mp hw
        refine lv_aload_n hx hb dX12_worth_34 rfl (lo_at hl 0 rfl) ?_
        refine s_getR hx hb hts hown hg hC fb_10_30 k3 mk_f_RX12_70 dX12_worth_35 ?_
        refine lv_iload hx hb dX12_worth_38 (lo_at hl 4 rfl) ?_
        obtain ⟨k21, hw⟩ := hw
        refine sf_2 k21.1 ?_
        refine s_iald hx hb hg hC k21.2.1 k21.2.2 dX12_worth_40 ?_
        refine lv_topi (fun v22 ev22 => ?_)
        replace hw := hw v22 ev22
        refine lv_iconst (v := 1) hx hb dX12_worth_41 (by decide) ?_
        refine lv_icmp_ne (tgt := 93) hx hb dX12_worth_42 (by decide) (fun c23 => ?_) (fun c23 => ?_)
        ·
          replace hw := (if_neg c23).mp hw
          refine lv_aload_n hx hb dX12_worth_93 rfl (lo_at hl 0 rfl) ?_
          refine s_getR hx hb hts hown hg hC fb_10_30 k3 mk_f_RX12_70 dX12_worth_94 ?_
          refine lv_iload hx hb dX12_worth_97 (lo_at hl 4 rfl) ?_
          obtain ⟨k24, hw⟩ := hw
          refine sf_2 k24.1 ?_
          refine s_iald hx hb hg hC k24.2.1 k24.2.2 dX12_worth_99 ?_
          refine lv_topi (fun v25 ev25 => ?_)
          replace hw := hw v25 ev25
          refine lv_bipush (v := 9) hx hb dX12_worth_100 (by decide) ?_
          refine lv_icmp_ne (tgt := 128) hx hb dX12_worth_102 (by decide) (fun c26 => ?_) (fun c26 => ?_)
          ·
            replace hw := (if_neg c26).mp hw
            refine lv_iload hx hb dX12_worth_128 (lo_at hl 3 rfl) ?_
            refine lv_iconst (v := 1) hx hb dX12_worth_130 (by decide) ?_
            refine lv_isub hx hb dX12_worth_131 ?_
            refine lv_topi (fun v27 ev27 => ?_)
            replace hw := hw v27 ev27
            refine lo_istore (lv' := [(4, .int v27), (0, .ref (A o)), (1, .int x1), (3, .int x3), (5, .int x5)]) hx hb dX12_worth_132 hl (by decide) rfl (fun ls hl => ?_)
            refine lv_aload_n hx hb dX12_worth_134 rfl (lo_at hl 1 rfl) ?_
            refine s_getR hx hb hts hown hg hC fb_10_42 k3 mk_f_RX12_86 dX12_worth_135 ?_
            refine lv_iload hx hb dX12_worth_138 (lo_at hl 0 rfl) ?_
            refine lv_iconst (v := 1) hx hb dX12_worth_140 (by decide) ?_
            refine lv_isub hx hb dX12_worth_141 ?_
            refine lv_aload_n hx hb dX12_worth_142 rfl (lo_at hl 1 rfl) ?_
            refine lv_aload_n hx hb dX12_worth_143 rfl (lo_at hl 1 rfl) ?_
            refine s_getR hx hb hts hown hg hC fb_10_30 k3 mk_f_RX12_70 dX12_worth_144 ?_
            refine lv_iload hx hb dX12_worth_147 (lo_at hl 4 rfl) ?_
            obtain ⟨k28, hw⟩ := hw
            refine sf_2 k28.1 ?_
            refine s_iald hx hb hg hC k28.2.1 k28.2.2 dX12_worth_149 ?_
            refine lv_topi (fun v29 ev29 => ?_)
            replace hw := hw v29 ev29
            refine lv_aload_n hx hb dX12_worth_150 rfl (lo_at hl 1 rfl) ?_
            refine s_getR hx hb hts hown hg hC fb_10_42 k3 mk_f_RX12_86 dX12_worth_151 ?_
            refine lv_iload hx hb dX12_worth_154 (lo_at hl 0 rfl) ?_
            refine lv_iconst (v := 1) hx hb dX12_worth_156 (by decide) ?_
            refine lv_isub hx hb dX12_worth_157 ?_
            obtain ⟨k30, hw⟩ := hw
            refine sf_2 k30.1 ?_
            refine s_iald hx hb hg hC k30.2.1 k30.2.2 dX12_worth_158 ?_
            refine lv_topi (fun v31 ev31 => ?_)
            replace hw := hw v31 ev31
            refine lv_aload_n hx hb dX12_worth_159 rfl (lo_at hl 1 rfl) ?_
            refine s_getR hx hb hts hown hg hC fb_10_42 k3 mk_f_RX12_86 dX12_worth_160 ?_
            refine lv_iload hx hb dX12_worth_163 (lo_at hl 0 rfl) ?_
            obtain ⟨k32, hw⟩ := hw
            refine sf_2 k32.1 ?_
            refine s_iald hx hb hg hC k32.2.1 k32.2.2 dX12_worth_165 ?_
            refine lv_topi (fun v33 ev33 => ?_)
            replace hw := hw v33 ev33
            refine res2_i hC (run2_V (As := [.int v29, .int v31, .int v33]) (rest := [.int (v27 - (1 : Int32)), va_rf (Option.map A (hpR h o 42))]) hM hC hl.1.1 kv_RX12_286 (c_X12_twoOf l G base A o v29 v31 v33 h _ hw) (hc_10) k3 rfl rfl rfl ⟨Nat.le_of_ble_eq_true rfl, Nat.le_of_ble_eq_true rfl⟩ (rest_le (List.forall_mem_cons.mpr ⟨rfl, (List.forall_mem_cons.mpr ⟨va_rf_cat _, (fun _ h => absurd h List.not_mem_nil)⟩)⟩) (Nat.le_of_ble_eq_true rfl)) ⟨Nat.le_of_ble_eq_true rfl, Nat.le_of_ble_eq_true rfl⟩ dX12_worth_166) (fun z35 h34 H locs hw hC => ?_)
            obtain ⟨k36, hw⟩ := hw
            refine sf_3 k36.1 ?_
            refine s_iast hx hb hg hC k36.2.1 k36.2.2 dX12_worth_169 (fun h37 H locs eh37 hC => ?_)
            replace hw := hw h37 eh37
            obtain ⟨v38, ev38⟩ : ∃ y : Int32, y = x5 + (1 : Int32) := ⟨_, rfl⟩
            replace hw := hw v38 ev38
            refine lo_iinc (v := v38) (lv' := [(5, .int v38), (4, .int v27), (0, .ref (A o)), (1, .int x1), (3, .int x3)]) hx hb dX12_worth_170 hl (k := 4) rfl (by rw [ev38]; rfl) (by decide) rfl (fun ls hl => ?_)
            refine lv_goto (tgt := 12) hx hb dX12_worth_173 (by decide) ?_
            exact ih v27 v38 h37 H locs ls hC (lo_sub hl [2, 3, 4, 1, 0] rfl) hw
          ·
            replace hw := (if_pos c26).mp hw
            refine lv_aload_n hx hb dX12_worth_105 rfl (lo_at hl 0 rfl) ?_
            refine s_getR hx hb hts hown hg hC fb_10_42 k3 mk_f_RX12_86 dX12_worth_106 ?_
            refine lv_iload hx hb dX12_worth_109 (lo_at hl 3 rfl) ?_
            refine lv_iconst (v := 1) hx hb dX12_worth_111 (by decide) ?_
            refine lv_isub hx hb dX12_worth_112 ?_
            refine lv_iconst (v := 1) hx hb dX12_worth_113 (by decide) ?_
            refine lv_aload_n hx hb dX12_worth_114 rfl (lo_at hl 0 rfl) ?_
            refine s_getR hx hb hts hown hg hC fb_10_42 k3 mk_f_RX12_86 dX12_worth_115 ?_
            refine lv_iload hx hb dX12_worth_118 (lo_at hl 3 rfl) ?_
            refine lv_iconst (v := 1) hx hb dX12_worth_120 (by decide) ?_
            refine lv_isub hx hb dX12_worth_121 ?_
            obtain ⟨k39, hw⟩ := hw
            refine sf_2 k39.1 ?_
            refine s_iald hx hb hg hC k39.2.1 k39.2.2 dX12_worth_122 ?_
            refine lv_topi (fun v40 ev40 => ?_)
            replace hw := hw v40 ev40
            refine lv_isub hx hb dX12_worth_123 ?_
            obtain ⟨k41, hw⟩ := hw
            refine sf_3 k41.1 ?_
            refine s_iast hx hb hg hC k41.2.1 k41.2.2 dX12_worth_124 (fun h42 H locs eh42 hC => ?_)
            replace hw := hw h42 eh42
            refine lv_goto (tgt := 170) hx hb dX12_worth_125 (by decide) ?_
            obtain ⟨v43, ev43⟩ : ∃ y : Int32, y = x5 + (1 : Int32) := ⟨_, rfl⟩
            replace hw := hw v43 ev43
            refine lo_iinc (v := v43) (lv' := [(5, .int v43), (0, .ref (A o)), (1, .int x1), (3, .int x3), (4, .int x4)]) hx hb dX12_worth_170 hl (k := 4) rfl (by rw [ev43]; rfl) (by decide) rfl (fun ls hl => ?_)
            refine lv_goto (tgt := 12) hx hb dX12_worth_173 (by decide) ?_
            exact ih x4 v43 h42 H locs ls hC (lo_sub hl [1, 2, 3, 4, 0] rfl) hw
        ·
          replace hw := (if_pos c23).mp hw
          exact t_X12_worth_J45 hM o x1 x3 x4 x5 (wp_X12_worth_L12 o x1 x3 K176 Q n) K176 Q ih hK176 h H locs ls hC (lo_sub hl [0, 1, 2, 3, 4] rfl) hw
set_option maxHeartbeats 4000000 in
set_option maxRecDepth 100000 in
theorem c_X12_worth (l : Launch) (G : GG) (base : Nat) (A : Nat → Nat) (o : Nat) (x1 : Int32) (x2 : Int32) (x3 : Int32) (h : Hp) (Q : Int32 → Hp → Prop) (hw : wp_X12_worth o x1 x2 x3 h Q) : Met l yX12_worth (ww yX12_worth cX12_worth 6 (some .int)) rm_X12_worth (va_Pc [.ref (A o), .int x1, .int x2, .int x3] (PU2 G base A h A h)) (va_Qi Q (PU2 G base A h A) (fun q => base ≤ q)) 0 0 (fun q => base ≤ q) := by
  refine met2_of (own := RX12) (nm := "worth") (by decide) rfl rfl (List.forall_mem_cons.mpr ⟨rfl, (List.forall_mem_cons.mpr ⟨rfl, (List.forall_mem_cons.mpr ⟨rfl, (List.forall_mem_cons.mpr ⟨rfl, (fun _ h => absurd h List.not_mem_nil)⟩)⟩)⟩)⟩) (Nat.le_of_ble_eq_true rfl) rfl ?_
  intro p e s m args below meth c H locs ls hM hC hl
  obtain ⟨hx, hb, hr, hml, hown, hts, hg, hs, hlk, hnm⟩ := id hM
  unfold wp_X12_worth at hw
  refine lv_iconst (v := 0) hx hb dX12_worth_0 (by decide) ?_
  refine lo_istore (lv' := [(4, .int ((0 : Int32))), (0, .ref (A o)), (1, .int x1), (2, .int x2), (3, .int x3)]) hx hb dX12_worth_1 hl (by decide) rfl (fun ls hl => ?_)
  refine lv_sipush (v := 600) hx hb dX12_worth_3 (by decide) ?_
  refine lv_iload_n hx hb dX12_worth_6 rfl (lo_at hl 2 rfl) ?_
  refine lv_imul hx hb dX12_worth_7 ?_
  refine lv_iload_n hx hb dX12_worth_8 rfl (lo_at hl 3 rfl) ?_
  refine lv_iadd hx hb dX12_worth_9 ?_
  refine lv_topi (fun v1 ev1 => ?_)
  replace hw := hw v1 ev1
  refine lo_istore (lv' := [(5, .int v1), (4, .int ((0 : Int32))), (0, .ref (A o)), (1, .int x1), (2, .int x2), (3, .int x3)]) hx hb dX12_worth_10 hl (by decide) rfl (fun ls hl => ?_)
  refine t_X12_worth_L12 hM o x1 x3 _ Q ?_ fuel (0 : Int32) v1 h H locs ls hC (lo_sub hl [2, 3, 5, 1, 0] rfl) hw
  intro  h44 H locs ls hC hl hw
  refine lv_aload_n hx hb dX12_worth_176 rfl (lo_at hl 0 rfl) ?_
  obtain ⟨k45, hw⟩ := hw
  refine s_getR hx hb hts hown hg hC fb_10_42 k45 mk_f_RX12_86 dX12_worth_177 ?_
  refine lv_iconst (v := 0) hx hb dX12_worth_180 (by decide) ?_
  obtain ⟨k46, hw⟩ := hw
  refine sf_2 k46.1 ?_
  refine s_iald hx hb hg hC k46.2.1 k46.2.2 dX12_worth_181 ?_
  refine lv_topi (fun v47 ev47 => ?_)
  replace hw := hw v47 ev47
  exact ret2_i hM hC hw dX12_worth_182
abbrev rm_X12_heightBy : Room := { frames := 2, cells := 0, slots := 0, locals := 48 }
set_option maxRecDepth 100000 in
def wp_X12_heightBy_L2 (o : Nat) (x1 : Int32) (K60 : Int32 → Hp → Prop) (K105 : Hp → Prop) (Q : Int32 → Hp → Prop) : Nat → Int32 → Hp → Prop
  | 0, _, _ => False
  | n + 1, x2, h => ((hpK h o).1 = 20 + 10) ∧ (okA h (hpR h o 25) 1 (0 : Int32) ∧ (∀ v3 : Int32, v3 = hpI h (ad (hpR h o 25)) ((0 : Int32)).toNatClampNeg → ((if v3 ≤ x2 then (K105 h) else (okA h (hpR h o 26) 1 x2 ∧ (∀ v6 : Int32, v6 = hpI h (ad (hpR h o 26)) (x2).toNatClampNeg → ((if v6 = x1 then (okA h (hpR h o 29) 1 x2 ∧ (∀ v10 : Int32, v10 = hpI h (ad (hpR h o 29)) (x2).toNatClampNeg → (okA h (hpR h o 28) 1 x2 ∧ (∀ v12 : Int32, v12 = hpI h (ad (hpR h o 28)) (x2).toNatClampNeg → ((if v10 ≤ v12 then (K60 x2 h) else (okA h (hpR h o 28) 1 x2 ∧ (∀ v15 : Int32, v15 = hpI h (ad (hpR h o 28)) (x2).toNatClampNeg → (okA h (hpR h o 29) 1 x2 ∧ (∀ v17 : Int32, v17 = hpI h (ad (hpR h o 29)) (x2).toNatClampNeg → (wp_X12_worth o (0 : Int32) v15 v17 h (fun (z19 : Int32) (h18 : Hp) => (if z19 = 0 then (∀ v21 : Int32, v21 = x2 + (1 : Int32) → (wp_X12_heightBy_L2 o x1 K60 K105 Q n v21 h18)) else (K60 x2 h18)))))))))))))) else (∀ v8 : Int32, v8 = x2 + (1 : Int32) → (wp_X12_heightBy_L2 o x1 K60 K105 Q n v8 h))))))))))
set_option maxRecDepth 100000 in
def wp_X12_heightBy (o : Nat) (x1 : Int32) (h : Hp) (Q : Int32 → Hp → Prop) : Prop := wp_X12_heightBy_L2 o x1 (fun (y23 : Int32) (h22 : Hp) => ((hpK h22 o).1 = 20 + 10) ∧ (okA h22 (hpR h22 o 27) 1 y23 ∧ (∀ v26 : Int32, v26 = hpI h22 (ad (hpR h22 o 27)) (y23).toNatClampNeg → (okA h22 (hpR h22 o 28) 1 y23 ∧ (∀ v28 : Int32, v28 = hpI h22 (ad (hpR h22 o 28)) (y23).toNatClampNeg → (wp_X12_worth o (0 : Int32) v26 v28 h22 (fun (z30 : Int32) (h29 : Hp) => (if 0 ≤ z30 then ((if z30 ≤ (63 : Int32) then (Q z30 h29) else (Q (63 : Int32) h29))) else (Q (0 : Int32) h29))))))))) (fun (h33 : Hp) => ((hpK h33 o).1 = 20 + 10) ∧ (okA h33 (hpR h33 o 41) 1 (1 : Int32) ∧ (∀ v36 : Int32, v36 = hpI h33 (ad (hpR h33 o 41)) ((1 : Int32)).toNatClampNeg → (Q v36 h33)))) Q fuel (0 : Int32) h
set_option maxHeartbeats 4000000 in
set_option maxRecDepth 100000 in
theorem t_X12_heightBy_L2 {p : Program} {l : Launch} {e : Env} {s : State} {m : MethodId} {args : Array Value} {below : List Frame} {meth : Method} {c : Code} {G : GG} {base : Nat} {A : Nat → Nat} {g0 : Hp} (hM : Mx G base p s m args meth c cX12_heightBy 4 (some .int) RX12 "heightBy") (o : Nat) (x1 : Int32) (K60 : Int32 → Hp → Prop) (K105 : Hp → Prop) (Q : Int32 → Hp → Prop) (hK60 : ∀ (y2 : Int32) (h : Hp) (H : Heap) (locs : List Loc) (ls : Array Slot), Cx2 G base A g0 A h s.heap H locs → lo_has ls 4 [(0, .ref (A o)), (2, .int y2)] → K60 y2 h → W p l e rm_X12_heightBy s m args below meth c H locs 0 0 (MQ below (va_Qi Q (PU2 G base A g0 A) (fun q => base ≤ q)) args s 0 0 (fun q => base ≤ q)) (F0 m 60 ls [])) (hK105 : ∀ (h : Hp) (H : Heap) (locs : List Loc) (ls : Array Slot), Cx2 G base A g0 A h s.heap H locs → lo_has ls 4 [(0, .ref (A o))] → K105 h → W p l e rm_X12_heightBy s m args below meth c H locs 0 0 (MQ below (va_Qi Q (PU2 G base A g0 A) (fun q => base ≤ q)) args s 0 0 (fun q => base ≤ q)) (F0 m 105 ls [])) : ∀ (n : Nat) (x2 : Int32) (h : Hp) (H : Heap) (locs : List Loc) (ls : Array Slot), Cx2 G base A g0 A h s.heap H locs → lo_has ls 4 [(0, .ref (A o)), (1, .int x1), (2, .int x2)] → wp_X12_heightBy_L2 o x1 K60 K105 Q n x2 h → W p l e rm_X12_heightBy s m args below meth c H locs 0 0 (MQ below (va_Qi Q (PU2 G base A g0 A) (fun q => base ≤ q)) args s 0 0 (fun q => base ≤ q)) (F0 m 2 ls []) := by
  intro n
  induction n with
  | zero =>
    intro x2 h H locs ls hC hl hw
    rw [wp_X12_heightBy_L2] at hw
    exact hw.elim
  | succ n ih =>
    intro x2 h H locs ls hC hl hw
    rw [wp_X12_heightBy_L2] at hw
    obtain ⟨hx, hb, hr, hml, hown, hts, hg, hs, hlk, hnm⟩ := id hM
    refine lv_iload_n hx hb dX12_heightBy_2 rfl (lo_at hl 2 rfl) ?_
    refine lv_aload_n hx hb dX12_heightBy_3 rfl (lo_at hl 0 rfl) ?_
    obtain ⟨k1, hw⟩ := hw
    refine s_getR hx hb hts hown hg hC fb_10_25 k1 mk_f_RX12_55 dX12_heightBy_4 ?_
    refine lv_iconst (v := 0) hx hb dX12_heightBy_7 (by decide) ?_
    obtain ⟨k2, hw⟩ := hw
    refine sf_2 k2.1 ?_
    refine s_iald hx hb hg hC k2.2.1 k2.2.2 dX12_heightBy_8 ?_
    refine lv_topi (fun v3 ev3 => ?_)
    replace hw := hw v3 ev3
    refine lv_icmp_ge (tgt := 105) hx hb dX12_heightBy_9 (by decide) (fun c4 => ?_) (fun c4 => ?_)
    ·
      replace hw := (if_pos c4).mp hw
      exact hK105  h H locs ls hC (lo_sub hl [0] rfl) hw
    ·
      replace hw := (if_neg c4).mp hw
      refine lv_aload_n hx hb dX12_heightBy_12 rfl (lo_at hl 0 rfl) ?_
      refine s_getR hx hb hts hown hg hC fb_10_26 k1 mk_f_RX12_58 dX12_heightBy_13 ?_
      refine lv_iload_n hx hb dX12_heightBy_16 rfl (lo_at hl 2 rfl) ?_
      obtain ⟨k5, hw⟩ := hw
      refine sf_2 k5.1 ?_
      refine s_iald hx hb hg hC k5.2.1 k5.2.2 dX12_heightBy_17 ?_
      refine lv_topi (fun v6 ev6 => ?_)
      replace hw := hw v6 ev6
      refine lv_iload_n hx hb dX12_heightBy_18 rfl (lo_at hl 1 rfl) ?_
      refine lv_icmp_ne (tgt := 99) hx hb dX12_heightBy_19 (by decide) (fun c7 => ?_) (fun c7 => ?_)
      ·
        replace hw := (if_neg c7).mp hw
        obtain ⟨v8, ev8⟩ : ∃ y : Int32, y = x2 + (1 : Int32) := ⟨_, rfl⟩
        replace hw := hw v8 ev8
        refine lo_iinc (v := v8) (lv' := [(2, .int v8), (0, .ref (A o)), (1, .int x1)]) hx hb dX12_heightBy_99 hl (k := 2) rfl (by rw [ev8]; rfl) (by decide) rfl (fun ls hl => ?_)
        refine lv_goto (tgt := 2) hx hb dX12_heightBy_102 (by decide) ?_
        exact ih v8 h H locs ls hC (lo_sub hl [1, 2, 0] rfl) hw
      ·
        replace hw := (if_pos c7).mp hw
        refine lv_aload_n hx hb dX12_heightBy_22 rfl (lo_at hl 0 rfl) ?_
        refine s_getR hx hb hts hown hg hC fb_10_29 k1 mk_f_RX12_67 dX12_heightBy_23 ?_
        refine lv_iload_n hx hb dX12_heightBy_26 rfl (lo_at hl 2 rfl) ?_
        obtain ⟨k9, hw⟩ := hw
        refine sf_2 k9.1 ?_
        refine s_iald hx hb hg hC k9.2.1 k9.2.2 dX12_heightBy_27 ?_
        refine lv_topi (fun v10 ev10 => ?_)
        replace hw := hw v10 ev10
        refine lv_aload_n hx hb dX12_heightBy_28 rfl (lo_at hl 0 rfl) ?_
        refine s_getR hx hb hts hown hg hC fb_10_28 k1 mk_f_RX12_64 dX12_heightBy_29 ?_
        refine lv_iload_n hx hb dX12_heightBy_32 rfl (lo_at hl 2 rfl) ?_
        obtain ⟨k11, hw⟩ := hw
        refine sf_2 k11.1 ?_
        refine s_iald hx hb hg hC k11.2.1 k11.2.2 dX12_heightBy_33 ?_
        refine lv_topi (fun v12 ev12 => ?_)
        replace hw := hw v12 ev12
        refine lv_icmp_le (tgt := 60) hx hb dX12_heightBy_34 (by decide) (fun c13 => ?_) (fun c13 => ?_)
        ·
          replace hw := (if_pos c13).mp hw
          exact hK60 x2 h H locs ls hC (lo_sub hl [0, 2] rfl) hw
        ·
          replace hw := (if_neg c13).mp hw
          refine lv_aload_n hx hb dX12_heightBy_37 rfl (lo_at hl 0 rfl) ?_
          refine lv_iconst (v := 0) hx hb dX12_heightBy_38 (by decide) ?_
          refine lv_aload_n hx hb dX12_heightBy_39 rfl (lo_at hl 0 rfl) ?_
          refine s_getR hx hb hts hown hg hC fb_10_28 k1 mk_f_RX12_64 dX12_heightBy_40 ?_
          refine lv_iload_n hx hb dX12_heightBy_43 rfl (lo_at hl 2 rfl) ?_
          obtain ⟨k14, hw⟩ := hw
          refine sf_2 k14.1 ?_
          refine s_iald hx hb hg hC k14.2.1 k14.2.2 dX12_heightBy_44 ?_
          refine lv_topi (fun v15 ev15 => ?_)
          replace hw := hw v15 ev15
          refine lv_aload_n hx hb dX12_heightBy_45 rfl (lo_at hl 0 rfl) ?_
          refine s_getR hx hb hts hown hg hC fb_10_29 k1 mk_f_RX12_67 dX12_heightBy_46 ?_
          refine lv_iload_n hx hb dX12_heightBy_49 rfl (lo_at hl 2 rfl) ?_
          obtain ⟨k16, hw⟩ := hw
          refine sf_2 k16.1 ?_
          refine s_iald hx hb hg hC k16.2.1 k16.2.2 dX12_heightBy_50 ?_
          refine lv_topi (fun v17 ev17 => ?_)
          replace hw := hw v17 ev17
          refine res2_i hC (run2_V (As := [.int ((0 : Int32)), .int v15, .int v17]) (rest := []) hM hC hl.1.1 kv_RX12_290 (c_X12_worth l G base A o (0 : Int32) v15 v17 h _ hw) (hc_10) k1 rfl rfl rfl ⟨Nat.le_of_ble_eq_true rfl, Nat.le_of_ble_eq_true rfl⟩ (Nat.le_of_ble_eq_true rfl) ⟨Nat.le_of_ble_eq_true rfl, Nat.le_of_ble_eq_true rfl⟩ dX12_heightBy_51) (fun z19 h18 H locs hw hC => ?_)
          refine lv_if_ne (tgt := 60) hx hb dX12_heightBy_54 (by decide) (fun c20 => ?_) (fun c20 => ?_)
          ·
            replace hw := (if_neg c20).mp hw
            exact hK60 x2 h18 H locs ls hC (lo_sub hl [0, 2] rfl) hw
          ·
            replace hw := (if_pos c20).mp hw
            refine lv_goto (tgt := 99) hx hb dX12_heightBy_57 (by decide) ?_
            obtain ⟨v21, ev21⟩ : ∃ y : Int32, y = x2 + (1 : Int32) := ⟨_, rfl⟩
            replace hw := hw v21 ev21
            refine lo_iinc (v := v21) (lv' := [(2, .int v21), (0, .ref (A o)), (1, .int x1)]) hx hb dX12_heightBy_99 hl (k := 2) rfl (by rw [ev21]; rfl) (by decide) rfl (fun ls hl => ?_)
            refine lv_goto (tgt := 2) hx hb dX12_heightBy_102 (by decide) ?_
            exact ih v21 h18 H locs ls hC (lo_sub hl [1, 2, 0] rfl) hw
set_option maxHeartbeats 4000000 in
set_option maxRecDepth 100000 in
theorem c_X12_heightBy (l : Launch) (G : GG) (base : Nat) (A : Nat → Nat) (o : Nat) (x1 : Int32) (h : Hp) (Q : Int32 → Hp → Prop) (hw : wp_X12_heightBy o x1 h Q) : Met l yX12_heightBy (ww yX12_heightBy cX12_heightBy 4 (some .int)) rm_X12_heightBy (va_Pc [.ref (A o), .int x1] (PU2 G base A h A h)) (va_Qi Q (PU2 G base A h A) (fun q => base ≤ q)) 0 0 (fun q => base ≤ q) := by
  refine met2_of (own := RX12) (nm := "heightBy") (by decide) rfl rfl (List.forall_mem_cons.mpr ⟨rfl, (List.forall_mem_cons.mpr ⟨rfl, (fun _ h => absurd h List.not_mem_nil)⟩)⟩) (Nat.le_of_ble_eq_true rfl) rfl ?_
  intro p e s m args below meth c H locs ls hM hC hl
  obtain ⟨hx, hb, hr, hml, hown, hts, hg, hs, hlk, hnm⟩ := id hM
  unfold wp_X12_heightBy at hw
  refine lv_iconst (v := 0) hx hb dX12_heightBy_0 (by decide) ?_
  refine lo_istore_n (lv' := [(2, .int ((0 : Int32))), (0, .ref (A o)), (1, .int x1)]) hx hb dX12_heightBy_1 rfl hl (by decide) rfl (fun ls hl => ?_)
  refine t_X12_heightBy_L2 hM o x1 _ _ Q ?_ ?_ fuel (0 : Int32) h H locs ls hC (lo_sub hl [1, 2, 0] rfl) hw
  ·
    intro y23 h22 H locs ls hC hl hw
    refine lv_aload_n hx hb dX12_heightBy_60 rfl (lo_at hl 0 rfl) ?_
    refine lv_iconst (v := 0) hx hb dX12_heightBy_61 (by decide) ?_
    refine lv_aload_n hx hb dX12_heightBy_62 rfl (lo_at hl 0 rfl) ?_
    obtain ⟨k24, hw⟩ := hw
    refine s_getR hx hb hts hown hg hC fb_10_27 k24 mk_f_RX12_61 dX12_heightBy_63 ?_
    refine lv_iload_n hx hb dX12_heightBy_66 rfl (lo_at hl 1 rfl) ?_
    obtain ⟨k25, hw⟩ := hw
    refine sf_2 k25.1 ?_
    refine s_iald hx hb hg hC k25.2.1 k25.2.2 dX12_heightBy_67 ?_
    refine lv_topi (fun v26 ev26 => ?_)
    replace hw := hw v26 ev26
    refine lv_aload_n hx hb dX12_heightBy_68 rfl (lo_at hl 0 rfl) ?_
    refine s_getR hx hb hts hown hg hC fb_10_28 k24 mk_f_RX12_64 dX12_heightBy_69 ?_
    refine lv_iload_n hx hb dX12_heightBy_72 rfl (lo_at hl 1 rfl) ?_
    obtain ⟨k27, hw⟩ := hw
    refine sf_2 k27.1 ?_
    refine s_iald hx hb hg hC k27.2.1 k27.2.2 dX12_heightBy_73 ?_
    refine lv_topi (fun v28 ev28 => ?_)
    replace hw := hw v28 ev28
    refine res2_i hC (run2_V (As := [.int ((0 : Int32)), .int v26, .int v28]) (rest := []) hM hC hl.1.1 kv_RX12_290 (c_X12_worth l G base A o (0 : Int32) v26 v28 h22 _ hw) (hc_10) k24 rfl rfl rfl ⟨Nat.le_of_ble_eq_true rfl, Nat.le_of_ble_eq_true rfl⟩ (Nat.le_of_ble_eq_true rfl) ⟨Nat.le_of_ble_eq_true rfl, Nat.le_of_ble_eq_true rfl⟩ dX12_heightBy_74) (fun z30 h29 H locs hw hC => ?_)
    refine lo_istore_n (lv' := [(3, .int z30), (0, .ref (A o)), (2, .int y23)]) hx hb dX12_heightBy_77 rfl hl (by decide) rfl (fun ls hl => ?_)
    refine lv_iload_n hx hb dX12_heightBy_78 rfl (lo_at hl 0 rfl) ?_
    refine lv_if_ge (tgt := 86) hx hb dX12_heightBy_79 (by decide) (fun c31 => ?_) (fun c31 => ?_)
    ·
      replace hw := (if_pos c31).mp hw
      refine lv_iload_n hx hb dX12_heightBy_86 rfl (lo_at hl 0 rfl) ?_
      refine lv_bipush (v := 63) hx hb dX12_heightBy_87 (by decide) ?_
      refine lv_icmp_le (tgt := 97) hx hb dX12_heightBy_89 (by decide) (fun c32 => ?_) (fun c32 => ?_)
      ·
        replace hw := (if_pos c32).mp hw
        refine lv_iload_n hx hb dX12_heightBy_97 rfl (lo_at hl 0 rfl) ?_
        exact ret2_i hM hC hw dX12_heightBy_98
      ·
        replace hw := (if_neg c32).mp hw
        refine lv_bipush (v := 63) hx hb dX12_heightBy_92 (by decide) ?_
        refine lv_goto (tgt := 98) hx hb dX12_heightBy_94 (by decide) ?_
        exact ret2_i hM hC hw dX12_heightBy_98
    ·
      replace hw := (if_neg c31).mp hw
      refine lv_iconst (v := 0) hx hb dX12_heightBy_82 (by decide) ?_
      refine lv_goto (tgt := 98) hx hb dX12_heightBy_83 (by decide) ?_
      exact ret2_i hM hC hw dX12_heightBy_98
  ·
    intro  h33 H locs ls hC hl hw
    refine lv_aload_n hx hb dX12_heightBy_105 rfl (lo_at hl 0 rfl) ?_
    obtain ⟨k34, hw⟩ := hw
    refine s_getR hx hb hts hown hg hC fb_10_41 k34 mk_f_RX12_83 dX12_heightBy_106 ?_
    refine lv_iconst (v := 1) hx hb dX12_heightBy_109 (by decide) ?_
    obtain ⟨k35, hw⟩ := hw
    refine sf_2 k35.1 ?_
    refine s_iald hx hb hg hC k35.2.1 k35.2.2 dX12_heightBy_110 ?_
    refine lv_topi (fun v36 ev36 => ?_)
    replace hw := hw v36 ev36
    exact ret2_i hM hC hw dX12_heightBy_111
abbrev rm_X12_changes : Room := { frames := 3, cells := 0, slots := 0, locals := 71 }
set_option maxRecDepth 100000 in
def wp_X12_changes_L3 (o : Nat) (r1 : Option Nat) (x2 : Int32) (x3 : Int32) (K112 : Hp → Prop) (Q : Hp → Prop) : Nat → Int32 → Hp → Prop
  | 0, _, _ => False
  | n + 1, x4, h => (if (32 : Int32) ≤ x4 then (K112 h) else (((hpK h o).1 = 20 + 10) ∧ (∀ h3 : Hp, h3 = stI h o 43 (((1664525 : Int32) * (hpI h o 43)) + (1013904223 : Int32)) → (((hpK h3 o).1 = 20 + 10) ∧ (okA h3 (hpR h3 o 41) 1 (0 : Int32) ∧ (∀ h6 : Hp, h6 = stI h3 (ad (hpR h3 o 41)) ((0 : Int32)).toNatClampNeg x4 → (((hpK h6 o).1 = 20 + 10) ∧ (okA h6 r1 1 (x2 + x4) ∧ (∀ v9 : Int32, v9 = hpI h6 (ad r1) (x2 + x4).toNatClampNeg → (okA h6 (hpR h6 o 41) 1 (1 : Int32) ∧ (∀ h11 : Hp, h11 = stI h6 (ad (hpR h6 o 41)) ((1 : Int32)).toNatClampNeg v9 → (((hpK h11 o).1 = 20 + 10) ∧ (okA h11 r1 1 (x2 + ((x4 + (31 : Int32)) - (x4 + (31 : Int32)) / (32 : Int32) * (32 : Int32))) ∧ (∀ v14 : Int32, v14 = hpI h11 (ad r1) (x2 + ((x4 + (31 : Int32)) - (x4 + (31 : Int32)) / (32 : Int32) * (32 : Int32))).toNatClampNeg → (okA h11 (hpR h11 o 41) 1 (2 : Int32) ∧ (∀ h16 : Hp, h16 = stI h11 (ad (hpR h11 o 41)) ((2 : Int32)).toNatClampNeg v14 → (((hpK h16 o).1 = 20 + 10) ∧ (okA h16 r1 1 (x2 + ((x4 + (1 : Int32)) - (x4 + (1 : Int32)) / (32 : Int32) * (32 : Int32))) ∧ (∀ v19 : Int32, v19 = hpI h16 (ad r1) (x2 + ((x4 + (1 : Int32)) - (x4 + (1 : Int32)) / (32 : Int32) * (32 : Int32))).toNatClampNeg → (okA h16 (hpR h16 o 41) 1 (3 : Int32) ∧ (∀ h21 : Hp, h21 = stI h16 (ad (hpR h16 o 41)) ((3 : Int32)).toNatClampNeg v19 → (((hpK h21 o).1 = 20 + 10) ∧ (okA h21 (hpR h21 o 41) 1 (4 : Int32) ∧ (∀ h24 : Hp, h24 = stI h21 (ad (hpR h21 o 41)) ((4 : Int32)).toNatClampNeg (((hpI h21 o 43).toUInt32 >>> (((28 : Int32)).toUInt32 &&& Int32.toUInt32 31)).toInt32) → (((hpK h24 o).1 = 20 + 10) ∧ (wp_X12_heightBy o x3 h24 (fun (z27 : Int32) (h26 : Hp) => okA h26 (hpR h24 o 44) 1 x4 ∧ (∀ h29 : Hp, h29 = stI h26 (ad (hpR h24 o 44)) (x4).toNatClampNeg z27 → (∀ v30 : Int32, v30 = x4 + (1 : Int32) → (wp_X12_changes_L3 o r1 x2 x3 K112 Q n v30 h29))))))))))))))))))))))))))))))
set_option maxRecDepth 100000 in
def wp_X12_changes (o : Nat) (r1 : Option Nat) (x2 : Int32) (x3 : Int32) (h : Hp) (Q : Hp → Prop) : Prop := wp_X12_changes_L3 o r1 x2 x3 (fun (h31 : Hp) => Q h31) Q fuel (0 : Int32) h
set_option maxHeartbeats 4000000 in
set_option maxRecDepth 100000 in
theorem t_X12_changes_L3 {p : Program} {l : Launch} {e : Env} {s : State} {m : MethodId} {args : Array Value} {below : List Frame} {meth : Method} {c : Code} {G : GG} {base : Nat} {A : Nat → Nat} {g0 : Hp} (hM : Mx G base p s m args meth c cX12_changes 5 none RX12 "changes") (o : Nat) (r1 : Option Nat) (x2 : Int32) (x3 : Int32) (K112 : Hp → Prop) (Q : Hp → Prop) (hK112 : ∀ (h : Hp) (H : Heap) (locs : List Loc) (ls : Array Slot), Cx2 G base A g0 A h s.heap H locs → lo_has ls 5 [] → K112 h → W p l e rm_X12_changes s m args below meth c H locs 0 0 (MQ below (va_Qv Q (PU2 G base A g0 A) (fun q => base ≤ q)) args s 0 0 (fun q => base ≤ q)) (F0 m 112 ls [])) : ∀ (n : Nat) (x4 : Int32) (h : Hp) (H : Heap) (locs : List Loc) (ls : Array Slot), Cx2 G base A g0 A h s.heap H locs → lo_has ls 5 [(0, .ref (A o)), (1, va_rf (Option.map A r1)), (2, .int x2), (3, .int x3), (4, .int x4)] → wp_X12_changes_L3 o r1 x2 x3 K112 Q n x4 h → W p l e rm_X12_changes s m args below meth c H locs 0 0 (MQ below (va_Qv Q (PU2 G base A g0 A) (fun q => base ≤ q)) args s 0 0 (fun q => base ≤ q)) (F0 m 3 ls []) := by
  intro n
  induction n with
  | zero =>
    intro x4 h H locs ls hC hl hw
    rw [wp_X12_changes_L3] at hw
    exact hw.elim
  | succ n ih =>
    intro x4 h H locs ls hC hl hw
    rw [wp_X12_changes_L3] at hw
    obtain ⟨hx, hb, hr, hml, hown, hts, hg, hs, hlk, hnm⟩ := id hM
    refine lv_iload hx hb dX12_changes_3 (lo_at hl 4 rfl) ?_
    refine lv_bipush (v := 32) hx hb dX12_changes_5 (by decide) ?_
    refine lv_icmp_ge (tgt := 112) hx hb dX12_changes_7 (by decide) (fun c1 => ?_) (fun c1 => ?_)
    ·
      replace hw := (if_pos c1).mp hw
      exact hK112  h H locs ls hC (lo_sub hl [] rfl) hw
    ·
      replace hw := (if_neg c1).mp hw
      refine lv_aload_n hx hb dX12_changes_10 rfl (lo_at hl 0 rfl) ?_
      refine lv_ldcw (v := 1664525) hx hb hown (hts _ mk_k_RX12_293) dX12_changes_11 ?_
      refine lv_aload_n hx hb dX12_changes_14 rfl (lo_at hl 0 rfl) ?_
      obtain ⟨k2, hw⟩ := hw
      refine s_getI hx hb hts hown hg hC fb_10_43 k2 mk_f_RX12_155 dX12_changes_15 ?_
      refine lv_imul hx hb dX12_changes_18 ?_
      refine lv_ldcw (v := 1013904223) hx hb hown (hts _ mk_k_RX12_294) dX12_changes_19 ?_
      refine lv_iadd hx hb dX12_changes_22 ?_
      refine s_putI hx hb hts hown hg hC fb_10_43 k2 rfl rfl mk_f_RX12_155 dX12_changes_23 (fun h3 H locs eh3 hC => ?_)
      replace hw := hw h3 eh3
      refine lv_aload_n hx hb dX12_changes_26 rfl (lo_at hl 0 rfl) ?_
      obtain ⟨k4, hw⟩ := hw
      refine s_getR hx hb hts hown hg hC fb_10_41 k4 mk_f_RX12_83 dX12_changes_27 ?_
      refine lv_iconst (v := 0) hx hb dX12_changes_30 (by decide) ?_
      refine lv_iload hx hb dX12_changes_31 (lo_at hl 4 rfl) ?_
      obtain ⟨k5, hw⟩ := hw
      refine sf_3 k5.1 ?_
      refine s_iast hx hb hg hC k5.2.1 k5.2.2 dX12_changes_33 (fun h6 H locs eh6 hC => ?_)
      replace hw := hw h6 eh6
      refine lv_aload_n hx hb dX12_changes_34 rfl (lo_at hl 0 rfl) ?_
      obtain ⟨k7, hw⟩ := hw
      refine s_getR hx hb hts hown hg hC fb_10_41 k7 mk_f_RX12_83 dX12_changes_35 ?_
      refine lv_iconst (v := 1) hx hb dX12_changes_38 (by decide) ?_
      refine lo_aload_n (r := Option.map A r1) hx hb dX12_changes_39 rfl (lo_at hl 1 rfl) ?_
      refine lv_iload_n hx hb dX12_changes_40 rfl (lo_at hl 2 rfl) ?_
      refine lv_iload hx hb dX12_changes_41 (lo_at hl 4 rfl) ?_
      refine lv_iadd hx hb dX12_changes_43 ?_
      obtain ⟨k8, hw⟩ := hw
      refine sf_2 k8.1 ?_
      refine s_iald hx hb hg hC k8.2.1 k8.2.2 dX12_changes_44 ?_
      refine lv_topi (fun v9 ev9 => ?_)
      replace hw := hw v9 ev9
      obtain ⟨k10, hw⟩ := hw
      refine sf_3 k10.1 ?_
      refine s_iast hx hb hg hC k10.2.1 k10.2.2 dX12_changes_45 (fun h11 H locs eh11 hC => ?_)
      replace hw := hw h11 eh11
      refine lv_aload_n hx hb dX12_changes_46 rfl (lo_at hl 0 rfl) ?_
      obtain ⟨k12, hw⟩ := hw
      refine s_getR hx hb hts hown hg hC fb_10_41 k12 mk_f_RX12_83 dX12_changes_47 ?_
      refine lv_iconst (v := 2) hx hb dX12_changes_50 (by decide) ?_
      refine lo_aload_n (r := Option.map A r1) hx hb dX12_changes_51 rfl (lo_at hl 1 rfl) ?_
      refine lv_iload_n hx hb dX12_changes_52 rfl (lo_at hl 2 rfl) ?_
      refine lv_iload hx hb dX12_changes_53 (lo_at hl 4 rfl) ?_
      refine lv_bipush (v := 31) hx hb dX12_changes_55 (by decide) ?_
      refine lv_iadd hx hb dX12_changes_57 ?_
      refine lv_bipush (v := 32) hx hb dX12_changes_58 (by decide) ?_
      refine lv_irem hx hb dX12_changes_60 (by decide) ?_
      refine lv_iadd hx hb dX12_changes_61 ?_
      obtain ⟨k13, hw⟩ := hw
      refine sf_2 k13.1 ?_
      refine s_iald hx hb hg hC k13.2.1 k13.2.2 dX12_changes_62 ?_
      refine lv_topi (fun v14 ev14 => ?_)
      replace hw := hw v14 ev14
      obtain ⟨k15, hw⟩ := hw
      refine sf_3 k15.1 ?_
      refine s_iast hx hb hg hC k15.2.1 k15.2.2 dX12_changes_63 (fun h16 H locs eh16 hC => ?_)
      replace hw := hw h16 eh16
      refine lv_aload_n hx hb dX12_changes_64 rfl (lo_at hl 0 rfl) ?_
      obtain ⟨k17, hw⟩ := hw
      refine s_getR hx hb hts hown hg hC fb_10_41 k17 mk_f_RX12_83 dX12_changes_65 ?_
      refine lv_iconst (v := 3) hx hb dX12_changes_68 (by decide) ?_
      refine lo_aload_n (r := Option.map A r1) hx hb dX12_changes_69 rfl (lo_at hl 1 rfl) ?_
      refine lv_iload_n hx hb dX12_changes_70 rfl (lo_at hl 2 rfl) ?_
      refine lv_iload hx hb dX12_changes_71 (lo_at hl 4 rfl) ?_
      refine lv_iconst (v := 1) hx hb dX12_changes_73 (by decide) ?_
      refine lv_iadd hx hb dX12_changes_74 ?_
      refine lv_bipush (v := 32) hx hb dX12_changes_75 (by decide) ?_
      refine lv_irem hx hb dX12_changes_77 (by decide) ?_
      refine lv_iadd hx hb dX12_changes_78 ?_
      obtain ⟨k18, hw⟩ := hw
      refine sf_2 k18.1 ?_
      refine s_iald hx hb hg hC k18.2.1 k18.2.2 dX12_changes_79 ?_
      refine lv_topi (fun v19 ev19 => ?_)
      replace hw := hw v19 ev19
      obtain ⟨k20, hw⟩ := hw
      refine sf_3 k20.1 ?_
      refine s_iast hx hb hg hC k20.2.1 k20.2.2 dX12_changes_80 (fun h21 H locs eh21 hC => ?_)
      replace hw := hw h21 eh21
      refine lv_aload_n hx hb dX12_changes_81 rfl (lo_at hl 0 rfl) ?_
      obtain ⟨k22, hw⟩ := hw
      refine s_getR hx hb hts hown hg hC fb_10_41 k22 mk_f_RX12_83 dX12_changes_82 ?_
      refine lv_iconst (v := 4) hx hb dX12_changes_85 (by decide) ?_
      refine lv_aload_n hx hb dX12_changes_86 rfl (lo_at hl 0 rfl) ?_
      refine s_getI hx hb hts hown hg hC fb_10_43 k22 mk_f_RX12_155 dX12_changes_87 ?_
      refine lv_bipush (v := 28) hx hb dX12_changes_90 (by decide) ?_
      refine lv_iushr hx hb dX12_changes_92 (v := ((hpI h21 o 43).toUInt32 >>> (((28 : Int32)).toUInt32 &&& Int32.toUInt32 31)).toInt32) rfl ?_
      obtain ⟨k23, hw⟩ := hw
      refine sf_3 k23.1 ?_
      refine s_iast hx hb hg hC k23.2.1 k23.2.2 dX12_changes_93 (fun h24 H locs eh24 hC => ?_)
      replace hw := hw h24 eh24
      refine lv_aload_n hx hb dX12_changes_94 rfl (lo_at hl 0 rfl) ?_
      obtain ⟨k25, hw⟩ := hw
      refine s_getR hx hb hts hown hg hC fb_10_44 k25 mk_f_RX12_89 dX12_changes_95 ?_
      refine lv_iload hx hb dX12_changes_98 (lo_at hl 4 rfl) ?_
      refine lv_aload_n hx hb dX12_changes_100 rfl (lo_at hl 0 rfl) ?_
      refine lv_iload_n hx hb dX12_changes_101 rfl (lo_at hl 3 rfl) ?_
      refine res2_i hC (run2_V (As := [.int x3]) (rest := [.int x4, va_rf (Option.map A (hpR h24 o 44))]) hM hC hl.1.1 kv_RX12_295 (c_X12_heightBy l G base A o x3 h24 _ hw) (hc_10) k25 rfl rfl rfl ⟨Nat.le_of_ble_eq_true rfl, Nat.le_of_ble_eq_true rfl⟩ (rest_le (List.forall_mem_cons.mpr ⟨rfl, (List.forall_mem_cons.mpr ⟨va_rf_cat _, (fun _ h => absurd h List.not_mem_nil)⟩)⟩) (Nat.le_of_ble_eq_true rfl)) ⟨Nat.le_of_ble_eq_true rfl, Nat.le_of_ble_eq_true rfl⟩ dX12_changes_102) (fun z27 h26 H locs hw hC => ?_)
      obtain ⟨k28, hw⟩ := hw
      refine sf_3 k28.1 ?_
      refine s_iast hx hb hg hC k28.2.1 k28.2.2 dX12_changes_105 (fun h29 H locs eh29 hC => ?_)
      replace hw := hw h29 eh29
      obtain ⟨v30, ev30⟩ : ∃ y : Int32, y = x4 + (1 : Int32) := ⟨_, rfl⟩
      replace hw := hw v30 ev30
      refine lo_iinc (v := v30) (lv' := [(4, .int v30), (0, .ref (A o)), (1, va_rf (Option.map A r1)), (2, .int x2), (3, .int x3)]) hx hb dX12_changes_106 hl (k := 4) rfl (by rw [ev30]; rfl) (by decide) rfl (fun ls hl => ?_)
      refine lv_goto (tgt := 3) hx hb dX12_changes_109 (by decide) ?_
      exact ih v30 h29 H locs ls hC (lo_sub hl [1, 2, 3, 4, 0] rfl) hw
set_option maxHeartbeats 4000000 in
set_option maxRecDepth 100000 in
theorem c_X12_changes (l : Launch) (G : GG) (base : Nat) (A : Nat → Nat) (o : Nat) (r1 : Option Nat) (x2 : Int32) (x3 : Int32) (h : Hp) (Q : Hp → Prop) (hw : wp_X12_changes o r1 x2 x3 h Q) : Met l yX12_changes (ww yX12_changes cX12_changes 5 none) rm_X12_changes (va_Pc [.ref (A o), va_rf (Option.map A r1), .int x2, .int x3] (PU2 G base A h A h)) (va_Qv Q (PU2 G base A h A) (fun q => base ≤ q)) 0 0 (fun q => base ≤ q) := by
  refine met2_of (own := RX12) (nm := "changes") (by decide) rfl rfl (List.forall_mem_cons.mpr ⟨rfl, (List.forall_mem_cons.mpr ⟨va_rf_cat _, (List.forall_mem_cons.mpr ⟨rfl, (List.forall_mem_cons.mpr ⟨rfl, (fun _ h => absurd h List.not_mem_nil)⟩)⟩)⟩)⟩) (Nat.le_of_ble_eq_true rfl) rfl ?_
  intro p e s m args below meth c H locs ls hM hC hl
  obtain ⟨hx, hb, hr, hml, hown, hts, hg, hs, hlk, hnm⟩ := id hM
  unfold wp_X12_changes at hw
  refine lv_iconst (v := 0) hx hb dX12_changes_0 (by decide) ?_
  refine lo_istore (lv' := [(4, .int ((0 : Int32))), (0, .ref (A o)), (1, va_rf (Option.map A r1)), (2, .int x2), (3, .int x3)]) hx hb dX12_changes_1 hl (by decide) rfl (fun ls hl => ?_)
  refine t_X12_changes_L3 hM o r1 x2 x3 _ Q ?_ fuel (0 : Int32) h H locs ls hC (lo_sub hl [1, 2, 3, 4, 0] rfl) hw
  intro  h31 H locs ls hC hl hw
  exact ret2_v hM hC hw dX12_changes_112
