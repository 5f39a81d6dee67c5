/-! THE LAW'S CALLS, one by one (my own, by program) -/
def LX (G : GG) (p : Program) (s : State) (m : MethodId) (meth : Method) (c : Code) (b L : Nat) (xs : Nat → Int32) : Prop := Mx G s.heap.size p s m #[Value.ref b] meth c cL_law 4 ret RL meth.name ∧ va_X b L xs s s.heap ∧ b < s.heap.size ∧ L ≤ 3072
def bz (v : Int32) : Int32 := if v = 0 then 0 else 1
theorem bz_01 (v : Int32) : bz v = 0 ∨ bz v = 1 := by
  unfold bz
  by_cases h : v = 0
  · exact Or.inl (if_pos h)
  · exact Or.inr (if_neg h)
theorem rc_le {n : Nat} (h : n ≤ 600000) : n ≤ room_1.cells := h
theorem rs_le {n : Nat} (h : n ≤ 7302249) : n ≤ room_1.slots := h
theorem Inv_k1 {n : Nat} {g : Hp} (h : Inv n g) : (hpK g 1).1 = 20 + 9 := by
  obtain ⟨I, L, D, rfl, -⟩ := h
  rfl
theorem Inv_k4 {n : Nat} {g : Hp} (h : Inv n g) : (hpK g 400).1 = 20 + 10 := by
  obtain ⟨I, L, D, rfl, -⟩ := h
  rfl
theorem l_arg {p : Program} {l : Launch} {e : Env} {s : State} {m : MethodId} {below : List Frame} {meth : Method} {c : Code} {G : GG} {b L : Nat} {xs : Nat → Int32} {Q : State → Prop} {R : Room} {cells slots pc j k a1 a2 : Nat} {n : Int} {H : Heap} {locs : List Loc} {ls : Array Slot} {rest : List Value} (X : LX G p s m meth c b L xs) (hk : 6 * k + 5 < L) (hj : j ≤ 5) (hl : lo_has ls 4 [(3, .int (nI (6 * k))), (2, .ref a2), (1, .ref a1), (0, .ref b)]) (hS : va_S (fun q => s.heap.size ≤ q) s.heap H locs) (d0 : decode cL_law pc = .ok (.aload_n 0, 1)) (d1 : decode cL_law (pc + 1) = .ok (.iload_n 3, 1)) (d2 : decode cL_law (pc + 2) = .ok (.iconst n, 1)) (hn : Int32.ofInt n = nI j) (d3 : decode cL_law (pc + 3) = .ok (.iadd, 1)) (d4 : decode cL_law (pc + 4) = .ok (.iaload, 1)) (kk : W p l e R s m #[Value.ref b] below meth c H locs cells slots Q (F0 m (pc + 5) ls (.int (xs (6 * k + j)) :: rest))) : W p l e R s m #[Value.ref b] below meth c H locs cells slots Q (F0 m pc ls rest) := by
  obtain ⟨⟨hx, hb, -⟩, hX, hbl, hL⟩ := X
  refine lv_aload_n hx hb d0 rfl (lo_at hl 3 rfl) ?_
  refine lv_iload_n hx hb d1 rfl (lo_at hl 0 rfl) ?_
  refine lv_iconst hx hb d2 hn ?_
  refine lv_iadd hx hb d3 ?_
  rw [nI_add]
  refine va_sld hx hb hX hbl (Nat.not_le.mpr hbl) hS (vp_in_nI (show 6 * k + j < L by omega) (by omega)) d4 ?_
  rw [nI_clamp (by omega)]
  exact kk
theorem l_bool {p : Program} {l : Launch} {e : Env} {s : State} {m : MethodId} {below : List Frame} {meth : Method} {c : Code} {G : GG} {b L : Nat} {xs : Nat → Int32} {Q : State → Prop} {R : Room} {cells slots pc : Nat} {H : Heap} {locs : List Loc} {ls : Array Slot} {rest : List Value} {v : Int32} (X : LX G p s m meth c b L xs) (d0 : decode cL_law pc = .ok (.ifCond .eq 7, 3)) (d1 : decode cL_law (pc + 3) = .ok (.iconst 1, 1)) (d2 : decode cL_law (pc + 4) = .ok (.goto 4, 3)) (d3 : decode cL_law (pc + 7) = .ok (.iconst 0, 1)) (kk : W p l e R s m #[Value.ref b] below meth c H locs cells slots Q (F0 m (pc + 8) ls (.int (bz v) :: rest))) : W p l e R s m #[Value.ref b] below meth c H locs cells slots Q (F0 m pc ls (.int v :: rest)) := by
  obtain ⟨⟨hx, hb, -⟩, hX, hbl, hL⟩ := X
  refine lv_if_eq (tgt := pc + 7) hx hb d0 (by omega) (fun z => ?_) (fun z => ?_)
  · rw [show bz v = 0 from if_pos z] at kk
    exact lv_iconst (v := 0) hx hb d3 (by decide) kk
  · rw [show bz v = 1 from if_neg z] at kk
    exact lv_iconst (v := 1) hx hb d1 (by decide) (lv_goto (tgt := pc + 8) hx hb d2 (by omega) kk)
theorem la_tool {p : Program} {l : Launch} {e : Env} {s : State} {m : MethodId} {below : List Frame} {meth : Method} {c : Code} {G : GG} {b L : Nat} {xs : Nat → Int32} {Q : State → Prop} (X : LX G p s m meth c b L xs) {k : Nat} (hk : 6 * k + 5 < L) {A : Nat → Nat} {g : Hp} {H : Heap} {locs : List Loc} {ls : Array Slot} {cells slots : Nat} (hI : Inv k g) (hC : Cx2 G s.heap.size A g A g s.heap H locs) (hl : lo_has ls 4 [(3, .int (nI (6 * k))), (2, .ref (A 400)), (1, .ref (A 1)), (0, .ref b)]) (hcs : cells + 9 ≤ 600000) (hss : slots + 2308 ≤ 7302249) (nx : ∀ (A1 : Nat → Nat) (g1 : Hp) (H1 : Heap) (locs1 : List Loc), Inv (k + 1) g1 → Cx2 G s.heap.size A1 g1 A1 g1 s.heap H1 locs1 → lo_has ls 4 [(3, .int (nI (6 * k))), (2, .ref (A1 400)), (1, .ref (A1 1)), (0, .ref b)] → W p l e room_1 s m #[Value.ref b] below meth c H1 locs1 (cells + 9) (slots + 2308) Q (F0 m 1239 ls [])) : W p l e room_1 s m #[Value.ref b] below meth c H locs cells slots Q (F0 m 164 ls []) := by
  obtain ⟨hM, hX, hbl, hL⟩ := id X
  obtain ⟨hx, hb, hr, hml, hown, hts, hg, hs, hlk, hnm⟩ := id hM
  have hn : k < 100000 := by omega
  have k1 := Inv_k1 hI
  have k4 := Inv_k4 hI
  have n1 : (hpK g 1).1 ≠ 0 := by rw [k1]; decide
  have n4 : (hpK g 400).1 ≠ 0 := by rw [k4]; decide
  refine lv_aload_n hx hb dL_law_164 rfl (lo_at hl 2 rfl) ?_
  refine l_arg (j := 1) X hk (by decide) hl hC.1.2.2 dL_law_165 dL_law_166 dL_law_167 rfl dL_law_168 dL_law_169 ?_
  refine res2_ia hC (run2_V (As := [.int (xs (6 * k + 1))]) (rest := []) hM hC hl.1.1 kv_L_13 (c_X11_tool l G s.heap.size A 1 (xs (6 * k + 1)) g _ (pair_tool hI (xs (6 * k + 1)))) hc_9 k1 rfl rfl rfl ⟨Nat.le_of_ble_eq_true rfl, Nat.le_of_ble_eq_true rfl⟩ (Nat.le_of_ble_eq_true rfl) ⟨rc_le (by omega), rs_le (by omega)⟩ dL_law_170) (fun r1 A1 h1 H locs hw hE hC => ?_)
  have k4 : (hpK h1 400).1 = 20 + 10 := by rw [(hC.2.2.2 400 n4).1]; exact k4
  replace hl : lo_has ls 4 [(3, .int (nI (6 * k))), (2, .ref (A1 400)), (1, .ref (A1 1)), (0, .ref b)] := by rw [(hC.2.2.2 400 n4).2, (hC.2.2.2 1 n1).2]; exact hl
  refine lv_aload_n hx hb dL_law_173 rfl (lo_at hl 1 rfl) ?_
  refine l_arg (j := 1) X hk (by decide) hl hC.1.2.2 dL_law_174 dL_law_175 dL_law_176 rfl dL_law_177 dL_law_178 ?_
  refine res2_i hC (run2_V (As := [.int (xs (6 * k + 1))]) (rest := [.int r1]) hM hC hl.1.1 kv_L_17 (c_X12_tool l G s.heap.size A1 400 (xs (6 * k + 1)) h1 _ hw) hc_10 k4 rfl rfl rfl ⟨Nat.le_of_ble_eq_true rfl, Nat.le_of_ble_eq_true rfl⟩ (Nat.le_of_ble_eq_true rfl) ⟨rc_le (by omega), rs_le (by omega)⟩ dL_law_179) (fun r2 h2 H locs hw hC => ?_)
  obtain ⟨er, hI2⟩ := hw
  refine lv_icmp_eq (tgt := 1239) hx hb dL_law_182 (by decide) (fun _ => ?_) (fun z => absurd er.symm z)
  refine W.widen (k := cells + 9) (n := slots + 2308) (by omega) (by omega) ?_
  exact nx A1 h2 H locs hI2 ⟨hC.1, hC.2.1, hC.2.2.1, EM.rf⟩ hl
theorem la_edge {p : Program} {l : Launch} {e : Env} {s : State} {m : MethodId} {below : List Frame} {meth : Method} {c : Code} {G : GG} {b L : Nat} {xs : Nat → Int32} {Q : State → Prop} (X : LX G p s m meth c b L xs) {k : Nat} (hk : 6 * k + 5 < L) {A : Nat → Nat} {g : Hp} {H : Heap} {locs : List Loc} {ls : Array Slot} {cells slots : Nat} (hI : Inv k g) (hC : Cx2 G s.heap.size A g A g s.heap H locs) (hl : lo_has ls 4 [(3, .int (nI (6 * k))), (2, .ref (A 400)), (1, .ref (A 1)), (0, .ref b)]) (hcs : cells + 9 ≤ 600000) (hss : slots + 2308 ≤ 7302249) (nx : ∀ (A1 : Nat → Nat) (g1 : Hp) (H1 : Heap) (locs1 : List Loc), Inv (k + 1) g1 → Cx2 G s.heap.size A1 g1 A1 g1 s.heap H1 locs1 → lo_has ls 4 [(3, .int (nI (6 * k))), (2, .ref (A1 400)), (1, .ref (A1 1)), (0, .ref b)] → W p l e room_1 s m #[Value.ref b] below meth c H1 locs1 (cells + 9) (slots + 2308) Q (F0 m 1239 ls [])) : W p l e room_1 s m #[Value.ref b] below meth c H locs cells slots Q (F0 m 187 ls []) := by
  obtain ⟨hM, hX, hbl, hL⟩ := id X
  obtain ⟨hx, hb, hr, hml, hown, hts, hg, hs, hlk, hnm⟩ := id hM
  have hn : k < 100000 := by omega
  have k1 := Inv_k1 hI
  have k4 := Inv_k4 hI
  have n1 : (hpK g 1).1 ≠ 0 := by rw [k1]; decide
  have n4 : (hpK g 400).1 ≠ 0 := by rw [k4]; decide
  refine lv_aload_n hx hb dL_law_187 rfl (lo_at hl 2 rfl) ?_
  refine l_arg (j := 1) X hk (by decide) hl hC.1.2.2 dL_law_188 dL_law_189 dL_law_190 rfl dL_law_191 dL_law_192 ?_
  refine l_arg (j := 2) X hk (by decide) hl hC.1.2.2 dL_law_193 dL_law_194 dL_law_195 rfl dL_law_196 dL_law_197 ?_
  refine l_arg (j := 3) X hk (by decide) hl hC.1.2.2 dL_law_198 dL_law_199 dL_law_200 rfl dL_law_201 dL_law_202 ?_
  refine res2_i hC (run2_V (As := [.int (xs (6 * k + 1)), .int (xs (6 * k + 2)), .int (xs (6 * k + 3))]) (rest := []) hM hC hl.1.1 kv_L_18 (c_X11_edge l G s.heap.size A 1 (xs (6 * k + 1)) (xs (6 * k + 2)) (xs (6 * k + 3)) g _ (pair_edge hI (xs (6 * k + 1)) (xs (6 * k + 2)) (xs (6 * k + 3)))) hc_9 k1 rfl rfl rfl ⟨Nat.le_of_ble_eq_true rfl, Nat.le_of_ble_eq_true rfl⟩ (Nat.le_of_ble_eq_true rfl) ⟨rc_le (by omega), rs_le (by omega)⟩ dL_law_203) (fun r1 h1 H locs hw hC => ?_)
  have k4 : (hpK h1 400).1 = 20 + 10 := by rw [(hC.2.2.2 400 n4).1]; exact k4
  refine lv_aload_n hx hb dL_law_206 rfl (lo_at hl 1 rfl) ?_
  refine l_arg (j := 1) X hk (by decide) hl hC.1.2.2 dL_law_207 dL_law_208 dL_law_209 rfl dL_law_210 dL_law_211 ?_
  refine l_arg (j := 2) X hk (by decide) hl hC.1.2.2 dL_law_212 dL_law_213 dL_law_214 rfl dL_law_215 dL_law_216 ?_
  refine l_arg (j := 3) X hk (by decide) hl hC.1.2.2 dL_law_217 dL_law_218 dL_law_219 rfl dL_law_220 dL_law_221 ?_
  refine res2_i hC (run2_V (As := [.int (xs (6 * k + 1)), .int (xs (6 * k + 2)), .int (xs (6 * k + 3))]) (rest := [.int r1]) hM hC hl.1.1 kv_L_22 (c_X12_edge l G s.heap.size A 400 (xs (6 * k + 1)) (xs (6 * k + 2)) (xs (6 * k + 3)) h1 _ hw) hc_10 k4 rfl rfl rfl ⟨Nat.le_of_ble_eq_true rfl, Nat.le_of_ble_eq_true rfl⟩ (Nat.le_of_ble_eq_true rfl) ⟨rc_le (by omega), rs_le (by omega)⟩ dL_law_222) (fun r2 h2 H locs hw hC => ?_)
  obtain ⟨er, hI2⟩ := hw
  refine lv_icmp_eq (tgt := 1239) hx hb dL_law_225 (by decide) (fun _ => ?_) (fun z => absurd er.symm z)
  refine W.widen (k := cells + 9) (n := slots + 2308) (by omega) (by omega) ?_
  exact nx A h2 H locs hI2 ⟨hC.1, hC.2.1, hC.2.2.1, EM.rf⟩ hl
theorem la_barrel {p : Program} {l : Launch} {e : Env} {s : State} {m : MethodId} {below : List Frame} {meth : Method} {c : Code} {G : GG} {b L : Nat} {xs : Nat → Int32} {Q : State → Prop} (X : LX G p s m meth c b L xs) {k : Nat} (hk : 6 * k + 5 < L) {A : Nat → Nat} {g : Hp} {H : Heap} {locs : List Loc} {ls : Array Slot} {cells slots : Nat} (hI : Inv k g) (hC : Cx2 G s.heap.size A g A g s.heap H locs) (hl : lo_has ls 4 [(3, .int (nI (6 * k))), (2, .ref (A 400)), (1, .ref (A 1)), (0, .ref b)]) (hcs : cells + 9 ≤ 600000) (hss : slots + 2308 ≤ 7302249) (nx : ∀ (A1 : Nat → Nat) (g1 : Hp) (H1 : Heap) (locs1 : List Loc), Inv (k + 1) g1 → Cx2 G s.heap.size A1 g1 A1 g1 s.heap H1 locs1 → lo_has ls 4 [(3, .int (nI (6 * k))), (2, .ref (A1 400)), (1, .ref (A1 1)), (0, .ref b)] → W p l e room_1 s m #[Value.ref b] below meth c H1 locs1 (cells + 9) (slots + 2308) Q (F0 m 1239 ls [])) : W p l e room_1 s m #[Value.ref b] below meth c H locs cells slots Q (F0 m 230 ls []) := by
  obtain ⟨hM, hX, hbl, hL⟩ := id X
  obtain ⟨hx, hb, hr, hml, hown, hts, hg, hs, hlk, hnm⟩ := id hM
  have hn : k < 100000 := by omega
  have k1 := Inv_k1 hI
  have k4 := Inv_k4 hI
  have n1 : (hpK g 1).1 ≠ 0 := by rw [k1]; decide
  have n4 : (hpK g 400).1 ≠ 0 := by rw [k4]; decide
  refine lv_aload_n hx hb dL_law_230 rfl (lo_at hl 2 rfl) ?_
  refine l_arg (j := 1) X hk (by decide) hl hC.1.2.2 dL_law_231 dL_law_232 dL_law_233 rfl dL_law_234 dL_law_235 ?_
  refine res2_ia hC (run2_V (As := [.int (xs (6 * k + 1))]) (rest := []) hM hC hl.1.1 kv_L_23 (c_X11_barrel l G s.heap.size A 1 (xs (6 * k + 1)) g _ (pair_barrel hI (xs (6 * k + 1)))) hc_9 k1 rfl rfl rfl ⟨Nat.le_of_ble_eq_true rfl, Nat.le_of_ble_eq_true rfl⟩ (Nat.le_of_ble_eq_true rfl) ⟨rc_le (by omega), rs_le (by omega)⟩ dL_law_236) (fun r1 A1 h1 H locs hw hE hC => ?_)
  have k4 : (hpK h1 400).1 = 20 + 10 := by rw [(hC.2.2.2 400 n4).1]; exact k4
  replace hl : lo_has ls 4 [(3, .int (nI (6 * k))), (2, .ref (A1 400)), (1, .ref (A1 1)), (0, .ref b)] := by rw [(hC.2.2.2 400 n4).2, (hC.2.2.2 1 n1).2]; exact hl
  refine lv_aload_n hx hb dL_law_239 rfl (lo_at hl 1 rfl) ?_
  refine l_arg (j := 1) X hk (by decide) hl hC.1.2.2 dL_law_240 dL_law_241 dL_law_242 rfl dL_law_243 dL_law_244 ?_
  refine res2_i hC (run2_V (As := [.int (xs (6 * k + 1))]) (rest := [.int r1]) hM hC hl.1.1 kv_L_26 (c_X12_barrel l G s.heap.size A1 400 (xs (6 * k + 1)) h1 _ hw) hc_10 k4 rfl rfl rfl ⟨Nat.le_of_ble_eq_true rfl, Nat.le_of_ble_eq_true rfl⟩ (Nat.le_of_ble_eq_true rfl) ⟨rc_le (by omega), rs_le (by omega)⟩ dL_law_245) (fun r2 h2 H locs hw hC => ?_)
  obtain ⟨er, hI2⟩ := hw
  refine lv_icmp_eq (tgt := 1239) hx hb dL_law_248 (by decide) (fun _ => ?_) (fun z => absurd er.symm z)
  refine W.widen (k := cells + 9) (n := slots + 2308) (by omega) (by omega) ?_
  exact nx A1 h2 H locs hI2 ⟨hC.1, hC.2.1, hC.2.2.1, EM.rf⟩ hl
theorem la_rust {p : Program} {l : Launch} {e : Env} {s : State} {m : MethodId} {below : List Frame} {meth : Method} {c : Code} {G : GG} {b L : Nat} {xs : Nat → Int32} {Q : State → Prop} (X : LX G p s m meth c b L xs) {k : Nat} (hk : 6 * k + 5 < L) {A : Nat → Nat} {g : Hp} {H : Heap} {locs : List Loc} {ls : Array Slot} {cells slots : Nat} (hI : Inv k g) (hC : Cx2 G s.heap.size A g A g s.heap H locs) (hl : lo_has ls 4 [(3, .int (nI (6 * k))), (2, .ref (A 400)), (1, .ref (A 1)), (0, .ref b)]) (hcs : cells + 9 ≤ 600000) (hss : slots + 2308 ≤ 7302249) (nx : ∀ (A1 : Nat → Nat) (g1 : Hp) (H1 : Heap) (locs1 : List Loc), Inv (k + 1) g1 → Cx2 G s.heap.size A1 g1 A1 g1 s.heap H1 locs1 → lo_has ls 4 [(3, .int (nI (6 * k))), (2, .ref (A1 400)), (1, .ref (A1 1)), (0, .ref b)] → W p l e room_1 s m #[Value.ref b] below meth c H1 locs1 (cells + 9) (slots + 2308) Q (F0 m 1239 ls [])) : W p l e room_1 s m #[Value.ref b] below meth c H locs cells slots Q (F0 m 253 ls []) := by
  obtain ⟨hM, hX, hbl, hL⟩ := id X
  obtain ⟨hx, hb, hr, hml, hown, hts, hg, hs, hlk, hnm⟩ := id hM
  have hn : k < 100000 := by omega
  have k1 := Inv_k1 hI
  have k4 := Inv_k4 hI
  have n1 : (hpK g 1).1 ≠ 0 := by rw [k1]; decide
  have n4 : (hpK g 400).1 ≠ 0 := by rw [k4]; decide
  refine lv_aload_n hx hb dL_law_253 rfl (lo_at hl 2 rfl) ?_
  refine l_arg (j := 1) X hk (by decide) hl hC.1.2.2 dL_law_254 dL_law_255 dL_law_256 rfl dL_law_257 dL_law_258 ?_
  refine l_arg (j := 2) X hk (by decide) hl hC.1.2.2 dL_law_259 dL_law_260 dL_law_261 rfl dL_law_262 dL_law_263 ?_
  refine res2_i hC (run2_V (As := [.int (xs (6 * k + 1)), .int (xs (6 * k + 2))]) (rest := []) hM hC hl.1.1 kv_L_27 (c_X11_rust l G s.heap.size A 1 (xs (6 * k + 1)) (xs (6 * k + 2)) g _ (pair_rust hI (xs (6 * k + 1)) (xs (6 * k + 2)))) hc_9 k1 rfl rfl rfl ⟨Nat.le_of_ble_eq_true rfl, Nat.le_of_ble_eq_true rfl⟩ (Nat.le_of_ble_eq_true rfl) ⟨rc_le (by omega), rs_le (by omega)⟩ dL_law_264) (fun r1 h1 H locs hw hC => ?_)
  have k4 : (hpK h1 400).1 = 20 + 10 := by rw [(hC.2.2.2 400 n4).1]; exact k4
  refine lv_aload_n hx hb dL_law_267 rfl (lo_at hl 1 rfl) ?_
  refine l_arg (j := 1) X hk (by decide) hl hC.1.2.2 dL_law_268 dL_law_269 dL_law_270 rfl dL_law_271 dL_law_272 ?_
  refine l_arg (j := 2) X hk (by decide) hl hC.1.2.2 dL_law_273 dL_law_274 dL_law_275 rfl dL_law_276 dL_law_277 ?_
  refine res2_i hC (run2_V (As := [.int (xs (6 * k + 1)), .int (xs (6 * k + 2))]) (rest := [.int r1]) hM hC hl.1.1 kv_L_31 (c_X12_rust l G s.heap.size A 400 (xs (6 * k + 1)) (xs (6 * k + 2)) h1 _ hw) hc_10 k4 rfl rfl rfl ⟨Nat.le_of_ble_eq_true rfl, Nat.le_of_ble_eq_true rfl⟩ (Nat.le_of_ble_eq_true rfl) ⟨rc_le (by omega), rs_le (by omega)⟩ dL_law_278) (fun r2 h2 H locs hw hC => ?_)
  obtain ⟨er, hI2⟩ := hw
  refine lv_icmp_eq (tgt := 1239) hx hb dL_law_281 (by decide) (fun _ => ?_) (fun z => absurd er.symm z)
  refine W.widen (k := cells + 9) (n := slots + 2308) (by omega) (by omega) ?_
  exact nx A h2 H locs hI2 ⟨hC.1, hC.2.1, hC.2.2.1, EM.rf⟩ hl
theorem la_shot {p : Program} {l : Launch} {e : Env} {s : State} {m : MethodId} {below : List Frame} {meth : Method} {c : Code} {G : GG} {b L : Nat} {xs : Nat → Int32} {Q : State → Prop} (X : LX G p s m meth c b L xs) {k : Nat} (hk : 6 * k + 5 < L) {A : Nat → Nat} {g : Hp} {H : Heap} {locs : List Loc} {ls : Array Slot} {cells slots : Nat} (hI : Inv k g) (hC : Cx2 G s.heap.size A g A g s.heap H locs) (hl : lo_has ls 4 [(3, .int (nI (6 * k))), (2, .ref (A 400)), (1, .ref (A 1)), (0, .ref b)]) (hcs : cells + 9 ≤ 600000) (hss : slots + 2308 ≤ 7302249) (nx : ∀ (A1 : Nat → Nat) (g1 : Hp) (H1 : Heap) (locs1 : List Loc), Inv (k + 1) g1 → Cx2 G s.heap.size A1 g1 A1 g1 s.heap H1 locs1 → lo_has ls 4 [(3, .int (nI (6 * k))), (2, .ref (A1 400)), (1, .ref (A1 1)), (0, .ref b)] → W p l e room_1 s m #[Value.ref b] below meth c H1 locs1 (cells + 9) (slots + 2308) Q (F0 m 1239 ls [])) : W p l e room_1 s m #[Value.ref b] below meth c H locs cells slots Q (F0 m 286 ls []) := by
  obtain ⟨hM, hX, hbl, hL⟩ := id X
  obtain ⟨hx, hb, hr, hml, hown, hts, hg, hs, hlk, hnm⟩ := id hM
  have hn : k < 100000 := by omega
  have k1 := Inv_k1 hI
  have k4 := Inv_k4 hI
  have n1 : (hpK g 1).1 ≠ 0 := by rw [k1]; decide
  have n4 : (hpK g 400).1 ≠ 0 := by rw [k4]; decide
  refine lv_aload_n hx hb dL_law_286 rfl (lo_at hl 2 rfl) ?_
  refine l_arg (j := 1) X hk (by decide) hl hC.1.2.2 dL_law_287 dL_law_288 dL_law_289 rfl dL_law_290 dL_law_291 ?_
  refine l_arg (j := 2) X hk (by decide) hl hC.1.2.2 dL_law_292 dL_law_293 dL_law_294 rfl dL_law_295 dL_law_296 ?_
  refine res2_ia hC (run2_V (As := [.int (xs (6 * k + 1)), .int (xs (6 * k + 2))]) (rest := []) hM hC hl.1.1 kv_L_32 (c_X11_shot l G s.heap.size A 1 (xs (6 * k + 1)) (xs (6 * k + 2)) g _ (pair_shot hI hn (xs (6 * k + 1)) (xs (6 * k + 2)))) hc_9 k1 rfl rfl rfl ⟨Nat.le_of_ble_eq_true rfl, Nat.le_of_ble_eq_true rfl⟩ (Nat.le_of_ble_eq_true rfl) ⟨rc_le (by omega), rs_le (by omega)⟩ dL_law_297) (fun r1 A1 h1 H locs hw hE hC => ?_)
  have k4 : (hpK h1 400).1 = 20 + 10 := by rw [(hC.2.2.2 400 n4).1]; exact k4
  replace hl : lo_has ls 4 [(3, .int (nI (6 * k))), (2, .ref (A1 400)), (1, .ref (A1 1)), (0, .ref b)] := by rw [(hC.2.2.2 400 n4).2, (hC.2.2.2 1 n1).2]; exact hl
  refine lv_aload_n hx hb dL_law_300 rfl (lo_at hl 1 rfl) ?_
  refine l_arg (j := 1) X hk (by decide) hl hC.1.2.2 dL_law_301 dL_law_302 dL_law_303 rfl dL_law_304 dL_law_305 ?_
  refine l_arg (j := 2) X hk (by decide) hl hC.1.2.2 dL_law_306 dL_law_307 dL_law_308 rfl dL_law_309 dL_law_310 ?_
  refine res2_i hC (run2_V (As := [.int (xs (6 * k + 1)), .int (xs (6 * k + 2))]) (rest := [.int r1]) hM hC hl.1.1 kv_L_36 (c_X12_shot l G s.heap.size A1 400 (xs (6 * k + 1)) (xs (6 * k + 2)) h1 _ hw) hc_10 k4 rfl rfl rfl ⟨Nat.le_of_ble_eq_true rfl, Nat.le_of_ble_eq_true rfl⟩ (Nat.le_of_ble_eq_true rfl) ⟨rc_le (by omega), rs_le (by omega)⟩ dL_law_311) (fun r2 h2 H locs hw hC => ?_)
  obtain ⟨er, hI2⟩ := hw
  refine lv_icmp_eq (tgt := 1239) hx hb dL_law_314 (by decide) (fun _ => ?_) (fun z => absurd er.symm z)
  refine W.widen (k := cells + 9) (n := slots + 2308) (by omega) (by omega) ?_
  exact nx A1 h2 H locs hI2 ⟨hC.1, hC.2.1, hC.2.2.1, EM.rf⟩ hl
theorem la_found {p : Program} {l : Launch} {e : Env} {s : State} {m : MethodId} {below : List Frame} {meth : Method} {c : Code} {G : GG} {b L : Nat} {xs : Nat → Int32} {Q : State → Prop} (X : LX G p s m meth c b L xs) {k : Nat} (hk : 6 * k + 5 < L) {A : Nat → Nat} {g : Hp} {H : Heap} {locs : List Loc} {ls : Array Slot} {cells slots : Nat} (hI : Inv k g) (hC : Cx2 G s.heap.size A g A g s.heap H locs) (hl : lo_has ls 4 [(3, .int (nI (6 * k))), (2, .ref (A 400)), (1, .ref (A 1)), (0, .ref b)]) (hcs : cells + 9 ≤ 600000) (hss : slots + 2308 ≤ 7302249) (nx : ∀ (A1 : Nat → Nat) (g1 : Hp) (H1 : Heap) (locs1 : List Loc), Inv (k + 1) g1 → Cx2 G s.heap.size A1 g1 A1 g1 s.heap H1 locs1 → lo_has ls 4 [(3, .int (nI (6 * k))), (2, .ref (A1 400)), (1, .ref (A1 1)), (0, .ref b)] → W p l e room_1 s m #[Value.ref b] below meth c H1 locs1 (cells + 9) (slots + 2308) Q (F0 m 1239 ls [])) : W p l e room_1 s m #[Value.ref b] below meth c H locs cells slots Q (F0 m 319 ls []) := by
  obtain ⟨hM, hX, hbl, hL⟩ := id X
  obtain ⟨hx, hb, hr, hml, hown, hts, hg, hs, hlk, hnm⟩ := id hM
  have hn : k < 100000 := by omega
  have k1 := Inv_k1 hI
  have k4 := Inv_k4 hI
  have n1 : (hpK g 1).1 ≠ 0 := by rw [k1]; decide
  have n4 : (hpK g 400).1 ≠ 0 := by rw [k4]; decide
  refine lv_aload_n hx hb dL_law_319 rfl (lo_at hl 2 rfl) ?_
  refine res2_ia hC (run2_V (As := []) (rest := []) hM hC hl.1.1 kv_L_37 (c_X11_found l G s.heap.size A 1 g _ (pair_found hI hn)) hc_9 k1 rfl rfl rfl ⟨Nat.le_of_ble_eq_true rfl, Nat.le_of_ble_eq_true rfl⟩ (Nat.le_of_ble_eq_true rfl) ⟨rc_le (by omega), rs_le (by omega)⟩ dL_law_320) (fun r1 A1 h1 H locs hw hE hC => ?_)
  have k4 : (hpK h1 400).1 = 20 + 10 := by rw [(hC.2.2.2 400 n4).1]; exact k4
  replace hl : lo_has ls 4 [(3, .int (nI (6 * k))), (2, .ref (A1 400)), (1, .ref (A1 1)), (0, .ref b)] := by rw [(hC.2.2.2 400 n4).2, (hC.2.2.2 1 n1).2]; exact hl
  refine lv_aload_n hx hb dL_law_323 rfl (lo_at hl 1 rfl) ?_
  refine res2_i hC (run2_V (As := []) (rest := [.int r1]) hM hC hl.1.1 kv_L_41 (c_X12_found l G s.heap.size A1 400 h1 _ hw) hc_10 k4 rfl rfl rfl ⟨Nat.le_of_ble_eq_true rfl, Nat.le_of_ble_eq_true rfl⟩ (Nat.le_of_ble_eq_true rfl) ⟨rc_le (by omega), rs_le (by omega)⟩ dL_law_324) (fun r2 h2 H locs hw hC => ?_)
  obtain ⟨er, hI2⟩ := hw
  refine lv_icmp_eq (tgt := 1239) hx hb dL_law_327 (by decide) (fun _ => ?_) (fun z => absurd er.symm z)
  refine W.widen (k := cells + 9) (n := slots + 2308) (by omega) (by omega) ?_
  exact nx A1 h2 H locs hI2 ⟨hC.1, hC.2.1, hC.2.2.1, EM.rf⟩ hl
theorem la_hair {p : Program} {l : Launch} {e : Env} {s : State} {m : MethodId} {below : List Frame} {meth : Method} {c : Code} {G : GG} {b L : Nat} {xs : Nat → Int32} {Q : State → Prop} (X : LX G p s m meth c b L xs) {k : Nat} (hk : 6 * k + 5 < L) {A : Nat → Nat} {g : Hp} {H : Heap} {locs : List Loc} {ls : Array Slot} {cells slots : Nat} (hI : Inv k g) (hC : Cx2 G s.heap.size A g A g s.heap H locs) (hl : lo_has ls 4 [(3, .int (nI (6 * k))), (2, .ref (A 400)), (1, .ref (A 1)), (0, .ref b)]) (hcs : cells + 9 ≤ 600000) (hss : slots + 2308 ≤ 7302249) (nx : ∀ (A1 : Nat → Nat) (g1 : Hp) (H1 : Heap) (locs1 : List Loc), Inv (k + 1) g1 → Cx2 G s.heap.size A1 g1 A1 g1 s.heap H1 locs1 → lo_has ls 4 [(3, .int (nI (6 * k))), (2, .ref (A1 400)), (1, .ref (A1 1)), (0, .ref b)] → W p l e room_1 s m #[Value.ref b] below meth c H1 locs1 (cells + 9) (slots + 2308) Q (F0 m 1239 ls [])) : W p l e room_1 s m #[Value.ref b] below meth c H locs cells slots Q (F0 m 332 ls []) := by
  obtain ⟨hM, hX, hbl, hL⟩ := id X
  obtain ⟨hx, hb, hr, hml, hown, hts, hg, hs, hlk, hnm⟩ := id hM
  have hn : k < 100000 := by omega
  have k1 := Inv_k1 hI
  have k4 := Inv_k4 hI
  have n1 : (hpK g 1).1 ≠ 0 := by rw [k1]; decide
  have n4 : (hpK g 400).1 ≠ 0 := by rw [k4]; decide
  refine lv_aload_n hx hb dL_law_332 rfl (lo_at hl 2 rfl) ?_
  refine l_arg (j := 1) X hk (by decide) hl hC.1.2.2 dL_law_333 dL_law_334 dL_law_335 rfl dL_law_336 dL_law_337 ?_
  refine l_arg (j := 2) X hk (by decide) hl hC.1.2.2 dL_law_338 dL_law_339 dL_law_340 rfl dL_law_341 dL_law_342 ?_
  refine l_arg (j := 3) X hk (by decide) hl hC.1.2.2 dL_law_343 dL_law_344 dL_law_345 rfl dL_law_346 dL_law_347 ?_
  refine res2_i hC (run2_V (As := [.int (xs (6 * k + 1)), .int (xs (6 * k + 2)), .int (xs (6 * k + 3))]) (rest := []) hM hC hl.1.1 kv_L_42 (c_X11_hair l G s.heap.size A 1 (xs (6 * k + 1)) (xs (6 * k + 2)) (xs (6 * k + 3)) g _ (pair_hair hI hn (xs (6 * k + 1)) (xs (6 * k + 2)) (xs (6 * k + 3)))) hc_9 k1 rfl rfl rfl ⟨Nat.le_of_ble_eq_true rfl, Nat.le_of_ble_eq_true rfl⟩ (Nat.le_of_ble_eq_true rfl) ⟨rc_le (by omega), rs_le (by omega)⟩ dL_law_348) (fun r1 h1 H locs hw hC => ?_)
  have k4 : (hpK h1 400).1 = 20 + 10 := by rw [(hC.2.2.2 400 n4).1]; exact k4
  refine lv_aload_n hx hb dL_law_351 rfl (lo_at hl 1 rfl) ?_
  refine l_arg (j := 1) X hk (by decide) hl hC.1.2.2 dL_law_352 dL_law_353 dL_law_354 rfl dL_law_355 dL_law_356 ?_
  refine l_arg (j := 2) X hk (by decide) hl hC.1.2.2 dL_law_357 dL_law_358 dL_law_359 rfl dL_law_360 dL_law_361 ?_
  refine l_arg (j := 3) X hk (by decide) hl hC.1.2.2 dL_law_362 dL_law_363 dL_law_364 rfl dL_law_365 dL_law_366 ?_
  refine res2_i hC (run2_V (As := [.int (xs (6 * k + 1)), .int (xs (6 * k + 2)), .int (xs (6 * k + 3))]) (rest := [.int r1]) hM hC hl.1.1 kv_L_45 (c_X12_hair l G s.heap.size A 400 (xs (6 * k + 1)) (xs (6 * k + 2)) (xs (6 * k + 3)) h1 _ hw) hc_10 k4 rfl rfl rfl ⟨Nat.le_of_ble_eq_true rfl, Nat.le_of_ble_eq_true rfl⟩ (Nat.le_of_ble_eq_true rfl) ⟨rc_le (by omega), rs_le (by omega)⟩ dL_law_367) (fun r2 h2 H locs hw hC => ?_)
  obtain ⟨er, hI2⟩ := hw
  refine lv_icmp_eq (tgt := 1239) hx hb dL_law_370 (by decide) (fun _ => ?_) (fun z => absurd er.symm z)
  refine W.widen (k := cells + 9) (n := slots + 2308) (by omega) (by omega) ?_
  exact nx A h2 H locs hI2 ⟨hC.1, hC.2.1, hC.2.2.1, EM.rf⟩ hl
theorem la_at {p : Program} {l : Launch} {e : Env} {s : State} {m : MethodId} {below : List Frame} {meth : Method} {c : Code} {G : GG} {b L : Nat} {xs : Nat → Int32} {Q : State → Prop} (X : LX G p s m meth c b L xs) {k : Nat} (hk : 6 * k + 5 < L) {A : Nat → Nat} {g : Hp} {H : Heap} {locs : List Loc} {ls : Array Slot} {cells slots : Nat} (hI : Inv k g) (hC : Cx2 G s.heap.size A g A g s.heap H locs) (hl : lo_has ls 4 [(3, .int (nI (6 * k))), (2, .ref (A 400)), (1, .ref (A 1)), (0, .ref b)]) (hcs : cells + 9 ≤ 600000) (hss : slots + 2308 ≤ 7302249) (nx : ∀ (A1 : Nat → Nat) (g1 : Hp) (H1 : Heap) (locs1 : List Loc), Inv (k + 1) g1 → Cx2 G s.heap.size A1 g1 A1 g1 s.heap H1 locs1 → lo_has ls 4 [(3, .int (nI (6 * k))), (2, .ref (A1 400)), (1, .ref (A1 1)), (0, .ref b)] → W p l e room_1 s m #[Value.ref b] below meth c H1 locs1 (cells + 9) (slots + 2308) Q (F0 m 1239 ls [])) : W p l e room_1 s m #[Value.ref b] below meth c H locs cells slots Q (F0 m 375 ls []) := by
  obtain ⟨hM, hX, hbl, hL⟩ := id X
  obtain ⟨hx, hb, hr, hml, hown, hts, hg, hs, hlk, hnm⟩ := id hM
  have hn : k < 100000 := by omega
  have k1 := Inv_k1 hI
  have k4 := Inv_k4 hI
  have n1 : (hpK g 1).1 ≠ 0 := by rw [k1]; decide
  have n4 : (hpK g 400).1 ≠ 0 := by rw [k4]; decide
  refine lv_aload_n hx hb dL_law_375 rfl (lo_at hl 2 rfl) ?_
  refine l_arg (j := 1) X hk (by decide) hl hC.1.2.2 dL_law_376 dL_law_377 dL_law_378 rfl dL_law_379 dL_law_380 ?_
  refine l_arg (j := 2) X hk (by decide) hl hC.1.2.2 dL_law_381 dL_law_382 dL_law_383 rfl dL_law_384 dL_law_385 ?_
  refine l_arg (j := 3) X hk (by decide) hl hC.1.2.2 dL_law_386 dL_law_387 dL_law_388 rfl dL_law_389 dL_law_390 ?_
  refine res2_i hC (run2_V (As := [.int (xs (6 * k + 1)), .int (xs (6 * k + 2)), .int (xs (6 * k + 3))]) (rest := []) hM hC hl.1.1 kv_L_46 (c_X11_at l G s.heap.size A 1 (xs (6 * k + 1)) (xs (6 * k + 2)) (xs (6 * k + 3)) g _ (pair_at hI (xs (6 * k + 1)) (xs (6 * k + 2)) (xs (6 * k + 3)))) hc_9 k1 rfl rfl rfl ⟨Nat.le_of_ble_eq_true rfl, Nat.le_of_ble_eq_true rfl⟩ (Nat.le_of_ble_eq_true rfl) ⟨rc_le (by omega), rs_le (by omega)⟩ dL_law_391) (fun r1 h1 H locs hw hC => ?_)
  have k4 : (hpK h1 400).1 = 20 + 10 := by rw [(hC.2.2.2 400 n4).1]; exact k4
  refine lv_aload_n hx hb dL_law_394 rfl (lo_at hl 1 rfl) ?_
  refine l_arg (j := 1) X hk (by decide) hl hC.1.2.2 dL_law_395 dL_law_396 dL_law_397 rfl dL_law_398 dL_law_399 ?_
  refine l_arg (j := 2) X hk (by decide) hl hC.1.2.2 dL_law_400 dL_law_401 dL_law_402 rfl dL_law_403 dL_law_404 ?_
  refine l_arg (j := 3) X hk (by decide) hl hC.1.2.2 dL_law_405 dL_law_406 dL_law_407 rfl dL_law_408 dL_law_409 ?_
  refine res2_i hC (run2_V (As := [.int (xs (6 * k + 1)), .int (xs (6 * k + 2)), .int (xs (6 * k + 3))]) (rest := [.int r1]) hM hC hl.1.1 kv_L_50 (c_X12_at l G s.heap.size A 400 (xs (6 * k + 1)) (xs (6 * k + 2)) (xs (6 * k + 3)) h1 _ hw) hc_10 k4 rfl rfl rfl ⟨Nat.le_of_ble_eq_true rfl, Nat.le_of_ble_eq_true rfl⟩ (Nat.le_of_ble_eq_true rfl) ⟨rc_le (by omega), rs_le (by omega)⟩ dL_law_410) (fun r2 h2 H locs hw hC => ?_)
  obtain ⟨er, hI2⟩ := hw
  refine lv_icmp_eq (tgt := 1239) hx hb dL_law_413 (by decide) (fun _ => ?_) (fun z => absurd er.symm z)
  refine W.widen (k := cells + 9) (n := slots + 2308) (by omega) (by omega) ?_
  exact nx A h2 H locs hI2 ⟨hC.1, hC.2.1, hC.2.2.1, EM.rf⟩ hl
theorem la_of {p : Program} {l : Launch} {e : Env} {s : State} {m : MethodId} {below : List Frame} {meth : Method} {c : Code} {G : GG} {b L : Nat} {xs : Nat → Int32} {Q : State → Prop} (X : LX G p s m meth c b L xs) {k : Nat} (hk : 6 * k + 5 < L) {A : Nat → Nat} {g : Hp} {H : Heap} {locs : List Loc} {ls : Array Slot} {cells slots : Nat} (hI : Inv k g) (hC : Cx2 G s.heap.size A g A g s.heap H locs) (hl : lo_has ls 4 [(3, .int (nI (6 * k))), (2, .ref (A 400)), (1, .ref (A 1)), (0, .ref b)]) (hcs : cells + 9 ≤ 600000) (hss : slots + 2308 ≤ 7302249) (nx : ∀ (A1 : Nat → Nat) (g1 : Hp) (H1 : Heap) (locs1 : List Loc), Inv (k + 1) g1 → Cx2 G s.heap.size A1 g1 A1 g1 s.heap H1 locs1 → lo_has ls 4 [(3, .int (nI (6 * k))), (2, .ref (A1 400)), (1, .ref (A1 1)), (0, .ref b)] → W p l e room_1 s m #[Value.ref b] below meth c H1 locs1 (cells + 9) (slots + 2308) Q (F0 m 1239 ls [])) : W p l e room_1 s m #[Value.ref b] below meth c H locs cells slots Q (F0 m 418 ls []) := by
  obtain ⟨hM, hX, hbl, hL⟩ := id X
  obtain ⟨hx, hb, hr, hml, hown, hts, hg, hs, hlk, hnm⟩ := id hM
  have hn : k < 100000 := by omega
  have k1 := Inv_k1 hI
  have k4 := Inv_k4 hI
  have n1 : (hpK g 1).1 ≠ 0 := by rw [k1]; decide
  have n4 : (hpK g 400).1 ≠ 0 := by rw [k4]; decide
  refine lv_aload_n hx hb dL_law_418 rfl (lo_at hl 2 rfl) ?_
  refine l_arg (j := 1) X hk (by decide) hl hC.1.2.2 dL_law_419 dL_law_420 dL_law_421 rfl dL_law_422 dL_law_423 ?_
  refine l_arg (j := 2) X hk (by decide) hl hC.1.2.2 dL_law_424 dL_law_425 dL_law_426 rfl dL_law_427 dL_law_428 ?_
  refine res2_i hC (run2_V (As := [.int (xs (6 * k + 1)), .int (xs (6 * k + 2))]) (rest := []) hM hC hl.1.1 kv_L_51 (c_X11_of l G s.heap.size A 1 (xs (6 * k + 1)) (xs (6 * k + 2)) g _ (pair_of hI (xs (6 * k + 1)) (xs (6 * k + 2)))) hc_9 k1 rfl rfl rfl ⟨Nat.le_of_ble_eq_true rfl, Nat.le_of_ble_eq_true rfl⟩ (Nat.le_of_ble_eq_true rfl) ⟨rc_le (by omega), rs_le (by omega)⟩ dL_law_429) (fun r1 h1 H locs hw hC => ?_)
  have k4 : (hpK h1 400).1 = 20 + 10 := by rw [(hC.2.2.2 400 n4).1]; exact k4
  refine lv_aload_n hx hb dL_law_432 rfl (lo_at hl 1 rfl) ?_
  refine l_arg (j := 1) X hk (by decide) hl hC.1.2.2 dL_law_433 dL_law_434 dL_law_435 rfl dL_law_436 dL_law_437 ?_
  refine l_arg (j := 2) X hk (by decide) hl hC.1.2.2 dL_law_438 dL_law_439 dL_law_440 rfl dL_law_441 dL_law_442 ?_
  refine res2_i hC (run2_V (As := [.int (xs (6 * k + 1)), .int (xs (6 * k + 2))]) (rest := [.int r1]) hM hC hl.1.1 kv_L_54 (c_X12_of l G s.heap.size A 400 (xs (6 * k + 1)) (xs (6 * k + 2)) h1 _ hw) hc_10 k4 rfl rfl rfl ⟨Nat.le_of_ble_eq_true rfl, Nat.le_of_ble_eq_true rfl⟩ (Nat.le_of_ble_eq_true rfl) ⟨rc_le (by omega), rs_le (by omega)⟩ dL_law_443) (fun r2 h2 H locs hw hC => ?_)
  obtain ⟨er, hI2⟩ := hw
  refine lv_icmp_eq (tgt := 1239) hx hb dL_law_446 (by decide) (fun _ => ?_) (fun z => absurd er.symm z)
  refine W.widen (k := cells + 9) (n := slots + 2308) (by omega) (by omega) ?_
  exact nx A h2 H locs hI2 ⟨hC.1, hC.2.1, hC.2.2.1, EM.rf⟩ hl
theorem la_feed {p : Program} {l : Launch} {e : Env} {s : State} {m : MethodId} {below : List Frame} {meth : Method} {c : Code} {G : GG} {b L : Nat} {xs : Nat → Int32} {Q : State → Prop} (X : LX G p s m meth c b L xs) {k : Nat} (hk : 6 * k + 5 < L) {A : Nat → Nat} {g : Hp} {H : Heap} {locs : List Loc} {ls : Array Slot} {cells slots : Nat} (hI : Inv k g) (hC : Cx2 G s.heap.size A g A g s.heap H locs) (hl : lo_has ls 4 [(3, .int (nI (6 * k))), (2, .ref (A 400)), (1, .ref (A 1)), (0, .ref b)]) (hcs : cells + 9 ≤ 600000) (hss : slots + 2308 ≤ 7302249) (nx : ∀ (A1 : Nat → Nat) (g1 : Hp) (H1 : Heap) (locs1 : List Loc), Inv (k + 1) g1 → Cx2 G s.heap.size A1 g1 A1 g1 s.heap H1 locs1 → lo_has ls 4 [(3, .int (nI (6 * k))), (2, .ref (A1 400)), (1, .ref (A1 1)), (0, .ref b)] → W p l e room_1 s m #[Value.ref b] below meth c H1 locs1 (cells + 9) (slots + 2308) Q (F0 m 1239 ls [])) : W p l e room_1 s m #[Value.ref b] below meth c H locs cells slots Q (F0 m 451 ls []) := by
  obtain ⟨hM, hX, hbl, hL⟩ := id X
  obtain ⟨hx, hb, hr, hml, hown, hts, hg, hs, hlk, hnm⟩ := id hM
  have hn : k < 100000 := by omega
  have k1 := Inv_k1 hI
  have k4 := Inv_k4 hI
  have n1 : (hpK g 1).1 ≠ 0 := by rw [k1]; decide
  have n4 : (hpK g 400).1 ≠ 0 := by rw [k4]; decide
  refine lv_aload_n hx hb dL_law_451 rfl (lo_at hl 2 rfl) ?_
  refine l_arg (j := 1) X hk (by decide) hl hC.1.2.2 dL_law_452 dL_law_453 dL_law_454 rfl dL_law_455 dL_law_456 ?_
  refine l_arg (j := 2) X hk (by decide) hl hC.1.2.2 dL_law_457 dL_law_458 dL_law_459 rfl dL_law_460 dL_law_461 ?_
  refine l_arg (j := 3) X hk (by decide) hl hC.1.2.2 dL_law_462 dL_law_463 dL_law_464 rfl dL_law_465 dL_law_466 ?_
  refine l_arg (j := 4) X hk (by decide) hl hC.1.2.2 dL_law_467 dL_law_468 dL_law_469 rfl dL_law_470 dL_law_471 ?_
  refine l_arg (j := 5) X hk (by decide) hl hC.1.2.2 dL_law_472 dL_law_473 dL_law_474 rfl dL_law_475 dL_law_476 ?_
  refine res2_i hC (run2_V (As := [.int (xs (6 * k + 1)), .int (xs (6 * k + 2)), .int (xs (6 * k + 3)), .int (xs (6 * k + 4)), .int (xs (6 * k + 5))]) (rest := []) hM hC hl.1.1 kv_L_55 (c_X11_feed l G s.heap.size A 1 (xs (6 * k + 1)) (xs (6 * k + 2)) (xs (6 * k + 3)) (xs (6 * k + 4)) (xs (6 * k + 5)) g _ (pair_feed hI (xs (6 * k + 1)) (xs (6 * k + 2)) (xs (6 * k + 3)) (xs (6 * k + 4)) (xs (6 * k + 5)))) hc_9 k1 rfl rfl rfl ⟨Nat.le_of_ble_eq_true rfl, Nat.le_of_ble_eq_true rfl⟩ (Nat.le_of_ble_eq_true rfl) ⟨rc_le (by omega), rs_le (by omega)⟩ dL_law_477) (fun r1 h1 H locs hw hC => ?_)
  have k4 : (hpK h1 400).1 = 20 + 10 := by rw [(hC.2.2.2 400 n4).1]; exact k4
  refine lv_aload_n hx hb dL_law_480 rfl (lo_at hl 1 rfl) ?_
  refine l_arg (j := 1) X hk (by decide) hl hC.1.2.2 dL_law_481 dL_law_482 dL_law_483 rfl dL_law_484 dL_law_485 ?_
  refine l_arg (j := 2) X hk (by decide) hl hC.1.2.2 dL_law_486 dL_law_487 dL_law_488 rfl dL_law_489 dL_law_490 ?_
  refine l_arg (j := 3) X hk (by decide) hl hC.1.2.2 dL_law_491 dL_law_492 dL_law_493 rfl dL_law_494 dL_law_495 ?_
  refine l_arg (j := 4) X hk (by decide) hl hC.1.2.2 dL_law_496 dL_law_497 dL_law_498 rfl dL_law_499 dL_law_500 ?_
  refine l_arg (j := 5) X hk (by decide) hl hC.1.2.2 dL_law_501 dL_law_502 dL_law_503 rfl dL_law_504 dL_law_505 ?_
  refine res2_i hC (run2_V (As := [.int (xs (6 * k + 1)), .int (xs (6 * k + 2)), .int (xs (6 * k + 3)), .int (xs (6 * k + 4)), .int (xs (6 * k + 5))]) (rest := [.int r1]) hM hC hl.1.1 kv_L_59 (c_X12_feed l G s.heap.size A 400 (xs (6 * k + 1)) (xs (6 * k + 2)) (xs (6 * k + 3)) (xs (6 * k + 4)) (xs (6 * k + 5)) h1 _ hw) hc_10 k4 rfl rfl rfl ⟨Nat.le_of_ble_eq_true rfl, Nat.le_of_ble_eq_true rfl⟩ (Nat.le_of_ble_eq_true rfl) ⟨rc_le (by omega), rs_le (by omega)⟩ dL_law_506) (fun r2 h2 H locs hw hC => ?_)
  obtain ⟨er, hI2⟩ := hw
  refine lv_icmp_eq (tgt := 1239) hx hb dL_law_509 (by decide) (fun _ => ?_) (fun z => absurd er.symm z)
  refine W.widen (k := cells + 9) (n := slots + 2308) (by omega) (by omega) ?_
  exact nx A h2 H locs hI2 ⟨hC.1, hC.2.1, hC.2.2.1, EM.rf⟩ hl
theorem la_end {p : Program} {l : Launch} {e : Env} {s : State} {m : MethodId} {below : List Frame} {meth : Method} {c : Code} {G : GG} {b L : Nat} {xs : Nat → Int32} {Q : State → Prop} (X : LX G p s m meth c b L xs) {k : Nat} (hk : 6 * k + 5 < L) {A : Nat → Nat} {g : Hp} {H : Heap} {locs : List Loc} {ls : Array Slot} {cells slots : Nat} (hI : Inv k g) (hC : Cx2 G s.heap.size A g A g s.heap H locs) (hl : lo_has ls 4 [(3, .int (nI (6 * k))), (2, .ref (A 400)), (1, .ref (A 1)), (0, .ref b)]) (hcs : cells + 9 ≤ 600000) (hss : slots + 2308 ≤ 7302249) (nx : ∀ (A1 : Nat → Nat) (g1 : Hp) (H1 : Heap) (locs1 : List Loc), Inv (k + 1) g1 → Cx2 G s.heap.size A1 g1 A1 g1 s.heap H1 locs1 → lo_has ls 4 [(3, .int (nI (6 * k))), (2, .ref (A1 400)), (1, .ref (A1 1)), (0, .ref b)] → W p l e room_1 s m #[Value.ref b] below meth c H1 locs1 (cells + 9) (slots + 2308) Q (F0 m 1239 ls [])) : W p l e room_1 s m #[Value.ref b] below meth c H locs cells slots Q (F0 m 514 ls []) := by
  obtain ⟨hM, hX, hbl, hL⟩ := id X
  obtain ⟨hx, hb, hr, hml, hown, hts, hg, hs, hlk, hnm⟩ := id hM
  have hn : k < 100000 := by omega
  have k1 := Inv_k1 hI
  have k4 := Inv_k4 hI
  have n1 : (hpK g 1).1 ≠ 0 := by rw [k1]; decide
  have n4 : (hpK g 400).1 ≠ 0 := by rw [k4]; decide
  refine lv_aload_n hx hb dL_law_514 rfl (lo_at hl 2 rfl) ?_
  refine l_arg (j := 1) X hk (by decide) hl hC.1.2.2 dL_law_515 dL_law_516 dL_law_517 rfl dL_law_518 dL_law_519 ?_
  refine res2_i hC (run2_V (As := [.int (xs (6 * k + 1))]) (rest := []) hM hC hl.1.1 kv_L_60 (c_X11_end l G s.heap.size A 1 (xs (6 * k + 1)) g _ (pair_end hI (xs (6 * k + 1)))) hc_9 k1 rfl rfl rfl ⟨Nat.le_of_ble_eq_true rfl, Nat.le_of_ble_eq_true rfl⟩ (Nat.le_of_ble_eq_true rfl) ⟨rc_le (by omega), rs_le (by omega)⟩ dL_law_520) (fun r1 h1 H locs hw hC => ?_)
  have k4 : (hpK h1 400).1 = 20 + 10 := by rw [(hC.2.2.2 400 n4).1]; exact k4
  refine lv_aload_n hx hb dL_law_523 rfl (lo_at hl 1 rfl) ?_
  refine l_arg (j := 1) X hk (by decide) hl hC.1.2.2 dL_law_524 dL_law_525 dL_law_526 rfl dL_law_527 dL_law_528 ?_
  refine res2_i hC (run2_V (As := [.int (xs (6 * k + 1))]) (rest := [.int r1]) hM hC hl.1.1 kv_L_64 (c_X12_end l G s.heap.size A 400 (xs (6 * k + 1)) h1 _ hw) hc_10 k4 rfl rfl rfl ⟨Nat.le_of_ble_eq_true rfl, Nat.le_of_ble_eq_true rfl⟩ (Nat.le_of_ble_eq_true rfl) ⟨rc_le (by omega), rs_le (by omega)⟩ dL_law_529) (fun r2 h2 H locs hw hC => ?_)
  obtain ⟨er, hI2⟩ := hw
  refine lv_icmp_eq (tgt := 1239) hx hb dL_law_532 (by decide) (fun _ => ?_) (fun z => absurd er.symm z)
  refine W.widen (k := cells + 9) (n := slots + 2308) (by omega) (by omega) ?_
  exact nx A h2 H locs hI2 ⟨hC.1, hC.2.1, hC.2.2.1, EM.rf⟩ hl
theorem la_laws {p : Program} {l : Launch} {e : Env} {s : State} {m : MethodId} {below : List Frame} {meth : Method} {c : Code} {G : GG} {b L : Nat} {xs : Nat → Int32} {Q : State → Prop} (X : LX G p s m meth c b L xs) {k : Nat} (hk : 6 * k + 5 < L) {A : Nat → Nat} {g : Hp} {H : Heap} {locs : List Loc} {ls : Array Slot} {cells slots : Nat} (hI : Inv k g) (hC : Cx2 G s.heap.size A g A g s.heap H locs) (hl : lo_has ls 4 [(3, .int (nI (6 * k))), (2, .ref (A 400)), (1, .ref (A 1)), (0, .ref b)]) (hcs : cells + 9 ≤ 600000) (hss : slots + 2308 ≤ 7302249) (nx : ∀ (A1 : Nat → Nat) (g1 : Hp) (H1 : Heap) (locs1 : List Loc), Inv (k + 1) g1 → Cx2 G s.heap.size A1 g1 A1 g1 s.heap H1 locs1 → lo_has ls 4 [(3, .int (nI (6 * k))), (2, .ref (A1 400)), (1, .ref (A1 1)), (0, .ref b)] → W p l e room_1 s m #[Value.ref b] below meth c H1 locs1 (cells + 9) (slots + 2308) Q (F0 m 1239 ls [])) : W p l e room_1 s m #[Value.ref b] below meth c H locs cells slots Q (F0 m 537 ls []) := by
  obtain ⟨hM, hX, hbl, hL⟩ := id X
  obtain ⟨hx, hb, hr, hml, hown, hts, hg, hs, hlk, hnm⟩ := id hM
  have hn : k < 100000 := by omega
  have k1 := Inv_k1 hI
  have k4 := Inv_k4 hI
  have n1 : (hpK g 1).1 ≠ 0 := by rw [k1]; decide
  have n4 : (hpK g 400).1 ≠ 0 := by rw [k4]; decide
  refine lv_aload_n hx hb dL_law_537 rfl (lo_at hl 2 rfl) ?_
  refine res2_i hC (run2_V (As := []) (rest := []) hM hC hl.1.1 kv_L_65 (c_X11_laws l G s.heap.size A 1 g _ (pair_laws hI hn)) hc_9 k1 rfl rfl rfl ⟨Nat.le_of_ble_eq_true rfl, Nat.le_of_ble_eq_true rfl⟩ (Nat.le_of_ble_eq_true rfl) ⟨rc_le (by omega), rs_le (by omega)⟩ dL_law_538) (fun r1 h1 H locs hw hC => ?_)
  have k4 : (hpK h1 400).1 = 20 + 10 := by rw [(hC.2.2.2 400 n4).1]; exact k4
  refine lv_aload_n hx hb dL_law_541 rfl (lo_at hl 1 rfl) ?_
  refine res2_i hC (run2_V (As := []) (rest := [.int r1]) hM hC hl.1.1 kv_L_68 (c_X12_laws l G s.heap.size A 400 h1 _ hw) hc_10 k4 rfl rfl rfl ⟨Nat.le_of_ble_eq_true rfl, Nat.le_of_ble_eq_true rfl⟩ (Nat.le_of_ble_eq_true rfl) ⟨rc_le (by omega), rs_le (by omega)⟩ dL_law_542) (fun r2 h2 H locs hw hC => ?_)
  obtain ⟨er, hI2⟩ := hw
  refine lv_icmp_eq (tgt := 1239) hx hb dL_law_545 (by decide) (fun _ => ?_) (fun z => absurd er.symm z)
  refine W.widen (k := cells + 9) (n := slots + 2308) (by omega) (by omega) ?_
  exact nx A h2 H locs hI2 ⟨hC.1, hC.2.1, hC.2.2.1, EM.rf⟩ hl
theorem la_judgement {p : Program} {l : Launch} {e : Env} {s : State} {m : MethodId} {below : List Frame} {meth : Method} {c : Code} {G : GG} {b L : Nat} {xs : Nat → Int32} {Q : State → Prop} (X : LX G p s m meth c b L xs) {k : Nat} (hk : 6 * k + 5 < L) {A : Nat → Nat} {g : Hp} {H : Heap} {locs : List Loc} {ls : Array Slot} {cells slots : Nat} (hI : Inv k g) (hC : Cx2 G s.heap.size A g A g s.heap H locs) (hl : lo_has ls 4 [(3, .int (nI (6 * k))), (2, .ref (A 400)), (1, .ref (A 1)), (0, .ref b)]) (hcs : cells + 9 ≤ 600000) (hss : slots + 2308 ≤ 7302249) (nx : ∀ (A1 : Nat → Nat) (g1 : Hp) (H1 : Heap) (locs1 : List Loc), Inv (k + 1) g1 → Cx2 G s.heap.size A1 g1 A1 g1 s.heap H1 locs1 → lo_has ls 4 [(3, .int (nI (6 * k))), (2, .ref (A1 400)), (1, .ref (A1 1)), (0, .ref b)] → W p l e room_1 s m #[Value.ref b] below meth c H1 locs1 (cells + 9) (slots + 2308) Q (F0 m 1239 ls [])) : W p l e room_1 s m #[Value.ref b] below meth c H locs cells slots Q (F0 m 550 ls []) := by
  obtain ⟨hM, hX, hbl, hL⟩ := id X
  obtain ⟨hx, hb, hr, hml, hown, hts, hg, hs, hlk, hnm⟩ := id hM
  have hn : k < 100000 := by omega
  have k1 := Inv_k1 hI
  have k4 := Inv_k4 hI
  have n1 : (hpK g 1).1 ≠ 0 := by rw [k1]; decide
  have n4 : (hpK g 400).1 ≠ 0 := by rw [k4]; decide
  refine lv_aload_n hx hb dL_law_550 rfl (lo_at hl 2 rfl) ?_
  refine l_arg (j := 1) X hk (by decide) hl hC.1.2.2 dL_law_551 dL_law_552 dL_law_553 rfl dL_law_554 dL_law_555 ?_
  refine res2_i hC (run2_V (As := [.int (xs (6 * k + 1))]) (rest := []) hM hC hl.1.1 kv_L_69 (c_X11_judgement l G s.heap.size A 1 (xs (6 * k + 1)) g _ (pair_judgement hI hn (xs (6 * k + 1)))) hc_9 k1 rfl rfl rfl ⟨Nat.le_of_ble_eq_true rfl, Nat.le_of_ble_eq_true rfl⟩ (Nat.le_of_ble_eq_true rfl) ⟨rc_le (by omega), rs_le (by omega)⟩ dL_law_556) (fun r1 h1 H locs hw hC => ?_)
  have k4 : (hpK h1 400).1 = 20 + 10 := by rw [(hC.2.2.2 400 n4).1]; exact k4
  refine lv_aload_n hx hb dL_law_559 rfl (lo_at hl 1 rfl) ?_
  refine l_arg (j := 1) X hk (by decide) hl hC.1.2.2 dL_law_560 dL_law_561 dL_law_562 rfl dL_law_563 dL_law_564 ?_
  refine res2_i hC (run2_V (As := [.int (xs (6 * k + 1))]) (rest := [.int r1]) hM hC hl.1.1 kv_L_72 (c_X12_judgement l G s.heap.size A 400 (xs (6 * k + 1)) h1 _ hw) hc_10 k4 rfl rfl rfl ⟨Nat.le_of_ble_eq_true rfl, Nat.le_of_ble_eq_true rfl⟩ (Nat.le_of_ble_eq_true rfl) ⟨rc_le (by omega), rs_le (by omega)⟩ dL_law_565) (fun r2 h2 H locs hw hC => ?_)
  obtain ⟨er, hI2⟩ := hw
  refine lv_icmp_eq (tgt := 1239) hx hb dL_law_568 (by decide) (fun _ => ?_) (fun z => absurd er.symm z)
  refine W.widen (k := cells + 9) (n := slots + 2308) (by omega) (by omega) ?_
  exact nx A h2 H locs hI2 ⟨hC.1, hC.2.1, hC.2.2.1, EM.rf⟩ hl
theorem la_fault {p : Program} {l : Launch} {e : Env} {s : State} {m : MethodId} {below : List Frame} {meth : Method} {c : Code} {G : GG} {b L : Nat} {xs : Nat → Int32} {Q : State → Prop} (X : LX G p s m meth c b L xs) {k : Nat} (hk : 6 * k + 5 < L) {A : Nat → Nat} {g : Hp} {H : Heap} {locs : List Loc} {ls : Array Slot} {cells slots : Nat} (hI : Inv k g) (hC : Cx2 G s.heap.size A g A g s.heap H locs) (hl : lo_has ls 4 [(3, .int (nI (6 * k))), (2, .ref (A 400)), (1, .ref (A 1)), (0, .ref b)]) (hcs : cells + 9 ≤ 600000) (hss : slots + 2308 ≤ 7302249) (nx : ∀ (A1 : Nat → Nat) (g1 : Hp) (H1 : Heap) (locs1 : List Loc), Inv (k + 1) g1 → Cx2 G s.heap.size A1 g1 A1 g1 s.heap H1 locs1 → lo_has ls 4 [(3, .int (nI (6 * k))), (2, .ref (A1 400)), (1, .ref (A1 1)), (0, .ref b)] → W p l e room_1 s m #[Value.ref b] below meth c H1 locs1 (cells + 9) (slots + 2308) Q (F0 m 1239 ls [])) : W p l e room_1 s m #[Value.ref b] below meth c H locs cells slots Q (F0 m 573 ls []) := by
  obtain ⟨hM, hX, hbl, hL⟩ := id X
  obtain ⟨hx, hb, hr, hml, hown, hts, hg, hs, hlk, hnm⟩ := id hM
  have hn : k < 100000 := by omega
  have k1 := Inv_k1 hI
  have k4 := Inv_k4 hI
  have n1 : (hpK g 1).1 ≠ 0 := by rw [k1]; decide
  have n4 : (hpK g 400).1 ≠ 0 := by rw [k4]; decide
  refine lv_aload_n hx hb dL_law_573 rfl (lo_at hl 2 rfl) ?_
  refine l_arg (j := 1) X hk (by decide) hl hC.1.2.2 dL_law_574 dL_law_575 dL_law_576 rfl dL_law_577 dL_law_578 ?_
  refine res2_i hC (run2_V (As := [.int (xs (6 * k + 1))]) (rest := []) hM hC hl.1.1 kv_L_73 (c_X11_fault l G s.heap.size A 1 (xs (6 * k + 1)) g _ (pair_fault hI (xs (6 * k + 1)))) hc_9 k1 rfl rfl rfl ⟨Nat.le_of_ble_eq_true rfl, Nat.le_of_ble_eq_true rfl⟩ (Nat.le_of_ble_eq_true rfl) ⟨rc_le (by omega), rs_le (by omega)⟩ dL_law_579) (fun r1 h1 H locs hw hC => ?_)
  have k4 : (hpK h1 400).1 = 20 + 10 := by rw [(hC.2.2.2 400 n4).1]; exact k4
  refine lv_aload_n hx hb dL_law_582 rfl (lo_at hl 1 rfl) ?_
  refine l_arg (j := 1) X hk (by decide) hl hC.1.2.2 dL_law_583 dL_law_584 dL_law_585 rfl dL_law_586 dL_law_587 ?_
  refine res2_i hC (run2_V (As := [.int (xs (6 * k + 1))]) (rest := [.int r1]) hM hC hl.1.1 kv_L_76 (c_X12_fault l G s.heap.size A 400 (xs (6 * k + 1)) h1 _ hw) hc_10 k4 rfl rfl rfl ⟨Nat.le_of_ble_eq_true rfl, Nat.le_of_ble_eq_true rfl⟩ (Nat.le_of_ble_eq_true rfl) ⟨rc_le (by omega), rs_le (by omega)⟩ dL_law_588) (fun r2 h2 H locs hw hC => ?_)
  obtain ⟨er, hI2⟩ := hw
  refine lv_icmp_eq (tgt := 1239) hx hb dL_law_591 (by decide) (fun _ => ?_) (fun z => absurd er.symm z)
  refine W.widen (k := cells + 9) (n := slots + 2308) (by omega) (by omega) ?_
  exact nx A h2 H locs hI2 ⟨hC.1, hC.2.1, hC.2.2.1, EM.rf⟩ hl
theorem la_looker {p : Program} {l : Launch} {e : Env} {s : State} {m : MethodId} {below : List Frame} {meth : Method} {c : Code} {G : GG} {b L : Nat} {xs : Nat → Int32} {Q : State → Prop} (X : LX G p s m meth c b L xs) {k : Nat} (hk : 6 * k + 5 < L) {A : Nat → Nat} {g : Hp} {H : Heap} {locs : List Loc} {ls : Array Slot} {cells slots : Nat} (hI : Inv k g) (hC : Cx2 G s.heap.size A g A g s.heap H locs) (hl : lo_has ls 4 [(3, .int (nI (6 * k))), (2, .ref (A 400)), (1, .ref (A 1)), (0, .ref b)]) (hcs : cells + 9 ≤ 600000) (hss : slots + 2308 ≤ 7302249) (nx : ∀ (A1 : Nat → Nat) (g1 : Hp) (H1 : Heap) (locs1 : List Loc), Inv (k + 1) g1 → Cx2 G s.heap.size A1 g1 A1 g1 s.heap H1 locs1 → lo_has ls 4 [(3, .int (nI (6 * k))), (2, .ref (A1 400)), (1, .ref (A1 1)), (0, .ref b)] → W p l e room_1 s m #[Value.ref b] below meth c H1 locs1 (cells + 9) (slots + 2308) Q (F0 m 1239 ls [])) : W p l e room_1 s m #[Value.ref b] below meth c H locs cells slots Q (F0 m 596 ls []) := by
  obtain ⟨hM, hX, hbl, hL⟩ := id X
  obtain ⟨hx, hb, hr, hml, hown, hts, hg, hs, hlk, hnm⟩ := id hM
  have hn : k < 100000 := by omega
  have k1 := Inv_k1 hI
  have k4 := Inv_k4 hI
  have n1 : (hpK g 1).1 ≠ 0 := by rw [k1]; decide
  have n4 : (hpK g 400).1 ≠ 0 := by rw [k4]; decide
  refine lv_aload_n hx hb dL_law_596 rfl (lo_at hl 2 rfl) ?_
  refine l_arg (j := 1) X hk (by decide) hl hC.1.2.2 dL_law_597 dL_law_598 dL_law_599 rfl dL_law_600 dL_law_601 ?_
  refine res2_ia hC (run2_V (As := [.int (xs (6 * k + 1))]) (rest := []) hM hC hl.1.1 kv_L_77 (c_X11_looker l G s.heap.size A 1 (xs (6 * k + 1)) g _ (pair_looker hI (xs (6 * k + 1)))) hc_9 k1 rfl rfl rfl ⟨Nat.le_of_ble_eq_true rfl, Nat.le_of_ble_eq_true rfl⟩ (Nat.le_of_ble_eq_true rfl) ⟨rc_le (by omega), rs_le (by omega)⟩ dL_law_602) (fun r1 A1 h1 H locs hw hE hC => ?_)
  have k4 : (hpK h1 400).1 = 20 + 10 := by rw [(hC.2.2.2 400 n4).1]; exact k4
  replace hl : lo_has ls 4 [(3, .int (nI (6 * k))), (2, .ref (A1 400)), (1, .ref (A1 1)), (0, .ref b)] := by rw [(hC.2.2.2 400 n4).2, (hC.2.2.2 1 n1).2]; exact hl
  refine lv_aload_n hx hb dL_law_605 rfl (lo_at hl 1 rfl) ?_
  refine l_arg (j := 1) X hk (by decide) hl hC.1.2.2 dL_law_606 dL_law_607 dL_law_608 rfl dL_law_609 dL_law_610 ?_
  refine res2_i hC (run2_V (As := [.int (xs (6 * k + 1))]) (rest := [.int r1]) hM hC hl.1.1 kv_L_80 (c_X12_looker l G s.heap.size A1 400 (xs (6 * k + 1)) h1 _ hw) hc_10 k4 rfl rfl rfl ⟨Nat.le_of_ble_eq_true rfl, Nat.le_of_ble_eq_true rfl⟩ (Nat.le_of_ble_eq_true rfl) ⟨rc_le (by omega), rs_le (by omega)⟩ dL_law_611) (fun r2 h2 H locs hw hC => ?_)
  obtain ⟨er, hI2⟩ := hw
  refine lv_icmp_eq (tgt := 1239) hx hb dL_law_614 (by decide) (fun _ => ?_) (fun z => absurd er.symm z)
  refine W.widen (k := cells + 9) (n := slots + 2308) (by omega) (by omega) ?_
  exact nx A1 h2 H locs hI2 ⟨hC.1, hC.2.1, hC.2.2.1, EM.rf⟩ hl
theorem la_slid {p : Program} {l : Launch} {e : Env} {s : State} {m : MethodId} {below : List Frame} {meth : Method} {c : Code} {G : GG} {b L : Nat} {xs : Nat → Int32} {Q : State → Prop} (X : LX G p s m meth c b L xs) {k : Nat} (hk : 6 * k + 5 < L) {A : Nat → Nat} {g : Hp} {H : Heap} {locs : List Loc} {ls : Array Slot} {cells slots : Nat} (hI : Inv k g) (hC : Cx2 G s.heap.size A g A g s.heap H locs) (hl : lo_has ls 4 [(3, .int (nI (6 * k))), (2, .ref (A 400)), (1, .ref (A 1)), (0, .ref b)]) (hcs : cells + 9 ≤ 600000) (hss : slots + 2308 ≤ 7302249) (nx : ∀ (A1 : Nat → Nat) (g1 : Hp) (H1 : Heap) (locs1 : List Loc), Inv (k + 1) g1 → Cx2 G s.heap.size A1 g1 A1 g1 s.heap H1 locs1 → lo_has ls 4 [(3, .int (nI (6 * k))), (2, .ref (A1 400)), (1, .ref (A1 1)), (0, .ref b)] → W p l e room_1 s m #[Value.ref b] below meth c H1 locs1 (cells + 9) (slots + 2308) Q (F0 m 1239 ls [])) : W p l e room_1 s m #[Value.ref b] below meth c H locs cells slots Q (F0 m 619 ls []) := by
  obtain ⟨hM, hX, hbl, hL⟩ := id X
  obtain ⟨hx, hb, hr, hml, hown, hts, hg, hs, hlk, hnm⟩ := id hM
  have hn : k < 100000 := by omega
  have k1 := Inv_k1 hI
  have k4 := Inv_k4 hI
  have n1 : (hpK g 1).1 ≠ 0 := by rw [k1]; decide
  have n4 : (hpK g 400).1 ≠ 0 := by rw [k4]; decide
  refine lv_aload_n hx hb dL_law_619 rfl (lo_at hl 2 rfl) ?_
  refine l_arg (j := 1) X hk (by decide) hl hC.1.2.2 dL_law_620 dL_law_621 dL_law_622 rfl dL_law_623 dL_law_624 ?_
  refine l_arg (j := 2) X hk (by decide) hl hC.1.2.2 dL_law_625 dL_law_626 dL_law_627 rfl dL_law_628 dL_law_629 ?_
  refine l_arg (j := 3) X hk (by decide) hl hC.1.2.2 dL_law_630 dL_law_631 dL_law_632 rfl dL_law_633 dL_law_634 ?_
  refine l_arg (j := 4) X hk (by decide) hl hC.1.2.2 dL_law_635 dL_law_636 dL_law_637 rfl dL_law_638 dL_law_639 ?_
  refine res2_i hC (run2_V (As := [.int (xs (6 * k + 1)), .int (xs (6 * k + 2)), .int (xs (6 * k + 3)), .int (xs (6 * k + 4))]) (rest := []) hM hC hl.1.1 kv_L_81 (c_X11_slid l G s.heap.size A 1 (xs (6 * k + 1)) (xs (6 * k + 2)) (xs (6 * k + 3)) (xs (6 * k + 4)) g _ (pair_slid hI (xs (6 * k + 1)) (xs (6 * k + 2)) (xs (6 * k + 3)) (xs (6 * k + 4)))) hc_9 k1 rfl rfl rfl ⟨Nat.le_of_ble_eq_true rfl, Nat.le_of_ble_eq_true rfl⟩ (Nat.le_of_ble_eq_true rfl) ⟨rc_le (by omega), rs_le (by omega)⟩ dL_law_640) (fun r1 h1 H locs hw hC => ?_)
  have k4 : (hpK h1 400).1 = 20 + 10 := by rw [(hC.2.2.2 400 n4).1]; exact k4
  refine lv_aload_n hx hb dL_law_643 rfl (lo_at hl 1 rfl) ?_
  refine l_arg (j := 1) X hk (by decide) hl hC.1.2.2 dL_law_644 dL_law_645 dL_law_646 rfl dL_law_647 dL_law_648 ?_
  refine l_arg (j := 2) X hk (by decide) hl hC.1.2.2 dL_law_649 dL_law_650 dL_law_651 rfl dL_law_652 dL_law_653 ?_
  refine l_arg (j := 3) X hk (by decide) hl hC.1.2.2 dL_law_654 dL_law_655 dL_law_656 rfl dL_law_657 dL_law_658 ?_
  refine l_arg (j := 4) X hk (by decide) hl hC.1.2.2 dL_law_659 dL_law_660 dL_law_661 rfl dL_law_662 dL_law_663 ?_
  refine res2_i hC (run2_V (As := [.int (xs (6 * k + 1)), .int (xs (6 * k + 2)), .int (xs (6 * k + 3)), .int (xs (6 * k + 4))]) (rest := [.int r1]) hM hC hl.1.1 kv_L_85 (c_X12_slid l G s.heap.size A 400 (xs (6 * k + 1)) (xs (6 * k + 2)) (xs (6 * k + 3)) (xs (6 * k + 4)) h1 _ hw) hc_10 k4 rfl rfl rfl ⟨Nat.le_of_ble_eq_true rfl, Nat.le_of_ble_eq_true rfl⟩ (Nat.le_of_ble_eq_true rfl) ⟨rc_le (by omega), rs_le (by omega)⟩ dL_law_664) (fun r2 h2 H locs hw hC => ?_)
  obtain ⟨er, hI2⟩ := hw
  refine lv_icmp_eq (tgt := 1239) hx hb dL_law_667 (by decide) (fun _ => ?_) (fun z => absurd er.symm z)
  refine W.widen (k := cells + 9) (n := slots + 2308) (by omega) (by omega) ?_
  exact nx A h2 H locs hI2 ⟨hC.1, hC.2.1, hC.2.2.1, EM.rf⟩ hl
theorem la_says {p : Program} {l : Launch} {e : Env} {s : State} {m : MethodId} {below : List Frame} {meth : Method} {c : Code} {G : GG} {b L : Nat} {xs : Nat → Int32} {Q : State → Prop} (X : LX G p s m meth c b L xs) {k : Nat} (hk : 6 * k + 5 < L) {A : Nat → Nat} {g : Hp} {H : Heap} {locs : List Loc} {ls : Array Slot} {cells slots : Nat} (hI : Inv k g) (hC : Cx2 G s.heap.size A g A g s.heap H locs) (hl : lo_has ls 4 [(3, .int (nI (6 * k))), (2, .ref (A 400)), (1, .ref (A 1)), (0, .ref b)]) (hcs : cells + 9 ≤ 600000) (hss : slots + 2308 ≤ 7302249) (nx : ∀ (A1 : Nat → Nat) (g1 : Hp) (H1 : Heap) (locs1 : List Loc), Inv (k + 1) g1 → Cx2 G s.heap.size A1 g1 A1 g1 s.heap H1 locs1 → lo_has ls 4 [(3, .int (nI (6 * k))), (2, .ref (A1 400)), (1, .ref (A1 1)), (0, .ref b)] → W p l e room_1 s m #[Value.ref b] below meth c H1 locs1 (cells + 9) (slots + 2308) Q (F0 m 1239 ls [])) : W p l e room_1 s m #[Value.ref b] below meth c H locs cells slots Q (F0 m 672 ls []) := by
  obtain ⟨hM, hX, hbl, hL⟩ := id X
  obtain ⟨hx, hb, hr, hml, hown, hts, hg, hs, hlk, hnm⟩ := id hM
  have hn : k < 100000 := by omega
  have k1 := Inv_k1 hI
  have k4 := Inv_k4 hI
  have n1 : (hpK g 1).1 ≠ 0 := by rw [k1]; decide
  have n4 : (hpK g 400).1 ≠ 0 := by rw [k4]; decide
  refine lv_aload_n hx hb dL_law_672 rfl (lo_at hl 2 rfl) ?_
  refine l_arg (j := 1) X hk (by decide) hl hC.1.2.2 dL_law_673 dL_law_674 dL_law_675 rfl dL_law_676 dL_law_677 ?_
  refine l_arg (j := 2) X hk (by decide) hl hC.1.2.2 dL_law_678 dL_law_679 dL_law_680 rfl dL_law_681 dL_law_682 ?_
  refine l_arg (j := 3) X hk (by decide) hl hC.1.2.2 dL_law_683 dL_law_684 dL_law_685 rfl dL_law_686 dL_law_687 ?_
  refine l_arg (j := 4) X hk (by decide) hl hC.1.2.2 dL_law_688 dL_law_689 dL_law_690 rfl dL_law_691 dL_law_692 ?_
  refine l_bool X dL_law_693 dL_law_696 dL_law_697 dL_law_700 ?_
  refine res2_i hC (run2_V (As := [.int (xs (6 * k + 1)), .int (xs (6 * k + 2)), .int (xs (6 * k + 3)), .int (bz (xs (6 * k + 4)))]) (rest := []) hM hC hl.1.1 kv_L_86 (c_X11_says l G s.heap.size A 1 (xs (6 * k + 1)) (xs (6 * k + 2)) (xs (6 * k + 3)) (bz (xs (6 * k + 4))) g _ (pair_says hI (xs (6 * k + 1)) (xs (6 * k + 2)) (xs (6 * k + 3)) (bz (xs (6 * k + 4))) (bz_01 _))) hc_9 k1 rfl rfl rfl ⟨Nat.le_of_ble_eq_true rfl, Nat.le_of_ble_eq_true rfl⟩ (Nat.le_of_ble_eq_true rfl) ⟨rc_le (by omega), rs_le (by omega)⟩ dL_law_701) (fun r1 h1 H locs hw hC => ?_)
  have k4 : (hpK h1 400).1 = 20 + 10 := by rw [(hC.2.2.2 400 n4).1]; exact k4
  refine lv_aload_n hx hb dL_law_704 rfl (lo_at hl 1 rfl) ?_
  refine l_arg (j := 1) X hk (by decide) hl hC.1.2.2 dL_law_705 dL_law_706 dL_law_707 rfl dL_law_708 dL_law_709 ?_
  refine l_arg (j := 2) X hk (by decide) hl hC.1.2.2 dL_law_710 dL_law_711 dL_law_712 rfl dL_law_713 dL_law_714 ?_
  refine l_arg (j := 3) X hk (by decide) hl hC.1.2.2 dL_law_715 dL_law_716 dL_law_717 rfl dL_law_718 dL_law_719 ?_
  refine l_arg (j := 4) X hk (by decide) hl hC.1.2.2 dL_law_720 dL_law_721 dL_law_722 rfl dL_law_723 dL_law_724 ?_
  refine l_bool X dL_law_725 dL_law_728 dL_law_729 dL_law_732 ?_
  refine res2_i hC (run2_V (As := [.int (xs (6 * k + 1)), .int (xs (6 * k + 2)), .int (xs (6 * k + 3)), .int (bz (xs (6 * k + 4)))]) (rest := [.int r1]) hM hC hl.1.1 kv_L_90 (c_X12_says l G s.heap.size A 400 (xs (6 * k + 1)) (xs (6 * k + 2)) (xs (6 * k + 3)) (bz (xs (6 * k + 4))) h1 _ hw) hc_10 k4 rfl rfl rfl ⟨Nat.le_of_ble_eq_true rfl, Nat.le_of_ble_eq_true rfl⟩ (Nat.le_of_ble_eq_true rfl) ⟨rc_le (by omega), rs_le (by omega)⟩ dL_law_733) (fun r2 h2 H locs hw hC => ?_)
  obtain ⟨er, hI2⟩ := hw
  refine lv_icmp_eq (tgt := 1239) hx hb dL_law_736 (by decide) (fun _ => ?_) (fun z => absurd er.symm z)
  refine W.widen (k := cells + 9) (n := slots + 2308) (by omega) (by omega) ?_
  exact nx A h2 H locs hI2 ⟨hC.1, hC.2.1, hC.2.2.1, EM.rf⟩ hl
theorem la_truth {p : Program} {l : Launch} {e : Env} {s : State} {m : MethodId} {below : List Frame} {meth : Method} {c : Code} {G : GG} {b L : Nat} {xs : Nat → Int32} {Q : State → Prop} (X : LX G p s m meth c b L xs) {k : Nat} (hk : 6 * k + 5 < L) {A : Nat → Nat} {g : Hp} {H : Heap} {locs : List Loc} {ls : Array Slot} {cells slots : Nat} (hI : Inv k g) (hC : Cx2 G s.heap.size A g A g s.heap H locs) (hl : lo_has ls 4 [(3, .int (nI (6 * k))), (2, .ref (A 400)), (1, .ref (A 1)), (0, .ref b)]) (hcs : cells + 9 ≤ 600000) (hss : slots + 2308 ≤ 7302249) (nx : ∀ (A1 : Nat → Nat) (g1 : Hp) (H1 : Heap) (locs1 : List Loc), Inv (k + 1) g1 → Cx2 G s.heap.size A1 g1 A1 g1 s.heap H1 locs1 → lo_has ls 4 [(3, .int (nI (6 * k))), (2, .ref (A1 400)), (1, .ref (A1 1)), (0, .ref b)] → W p l e room_1 s m #[Value.ref b] below meth c H1 locs1 (cells + 9) (slots + 2308) Q (F0 m 1239 ls [])) : W p l e room_1 s m #[Value.ref b] below meth c H locs cells slots Q (F0 m 741 ls []) := by
  obtain ⟨hM, hX, hbl, hL⟩ := id X
  obtain ⟨hx, hb, hr, hml, hown, hts, hg, hs, hlk, hnm⟩ := id hM
  have hn : k < 100000 := by omega
  have k1 := Inv_k1 hI
  have k4 := Inv_k4 hI
  have n1 : (hpK g 1).1 ≠ 0 := by rw [k1]; decide
  have n4 : (hpK g 400).1 ≠ 0 := by rw [k4]; decide
  refine lv_aload_n hx hb dL_law_741 rfl (lo_at hl 2 rfl) ?_
  refine l_arg (j := 1) X hk (by decide) hl hC.1.2.2 dL_law_742 dL_law_743 dL_law_744 rfl dL_law_745 dL_law_746 ?_
  refine l_arg (j := 2) X hk (by decide) hl hC.1.2.2 dL_law_747 dL_law_748 dL_law_749 rfl dL_law_750 dL_law_751 ?_
  refine res2_i hC (run2_V (As := [.int (xs (6 * k + 1)), .int (xs (6 * k + 2))]) (rest := []) hM hC hl.1.1 kv_L_91 (c_X11_truth l G s.heap.size A 1 (xs (6 * k + 1)) (xs (6 * k + 2)) g _ (pair_truth hI (xs (6 * k + 1)) (xs (6 * k + 2)))) hc_9 k1 rfl rfl rfl ⟨Nat.le_of_ble_eq_true rfl, Nat.le_of_ble_eq_true rfl⟩ (Nat.le_of_ble_eq_true rfl) ⟨rc_le (by omega), rs_le (by omega)⟩ dL_law_752) (fun r1 h1 H locs hw hC => ?_)
  have k4 : (hpK h1 400).1 = 20 + 10 := by rw [(hC.2.2.2 400 n4).1]; exact k4
  refine lv_aload_n hx hb dL_law_755 rfl (lo_at hl 1 rfl) ?_
  refine l_arg (j := 1) X hk (by decide) hl hC.1.2.2 dL_law_756 dL_law_757 dL_law_758 rfl dL_law_759 dL_law_760 ?_
  refine l_arg (j := 2) X hk (by decide) hl hC.1.2.2 dL_law_761 dL_law_762 dL_law_763 rfl dL_law_764 dL_law_765 ?_
  refine res2_i hC (run2_V (As := [.int (xs (6 * k + 1)), .int (xs (6 * k + 2))]) (rest := [.int r1]) hM hC hl.1.1 kv_L_94 (c_X12_truth l G s.heap.size A 400 (xs (6 * k + 1)) (xs (6 * k + 2)) h1 _ hw) hc_10 k4 rfl rfl rfl ⟨Nat.le_of_ble_eq_true rfl, Nat.le_of_ble_eq_true rfl⟩ (Nat.le_of_ble_eq_true rfl) ⟨rc_le (by omega), rs_le (by omega)⟩ dL_law_766) (fun r2 h2 H locs hw hC => ?_)
  obtain ⟨er, hI2⟩ := hw
  refine lv_icmp_eq (tgt := 1239) hx hb dL_law_769 (by decide) (fun _ => ?_) (fun z => absurd er.symm z)
  refine W.widen (k := cells + 9) (n := slots + 2308) (by omega) (by omega) ?_
  exact nx A h2 H locs hI2 ⟨hC.1, hC.2.1, hC.2.2.1, EM.rf⟩ hl
theorem la_odds {p : Program} {l : Launch} {e : Env} {s : State} {m : MethodId} {below : List Frame} {meth : Method} {c : Code} {G : GG} {b L : Nat} {xs : Nat → Int32} {Q : State → Prop} (X : LX G p s m meth c b L xs) {k : Nat} (hk : 6 * k + 5 < L) {A : Nat → Nat} {g : Hp} {H : Heap} {locs : List Loc} {ls : Array Slot} {cells slots : Nat} (hI : Inv k g) (hC : Cx2 G s.heap.size A g A g s.heap H locs) (hl : lo_has ls 4 [(3, .int (nI (6 * k))), (2, .ref (A 400)), (1, .ref (A 1)), (0, .ref b)]) (hcs : cells + 9 ≤ 600000) (hss : slots + 2308 ≤ 7302249) (nx : ∀ (A1 : Nat → Nat) (g1 : Hp) (H1 : Heap) (locs1 : List Loc), Inv (k + 1) g1 → Cx2 G s.heap.size A1 g1 A1 g1 s.heap H1 locs1 → lo_has ls 4 [(3, .int (nI (6 * k))), (2, .ref (A1 400)), (1, .ref (A1 1)), (0, .ref b)] → W p l e room_1 s m #[Value.ref b] below meth c H1 locs1 (cells + 9) (slots + 2308) Q (F0 m 1239 ls [])) : W p l e room_1 s m #[Value.ref b] below meth c H locs cells slots Q (F0 m 774 ls []) := by
  obtain ⟨hM, hX, hbl, hL⟩ := id X
  obtain ⟨hx, hb, hr, hml, hown, hts, hg, hs, hlk, hnm⟩ := id hM
  have hn : k < 100000 := by omega
  have k1 := Inv_k1 hI
  have k4 := Inv_k4 hI
  have n1 : (hpK g 1).1 ≠ 0 := by rw [k1]; decide
  have n4 : (hpK g 400).1 ≠ 0 := by rw [k4]; decide
  refine lv_aload_n hx hb dL_law_774 rfl (lo_at hl 2 rfl) ?_
  refine l_arg (j := 1) X hk (by decide) hl hC.1.2.2 dL_law_775 dL_law_776 dL_law_777 rfl dL_law_778 dL_law_779 ?_
  refine l_arg (j := 2) X hk (by decide) hl hC.1.2.2 dL_law_780 dL_law_781 dL_law_782 rfl dL_law_783 dL_law_784 ?_
  refine l_arg (j := 3) X hk (by decide) hl hC.1.2.2 dL_law_785 dL_law_786 dL_law_787 rfl dL_law_788 dL_law_789 ?_
  refine l_arg (j := 4) X hk (by decide) hl hC.1.2.2 dL_law_790 dL_law_791 dL_law_792 rfl dL_law_793 dL_law_794 ?_
  refine res2_i hC (run2_V (As := [.int (xs (6 * k + 1)), .int (xs (6 * k + 2)), .int (xs (6 * k + 3)), .int (xs (6 * k + 4))]) (rest := []) hM hC hl.1.1 kv_L_95 (c_X11_odds l G s.heap.size A 1 (xs (6 * k + 1)) (xs (6 * k + 2)) (xs (6 * k + 3)) (xs (6 * k + 4)) g _ (pair_odds hI (xs (6 * k + 1)) (xs (6 * k + 2)) (xs (6 * k + 3)) (xs (6 * k + 4)))) hc_9 k1 rfl rfl rfl ⟨Nat.le_of_ble_eq_true rfl, Nat.le_of_ble_eq_true rfl⟩ (Nat.le_of_ble_eq_true rfl) ⟨rc_le (by omega), rs_le (by omega)⟩ dL_law_795) (fun r1 h1 H locs hw hC => ?_)
  have k4 : (hpK h1 400).1 = 20 + 10 := by rw [(hC.2.2.2 400 n4).1]; exact k4
  refine lv_aload_n hx hb dL_law_798 rfl (lo_at hl 1 rfl) ?_
  refine l_arg (j := 1) X hk (by decide) hl hC.1.2.2 dL_law_799 dL_law_800 dL_law_801 rfl dL_law_802 dL_law_803 ?_
  refine l_arg (j := 2) X hk (by decide) hl hC.1.2.2 dL_law_804 dL_law_805 dL_law_806 rfl dL_law_807 dL_law_808 ?_
  refine l_arg (j := 3) X hk (by decide) hl hC.1.2.2 dL_law_809 dL_law_810 dL_law_811 rfl dL_law_812 dL_law_813 ?_
  refine l_arg (j := 4) X hk (by decide) hl hC.1.2.2 dL_law_814 dL_law_815 dL_law_816 rfl dL_law_817 dL_law_818 ?_
  refine res2_i hC (run2_V (As := [.int (xs (6 * k + 1)), .int (xs (6 * k + 2)), .int (xs (6 * k + 3)), .int (xs (6 * k + 4))]) (rest := [.int r1]) hM hC hl.1.1 kv_L_98 (c_X12_odds l G s.heap.size A 400 (xs (6 * k + 1)) (xs (6 * k + 2)) (xs (6 * k + 3)) (xs (6 * k + 4)) h1 _ hw) hc_10 k4 rfl rfl rfl ⟨Nat.le_of_ble_eq_true rfl, Nat.le_of_ble_eq_true rfl⟩ (Nat.le_of_ble_eq_true rfl) ⟨rc_le (by omega), rs_le (by omega)⟩ dL_law_819) (fun r2 h2 H locs hw hC => ?_)
  obtain ⟨er, hI2⟩ := hw
  refine lv_icmp_eq (tgt := 1239) hx hb dL_law_822 (by decide) (fun _ => ?_) (fun z => absurd er.symm z)
  refine W.widen (k := cells + 9) (n := slots + 2308) (by omega) (by omega) ?_
  exact nx A h2 H locs hI2 ⟨hC.1, hC.2.1, hC.2.2.1, EM.rf⟩ hl
theorem la_far {p : Program} {l : Launch} {e : Env} {s : State} {m : MethodId} {below : List Frame} {meth : Method} {c : Code} {G : GG} {b L : Nat} {xs : Nat → Int32} {Q : State → Prop} (X : LX G p s m meth c b L xs) {k : Nat} (hk : 6 * k + 5 < L) {A : Nat → Nat} {g : Hp} {H : Heap} {locs : List Loc} {ls : Array Slot} {cells slots : Nat} (hI : Inv k g) (hC : Cx2 G s.heap.size A g A g s.heap H locs) (hl : lo_has ls 4 [(3, .int (nI (6 * k))), (2, .ref (A 400)), (1, .ref (A 1)), (0, .ref b)]) (hcs : cells + 9 ≤ 600000) (hss : slots + 2308 ≤ 7302249) (nx : ∀ (A1 : Nat → Nat) (g1 : Hp) (H1 : Heap) (locs1 : List Loc), Inv (k + 1) g1 → Cx2 G s.heap.size A1 g1 A1 g1 s.heap H1 locs1 → lo_has ls 4 [(3, .int (nI (6 * k))), (2, .ref (A1 400)), (1, .ref (A1 1)), (0, .ref b)] → W p l e room_1 s m #[Value.ref b] below meth c H1 locs1 (cells + 9) (slots + 2308) Q (F0 m 1239 ls [])) : W p l e room_1 s m #[Value.ref b] below meth c H locs cells slots Q (F0 m 827 ls []) := by
  obtain ⟨hM, hX, hbl, hL⟩ := id X
  obtain ⟨hx, hb, hr, hml, hown, hts, hg, hs, hlk, hnm⟩ := id hM
  have hn : k < 100000 := by omega
  have k1 := Inv_k1 hI
  have k4 := Inv_k4 hI
  have n1 : (hpK g 1).1 ≠ 0 := by rw [k1]; decide
  have n4 : (hpK g 400).1 ≠ 0 := by rw [k4]; decide
  refine lv_aload_n hx hb dL_law_827 rfl (lo_at hl 2 rfl) ?_
  refine l_arg (j := 1) X hk (by decide) hl hC.1.2.2 dL_law_828 dL_law_829 dL_law_830 rfl dL_law_831 dL_law_832 ?_
  refine l_arg (j := 2) X hk (by decide) hl hC.1.2.2 dL_law_833 dL_law_834 dL_law_835 rfl dL_law_836 dL_law_837 ?_
  refine res2_i hC (run2_V (As := [.int (xs (6 * k + 1)), .int (xs (6 * k + 2))]) (rest := []) hM hC hl.1.1 kv_L_99 (c_X11_far l G s.heap.size A 1 (xs (6 * k + 1)) (xs (6 * k + 2)) g _ (pair_far hI (xs (6 * k + 1)) (xs (6 * k + 2)))) hc_9 k1 rfl rfl rfl ⟨Nat.le_of_ble_eq_true rfl, Nat.le_of_ble_eq_true rfl⟩ (Nat.le_of_ble_eq_true rfl) ⟨rc_le (by omega), rs_le (by omega)⟩ dL_law_838) (fun r1 h1 H locs hw hC => ?_)
  have k4 : (hpK h1 400).1 = 20 + 10 := by rw [(hC.2.2.2 400 n4).1]; exact k4
  refine lv_aload_n hx hb dL_law_841 rfl (lo_at hl 1 rfl) ?_
  refine l_arg (j := 1) X hk (by decide) hl hC.1.2.2 dL_law_842 dL_law_843 dL_law_844 rfl dL_law_845 dL_law_846 ?_
  refine l_arg (j := 2) X hk (by decide) hl hC.1.2.2 dL_law_847 dL_law_848 dL_law_849 rfl dL_law_850 dL_law_851 ?_
  refine res2_i hC (run2_V (As := [.int (xs (6 * k + 1)), .int (xs (6 * k + 2))]) (rest := [.int r1]) hM hC hl.1.1 kv_L_102 (c_X12_far l G s.heap.size A 400 (xs (6 * k + 1)) (xs (6 * k + 2)) h1 _ hw) hc_10 k4 rfl rfl rfl ⟨Nat.le_of_ble_eq_true rfl, Nat.le_of_ble_eq_true rfl⟩ (Nat.le_of_ble_eq_true rfl) ⟨rc_le (by omega), rs_le (by omega)⟩ dL_law_852) (fun r2 h2 H locs hw hC => ?_)
  obtain ⟨er, hI2⟩ := hw
  refine lv_icmp_eq (tgt := 1239) hx hb dL_law_855 (by decide) (fun _ => ?_) (fun z => absurd er.symm z)
  refine W.widen (k := cells + 9) (n := slots + 2308) (by omega) (by omega) ?_
  exact nx A h2 H locs hI2 ⟨hC.1, hC.2.1, hC.2.2.1, EM.rf⟩ hl
theorem la_own {p : Program} {l : Launch} {e : Env} {s : State} {m : MethodId} {below : List Frame} {meth : Method} {c : Code} {G : GG} {b L : Nat} {xs : Nat → Int32} {Q : State → Prop} (X : LX G p s m meth c b L xs) {k : Nat} (hk : 6 * k + 5 < L) {A : Nat → Nat} {g : Hp} {H : Heap} {locs : List Loc} {ls : Array Slot} {cells slots : Nat} (hI : Inv k g) (hC : Cx2 G s.heap.size A g A g s.heap H locs) (hl : lo_has ls 4 [(3, .int (nI (6 * k))), (2, .ref (A 400)), (1, .ref (A 1)), (0, .ref b)]) (hcs : cells + 9 ≤ 600000) (hss : slots + 2308 ≤ 7302249) (nx : ∀ (A1 : Nat → Nat) (g1 : Hp) (H1 : Heap) (locs1 : List Loc), Inv (k + 1) g1 → Cx2 G s.heap.size A1 g1 A1 g1 s.heap H1 locs1 → lo_has ls 4 [(3, .int (nI (6 * k))), (2, .ref (A1 400)), (1, .ref (A1 1)), (0, .ref b)] → W p l e room_1 s m #[Value.ref b] below meth c H1 locs1 (cells + 9) (slots + 2308) Q (F0 m 1239 ls [])) : W p l e room_1 s m #[Value.ref b] below meth c H locs cells slots Q (F0 m 860 ls []) := by
  obtain ⟨hM, hX, hbl, hL⟩ := id X
  obtain ⟨hx, hb, hr, hml, hown, hts, hg, hs, hlk, hnm⟩ := id hM
  have hn : k < 100000 := by omega
  have k1 := Inv_k1 hI
  have k4 := Inv_k4 hI
  have n1 : (hpK g 1).1 ≠ 0 := by rw [k1]; decide
  have n4 : (hpK g 400).1 ≠ 0 := by rw [k4]; decide
  refine lv_aload_n hx hb dL_law_860 rfl (lo_at hl 2 rfl) ?_
  refine l_arg (j := 1) X hk (by decide) hl hC.1.2.2 dL_law_861 dL_law_862 dL_law_863 rfl dL_law_864 dL_law_865 ?_
  refine l_arg (j := 2) X hk (by decide) hl hC.1.2.2 dL_law_866 dL_law_867 dL_law_868 rfl dL_law_869 dL_law_870 ?_
  refine l_arg (j := 3) X hk (by decide) hl hC.1.2.2 dL_law_871 dL_law_872 dL_law_873 rfl dL_law_874 dL_law_875 ?_
  refine l_arg (j := 4) X hk (by decide) hl hC.1.2.2 dL_law_876 dL_law_877 dL_law_878 rfl dL_law_879 dL_law_880 ?_
  refine l_arg (j := 5) X hk (by decide) hl hC.1.2.2 dL_law_881 dL_law_882 dL_law_883 rfl dL_law_884 dL_law_885 ?_
  refine res2_i hC (run2_V (As := [.int (xs (6 * k + 1)), .int (xs (6 * k + 2)), .int (xs (6 * k + 3)), .int (xs (6 * k + 4)), .int (xs (6 * k + 5))]) (rest := []) hM hC hl.1.1 kv_L_103 (c_X11_own l G s.heap.size A 1 (xs (6 * k + 1)) (xs (6 * k + 2)) (xs (6 * k + 3)) (xs (6 * k + 4)) (xs (6 * k + 5)) g _ (pair_own hI (xs (6 * k + 1)) (xs (6 * k + 2)) (xs (6 * k + 3)) (xs (6 * k + 4)) (xs (6 * k + 5)))) hc_9 k1 rfl rfl rfl ⟨Nat.le_of_ble_eq_true rfl, Nat.le_of_ble_eq_true rfl⟩ (Nat.le_of_ble_eq_true rfl) ⟨rc_le (by omega), rs_le (by omega)⟩ dL_law_886) (fun r1 h1 H locs hw hC => ?_)
  have k4 : (hpK h1 400).1 = 20 + 10 := by rw [(hC.2.2.2 400 n4).1]; exact k4
  refine lv_aload_n hx hb dL_law_889 rfl (lo_at hl 1 rfl) ?_
  refine l_arg (j := 1) X hk (by decide) hl hC.1.2.2 dL_law_890 dL_law_891 dL_law_892 rfl dL_law_893 dL_law_894 ?_
  refine l_arg (j := 2) X hk (by decide) hl hC.1.2.2 dL_law_895 dL_law_896 dL_law_897 rfl dL_law_898 dL_law_899 ?_
  refine l_arg (j := 3) X hk (by decide) hl hC.1.2.2 dL_law_900 dL_law_901 dL_law_902 rfl dL_law_903 dL_law_904 ?_
  refine l_arg (j := 4) X hk (by decide) hl hC.1.2.2 dL_law_905 dL_law_906 dL_law_907 rfl dL_law_908 dL_law_909 ?_
  refine l_arg (j := 5) X hk (by decide) hl hC.1.2.2 dL_law_910 dL_law_911 dL_law_912 rfl dL_law_913 dL_law_914 ?_
  refine res2_i hC (run2_V (As := [.int (xs (6 * k + 1)), .int (xs (6 * k + 2)), .int (xs (6 * k + 3)), .int (xs (6 * k + 4)), .int (xs (6 * k + 5))]) (rest := [.int r1]) hM hC hl.1.1 kv_L_106 (c_X12_own l G s.heap.size A 400 (xs (6 * k + 1)) (xs (6 * k + 2)) (xs (6 * k + 3)) (xs (6 * k + 4)) (xs (6 * k + 5)) h1 _ hw) hc_10 k4 rfl rfl rfl ⟨Nat.le_of_ble_eq_true rfl, Nat.le_of_ble_eq_true rfl⟩ (Nat.le_of_ble_eq_true rfl) ⟨rc_le (by omega), rs_le (by omega)⟩ dL_law_915) (fun r2 h2 H locs hw hC => ?_)
  obtain ⟨er, hI2⟩ := hw
  refine lv_icmp_eq (tgt := 1239) hx hb dL_law_918 (by decide) (fun _ => ?_) (fun z => absurd er.symm z)
  refine W.widen (k := cells + 9) (n := slots + 2308) (by omega) (by omega) ?_
  exact nx A h2 H locs hI2 ⟨hC.1, hC.2.1, hC.2.2.1, EM.rf⟩ hl
theorem la_list {p : Program} {l : Launch} {e : Env} {s : State} {m : MethodId} {below : List Frame} {meth : Method} {c : Code} {G : GG} {b L : Nat} {xs : Nat → Int32} {Q : State → Prop} (X : LX G p s m meth c b L xs) {k : Nat} (hk : 6 * k + 5 < L) {A : Nat → Nat} {g : Hp} {H : Heap} {locs : List Loc} {ls : Array Slot} {cells slots : Nat} (hI : Inv k g) (hC : Cx2 G s.heap.size A g A g s.heap H locs) (hl : lo_has ls 4 [(3, .int (nI (6 * k))), (2, .ref (A 400)), (1, .ref (A 1)), (0, .ref b)]) (hcs : cells + 9 ≤ 600000) (hss : slots + 2308 ≤ 7302249) (nx : ∀ (A1 : Nat → Nat) (g1 : Hp) (H1 : Heap) (locs1 : List Loc), Inv (k + 1) g1 → Cx2 G s.heap.size A1 g1 A1 g1 s.heap H1 locs1 → lo_has ls 4 [(3, .int (nI (6 * k))), (2, .ref (A1 400)), (1, .ref (A1 1)), (0, .ref b)] → W p l e room_1 s m #[Value.ref b] below meth c H1 locs1 (cells + 9) (slots + 2308) Q (F0 m 1239 ls [])) : W p l e room_1 s m #[Value.ref b] below meth c H locs cells slots Q (F0 m 923 ls []) := by
  obtain ⟨hM, hX, hbl, hL⟩ := id X
  obtain ⟨hx, hb, hr, hml, hown, hts, hg, hs, hlk, hnm⟩ := id hM
  have hn : k < 100000 := by omega
  have k1 := Inv_k1 hI
  have k4 := Inv_k4 hI
  have n1 : (hpK g 1).1 ≠ 0 := by rw [k1]; decide
  have n4 : (hpK g 400).1 ≠ 0 := by rw [k4]; decide
  refine lv_aload_n hx hb dL_law_923 rfl (lo_at hl 2 rfl) ?_
  refine l_arg (j := 1) X hk (by decide) hl hC.1.2.2 dL_law_924 dL_law_925 dL_law_926 rfl dL_law_927 dL_law_928 ?_
  refine l_arg (j := 2) X hk (by decide) hl hC.1.2.2 dL_law_929 dL_law_930 dL_law_931 rfl dL_law_932 dL_law_933 ?_
  refine l_arg (j := 3) X hk (by decide) hl hC.1.2.2 dL_law_934 dL_law_935 dL_law_936 rfl dL_law_937 dL_law_938 ?_
  refine res2_i hC (run2_V (As := [.int (xs (6 * k + 1)), .int (xs (6 * k + 2)), .int (xs (6 * k + 3))]) (rest := []) hM hC hl.1.1 kv_L_107 (c_X11_list l G s.heap.size A 1 (xs (6 * k + 1)) (xs (6 * k + 2)) (xs (6 * k + 3)) g _ (pair_list hI (xs (6 * k + 1)) (xs (6 * k + 2)) (xs (6 * k + 3)))) hc_9 k1 rfl rfl rfl ⟨Nat.le_of_ble_eq_true rfl, Nat.le_of_ble_eq_true rfl⟩ (Nat.le_of_ble_eq_true rfl) ⟨rc_le (by omega), rs_le (by omega)⟩ dL_law_939) (fun r1 h1 H locs hw hC => ?_)
  have k4 : (hpK h1 400).1 = 20 + 10 := by rw [(hC.2.2.2 400 n4).1]; exact k4
  refine lv_aload_n hx hb dL_law_942 rfl (lo_at hl 1 rfl) ?_
  refine l_arg (j := 1) X hk (by decide) hl hC.1.2.2 dL_law_943 dL_law_944 dL_law_945 rfl dL_law_946 dL_law_947 ?_
  refine l_arg (j := 2) X hk (by decide) hl hC.1.2.2 dL_law_948 dL_law_949 dL_law_950 rfl dL_law_951 dL_law_952 ?_
  refine l_arg (j := 3) X hk (by decide) hl hC.1.2.2 dL_law_953 dL_law_954 dL_law_955 rfl dL_law_956 dL_law_957 ?_
  refine res2_i hC (run2_V (As := [.int (xs (6 * k + 1)), .int (xs (6 * k + 2)), .int (xs (6 * k + 3))]) (rest := [.int r1]) hM hC hl.1.1 kv_L_110 (c_X12_list l G s.heap.size A 400 (xs (6 * k + 1)) (xs (6 * k + 2)) (xs (6 * k + 3)) h1 _ hw) hc_10 k4 rfl rfl rfl ⟨Nat.le_of_ble_eq_true rfl, Nat.le_of_ble_eq_true rfl⟩ (Nat.le_of_ble_eq_true rfl) ⟨rc_le (by omega), rs_le (by omega)⟩ dL_law_958) (fun r2 h2 H locs hw hC => ?_)
  obtain ⟨er, hI2⟩ := hw
  refine lv_icmp_eq (tgt := 1239) hx hb dL_law_961 (by decide) (fun _ => ?_) (fun z => absurd er.symm z)
  refine W.widen (k := cells + 9) (n := slots + 2308) (by omega) (by omega) ?_
  exact nx A h2 H locs hI2 ⟨hC.1, hC.2.1, hC.2.2.1, EM.rf⟩ hl
theorem la_pair {p : Program} {l : Launch} {e : Env} {s : State} {m : MethodId} {below : List Frame} {meth : Method} {c : Code} {G : GG} {b L : Nat} {xs : Nat → Int32} {Q : State → Prop} (X : LX G p s m meth c b L xs) {k : Nat} (hk : 6 * k + 5 < L) {A : Nat → Nat} {g : Hp} {H : Heap} {locs : List Loc} {ls : Array Slot} {cells slots : Nat} (hI : Inv k g) (hC : Cx2 G s.heap.size A g A g s.heap H locs) (hl : lo_has ls 4 [(3, .int (nI (6 * k))), (2, .ref (A 400)), (1, .ref (A 1)), (0, .ref b)]) (hcs : cells + 9 ≤ 600000) (hss : slots + 2308 ≤ 7302249) (nx : ∀ (A1 : Nat → Nat) (g1 : Hp) (H1 : Heap) (locs1 : List Loc), Inv (k + 1) g1 → Cx2 G s.heap.size A1 g1 A1 g1 s.heap H1 locs1 → lo_has ls 4 [(3, .int (nI (6 * k))), (2, .ref (A1 400)), (1, .ref (A1 1)), (0, .ref b)] → W p l e room_1 s m #[Value.ref b] below meth c H1 locs1 (cells + 9) (slots + 2308) Q (F0 m 1239 ls [])) : W p l e room_1 s m #[Value.ref b] below meth c H locs cells slots Q (F0 m 966 ls []) := by
  obtain ⟨hM, hX, hbl, hL⟩ := id X
  obtain ⟨hx, hb, hr, hml, hown, hts, hg, hs, hlk, hnm⟩ := id hM
  have hn : k < 100000 := by omega
  have k1 := Inv_k1 hI
  have k4 := Inv_k4 hI
  have n1 : (hpK g 1).1 ≠ 0 := by rw [k1]; decide
  have n4 : (hpK g 400).1 ≠ 0 := by rw [k4]; decide
  refine lv_aload_n hx hb dL_law_966 rfl (lo_at hl 2 rfl) ?_
  refine l_arg (j := 1) X hk (by decide) hl hC.1.2.2 dL_law_967 dL_law_968 dL_law_969 rfl dL_law_970 dL_law_971 ?_
  refine l_arg (j := 2) X hk (by decide) hl hC.1.2.2 dL_law_972 dL_law_973 dL_law_974 rfl dL_law_975 dL_law_976 ?_
  refine l_arg (j := 3) X hk (by decide) hl hC.1.2.2 dL_law_977 dL_law_978 dL_law_979 rfl dL_law_980 dL_law_981 ?_
  refine res2_ia hC (run2_V (As := [.int (xs (6 * k + 1)), .int (xs (6 * k + 2)), .int (xs (6 * k + 3))]) (rest := []) hM hC hl.1.1 kv_L_111 (c_X11_pair l G s.heap.size A 1 (xs (6 * k + 1)) (xs (6 * k + 2)) (xs (6 * k + 3)) g _ (pair_pair hI (xs (6 * k + 1)) (xs (6 * k + 2)) (xs (6 * k + 3)))) hc_9 k1 rfl rfl rfl ⟨Nat.le_of_ble_eq_true rfl, Nat.le_of_ble_eq_true rfl⟩ (Nat.le_of_ble_eq_true rfl) ⟨rc_le (by omega), rs_le (by omega)⟩ dL_law_982) (fun r1 A1 h1 H locs hw hE hC => ?_)
  have k4 : (hpK h1 400).1 = 20 + 10 := by rw [(hC.2.2.2 400 n4).1]; exact k4
  replace hl : lo_has ls 4 [(3, .int (nI (6 * k))), (2, .ref (A1 400)), (1, .ref (A1 1)), (0, .ref b)] := by rw [(hC.2.2.2 400 n4).2, (hC.2.2.2 1 n1).2]; exact hl
  refine lv_aload_n hx hb dL_law_985 rfl (lo_at hl 1 rfl) ?_
  refine l_arg (j := 1) X hk (by decide) hl hC.1.2.2 dL_law_986 dL_law_987 dL_law_988 rfl dL_law_989 dL_law_990 ?_
  refine l_arg (j := 2) X hk (by decide) hl hC.1.2.2 dL_law_991 dL_law_992 dL_law_993 rfl dL_law_994 dL_law_995 ?_
  refine l_arg (j := 3) X hk (by decide) hl hC.1.2.2 dL_law_996 dL_law_997 dL_law_998 rfl dL_law_999 dL_law_1000 ?_
  refine res2_i hC (run2_V (As := [.int (xs (6 * k + 1)), .int (xs (6 * k + 2)), .int (xs (6 * k + 3))]) (rest := [.int r1]) hM hC hl.1.1 kv_L_114 (c_X12_pair l G s.heap.size A1 400 (xs (6 * k + 1)) (xs (6 * k + 2)) (xs (6 * k + 3)) h1 _ hw) hc_10 k4 rfl rfl rfl ⟨Nat.le_of_ble_eq_true rfl, Nat.le_of_ble_eq_true rfl⟩ (Nat.le_of_ble_eq_true rfl) ⟨rc_le (by omega), rs_le (by omega)⟩ dL_law_1001) (fun r2 h2 H locs hw hC => ?_)
  obtain ⟨er, hI2⟩ := hw
  refine lv_icmp_eq (tgt := 1239) hx hb dL_law_1004 (by decide) (fun _ => ?_) (fun z => absurd er.symm z)
  refine W.widen (k := cells + 9) (n := slots + 2308) (by omega) (by omega) ?_
  exact nx A1 h2 H locs hI2 ⟨hC.1, hC.2.1, hC.2.2.1, EM.rf⟩ hl
theorem la_counted {p : Program} {l : Launch} {e : Env} {s : State} {m : MethodId} {below : List Frame} {meth : Method} {c : Code} {G : GG} {b L : Nat} {xs : Nat → Int32} {Q : State → Prop} (X : LX G p s m meth c b L xs) {k : Nat} (hk : 6 * k + 5 < L) {A : Nat → Nat} {g : Hp} {H : Heap} {locs : List Loc} {ls : Array Slot} {cells slots : Nat} (hI : Inv k g) (hC : Cx2 G s.heap.size A g A g s.heap H locs) (hl : lo_has ls 4 [(3, .int (nI (6 * k))), (2, .ref (A 400)), (1, .ref (A 1)), (0, .ref b)]) (hcs : cells + 9 ≤ 600000) (hss : slots + 2308 ≤ 7302249) (nx : ∀ (A1 : Nat → Nat) (g1 : Hp) (H1 : Heap) (locs1 : List Loc), Inv (k + 1) g1 → Cx2 G s.heap.size A1 g1 A1 g1 s.heap H1 locs1 → lo_has ls 4 [(3, .int (nI (6 * k))), (2, .ref (A1 400)), (1, .ref (A1 1)), (0, .ref b)] → W p l e room_1 s m #[Value.ref b] below meth c H1 locs1 (cells + 9) (slots + 2308) Q (F0 m 1239 ls [])) : W p l e room_1 s m #[Value.ref b] below meth c H locs cells slots Q (F0 m 1009 ls []) := by
  obtain ⟨hM, hX, hbl, hL⟩ := id X
  obtain ⟨hx, hb, hr, hml, hown, hts, hg, hs, hlk, hnm⟩ := id hM
  have hn : k < 100000 := by omega
  have k1 := Inv_k1 hI
  have k4 := Inv_k4 hI
  have n1 : (hpK g 1).1 ≠ 0 := by rw [k1]; decide
  have n4 : (hpK g 400).1 ≠ 0 := by rw [k4]; decide
  refine lv_aload_n hx hb dL_law_1009 rfl (lo_at hl 2 rfl) ?_
  refine l_arg (j := 1) X hk (by decide) hl hC.1.2.2 dL_law_1010 dL_law_1011 dL_law_1012 rfl dL_law_1013 dL_law_1014 ?_
  refine l_arg (j := 2) X hk (by decide) hl hC.1.2.2 dL_law_1015 dL_law_1016 dL_law_1017 rfl dL_law_1018 dL_law_1019 ?_
  refine l_bool X dL_law_1020 dL_law_1023 dL_law_1024 dL_law_1027 ?_
  refine l_arg (j := 3) X hk (by decide) hl hC.1.2.2 dL_law_1028 dL_law_1029 dL_law_1030 rfl dL_law_1031 dL_law_1032 ?_
  refine res2_i hC (run2_V (As := [.int (xs (6 * k + 1)), .int (bz (xs (6 * k + 2))), .int (xs (6 * k + 3))]) (rest := []) hM hC hl.1.1 kv_L_115 (c_X11_counted l G s.heap.size A 1 (xs (6 * k + 1)) (bz (xs (6 * k + 2))) (xs (6 * k + 3)) g _ (pair_counted hI (xs (6 * k + 1)) (bz (xs (6 * k + 2))) (xs (6 * k + 3)) (bz_01 _))) hc_9 k1 rfl rfl rfl ⟨Nat.le_of_ble_eq_true rfl, Nat.le_of_ble_eq_true rfl⟩ (Nat.le_of_ble_eq_true rfl) ⟨rc_le (by omega), rs_le (by omega)⟩ dL_law_1033) (fun r1 h1 H locs hw hC => ?_)
  have k4 : (hpK h1 400).1 = 20 + 10 := by rw [(hC.2.2.2 400 n4).1]; exact k4
  refine lv_aload_n hx hb dL_law_1036 rfl (lo_at hl 1 rfl) ?_
  refine l_arg (j := 1) X hk (by decide) hl hC.1.2.2 dL_law_1037 dL_law_1038 dL_law_1039 rfl dL_law_1040 dL_law_1041 ?_
  refine l_arg (j := 2) X hk (by decide) hl hC.1.2.2 dL_law_1042 dL_law_1043 dL_law_1044 rfl dL_law_1045 dL_law_1046 ?_
  refine l_bool X dL_law_1047 dL_law_1050 dL_law_1051 dL_law_1054 ?_
  refine l_arg (j := 3) X hk (by decide) hl hC.1.2.2 dL_law_1055 dL_law_1056 dL_law_1057 rfl dL_law_1058 dL_law_1059 ?_
  refine res2_i hC (run2_V (As := [.int (xs (6 * k + 1)), .int (bz (xs (6 * k + 2))), .int (xs (6 * k + 3))]) (rest := [.int r1]) hM hC hl.1.1 kv_L_119 (c_X12_counted l G s.heap.size A 400 (xs (6 * k + 1)) (bz (xs (6 * k + 2))) (xs (6 * k + 3)) h1 _ hw) hc_10 k4 rfl rfl rfl ⟨Nat.le_of_ble_eq_true rfl, Nat.le_of_ble_eq_true rfl⟩ (Nat.le_of_ble_eq_true rfl) ⟨rc_le (by omega), rs_le (by omega)⟩ dL_law_1060) (fun r2 h2 H locs hw hC => ?_)
  obtain ⟨er, hI2⟩ := hw
  refine lv_icmp_eq (tgt := 1239) hx hb dL_law_1063 (by decide) (fun _ => ?_) (fun z => absurd er.symm z)
  refine W.widen (k := cells + 9) (n := slots + 2308) (by omega) (by omega) ?_
  exact nx A h2 H locs hI2 ⟨hC.1, hC.2.1, hC.2.2.1, EM.rf⟩ hl
theorem la_round {p : Program} {l : Launch} {e : Env} {s : State} {m : MethodId} {below : List Frame} {meth : Method} {c : Code} {G : GG} {b L : Nat} {xs : Nat → Int32} {Q : State → Prop} (X : LX G p s m meth c b L xs) {k : Nat} (hk : 6 * k + 5 < L) {A : Nat → Nat} {g : Hp} {H : Heap} {locs : List Loc} {ls : Array Slot} {cells slots : Nat} (hI : Inv k g) (hC : Cx2 G s.heap.size A g A g s.heap H locs) (hl : lo_has ls 4 [(3, .int (nI (6 * k))), (2, .ref (A 400)), (1, .ref (A 1)), (0, .ref b)]) (hcs : cells + 9 ≤ 600000) (hss : slots + 2308 ≤ 7302249) (nx : ∀ (A1 : Nat → Nat) (g1 : Hp) (H1 : Heap) (locs1 : List Loc), Inv (k + 1) g1 → Cx2 G s.heap.size A1 g1 A1 g1 s.heap H1 locs1 → lo_has ls 4 [(3, .int (nI (6 * k))), (2, .ref (A1 400)), (1, .ref (A1 1)), (0, .ref b)] → W p l e room_1 s m #[Value.ref b] below meth c H1 locs1 (cells + 9) (slots + 2308) Q (F0 m 1239 ls [])) : W p l e room_1 s m #[Value.ref b] below meth c H locs cells slots Q (F0 m 1068 ls []) := by
  obtain ⟨hM, hX, hbl, hL⟩ := id X
  obtain ⟨hx, hb, hr, hml, hown, hts, hg, hs, hlk, hnm⟩ := id hM
  have hn : k < 100000 := by omega
  have k1 := Inv_k1 hI
  have k4 := Inv_k4 hI
  have n1 : (hpK g 1).1 ≠ 0 := by rw [k1]; decide
  have n4 : (hpK g 400).1 ≠ 0 := by rw [k4]; decide
  refine lv_aload_n hx hb dL_law_1068 rfl (lo_at hl 2 rfl) ?_
  refine l_arg (j := 1) X hk (by decide) hl hC.1.2.2 dL_law_1069 dL_law_1070 dL_law_1071 rfl dL_law_1072 dL_law_1073 ?_
  refine l_arg (j := 2) X hk (by decide) hl hC.1.2.2 dL_law_1074 dL_law_1075 dL_law_1076 rfl dL_law_1077 dL_law_1078 ?_
  refine res2_i hC (run2_V (As := [.int (xs (6 * k + 1)), .int (xs (6 * k + 2))]) (rest := []) hM hC hl.1.1 kv_L_120 (c_X11_round l G s.heap.size A 1 (xs (6 * k + 1)) (xs (6 * k + 2)) g _ (pair_round hI (xs (6 * k + 1)) (xs (6 * k + 2)))) hc_9 k1 rfl rfl rfl ⟨Nat.le_of_ble_eq_true rfl, Nat.le_of_ble_eq_true rfl⟩ (Nat.le_of_ble_eq_true rfl) ⟨rc_le (by omega), rs_le (by omega)⟩ dL_law_1079) (fun r1 h1 H locs hw hC => ?_)
  have k4 : (hpK h1 400).1 = 20 + 10 := by rw [(hC.2.2.2 400 n4).1]; exact k4
  refine lv_aload_n hx hb dL_law_1082 rfl (lo_at hl 1 rfl) ?_
  refine l_arg (j := 1) X hk (by decide) hl hC.1.2.2 dL_law_1083 dL_law_1084 dL_law_1085 rfl dL_law_1086 dL_law_1087 ?_
  refine l_arg (j := 2) X hk (by decide) hl hC.1.2.2 dL_law_1088 dL_law_1089 dL_law_1090 rfl dL_law_1091 dL_law_1092 ?_
  refine res2_i hC (run2_V (As := [.int (xs (6 * k + 1)), .int (xs (6 * k + 2))]) (rest := [.int r1]) hM hC hl.1.1 kv_L_123 (c_X12_round l G s.heap.size A 400 (xs (6 * k + 1)) (xs (6 * k + 2)) h1 _ hw) hc_10 k4 rfl rfl rfl ⟨Nat.le_of_ble_eq_true rfl, Nat.le_of_ble_eq_true rfl⟩ (Nat.le_of_ble_eq_true rfl) ⟨rc_le (by omega), rs_le (by omega)⟩ dL_law_1093) (fun r2 h2 H locs hw hC => ?_)
  obtain ⟨er, hI2⟩ := hw
  refine lv_icmp_eq (tgt := 1239) hx hb dL_law_1096 (by decide) (fun _ => ?_) (fun z => absurd er.symm z)
  refine W.widen (k := cells + 9) (n := slots + 2308) (by omega) (by omega) ?_
  exact nx A h2 H locs hI2 ⟨hC.1, hC.2.1, hC.2.2.1, EM.rf⟩ hl
theorem la_lean {p : Program} {l : Launch} {e : Env} {s : State} {m : MethodId} {below : List Frame} {meth : Method} {c : Code} {G : GG} {b L : Nat} {xs : Nat → Int32} {Q : State → Prop} (X : LX G p s m meth c b L xs) {k : Nat} (hk : 6 * k + 5 < L) {A : Nat → Nat} {g : Hp} {H : Heap} {locs : List Loc} {ls : Array Slot} {cells slots : Nat} (hI : Inv k g) (hC : Cx2 G s.heap.size A g A g s.heap H locs) (hl : lo_has ls 4 [(3, .int (nI (6 * k))), (2, .ref (A 400)), (1, .ref (A 1)), (0, .ref b)]) (hcs : cells + 9 ≤ 600000) (hss : slots + 2308 ≤ 7302249) (nx : ∀ (A1 : Nat → Nat) (g1 : Hp) (H1 : Heap) (locs1 : List Loc), Inv (k + 1) g1 → Cx2 G s.heap.size A1 g1 A1 g1 s.heap H1 locs1 → lo_has ls 4 [(3, .int (nI (6 * k))), (2, .ref (A1 400)), (1, .ref (A1 1)), (0, .ref b)] → W p l e room_1 s m #[Value.ref b] below meth c H1 locs1 (cells + 9) (slots + 2308) Q (F0 m 1239 ls [])) : W p l e room_1 s m #[Value.ref b] below meth c H locs cells slots Q (F0 m 1101 ls []) := by
  obtain ⟨hM, hX, hbl, hL⟩ := id X
  obtain ⟨hx, hb, hr, hml, hown, hts, hg, hs, hlk, hnm⟩ := id hM
  have hn : k < 100000 := by omega
  have k1 := Inv_k1 hI
  have k4 := Inv_k4 hI
  have n1 : (hpK g 1).1 ≠ 0 := by rw [k1]; decide
  have n4 : (hpK g 400).1 ≠ 0 := by rw [k4]; decide
  refine lv_aload_n hx hb dL_law_1101 rfl (lo_at hl 2 rfl) ?_
  refine l_arg (j := 1) X hk (by decide) hl hC.1.2.2 dL_law_1102 dL_law_1103 dL_law_1104 rfl dL_law_1105 dL_law_1106 ?_
  refine res2_i hC (run2_V (As := [.int (xs (6 * k + 1))]) (rest := []) hM hC hl.1.1 kv_L_124 (c_X11_lean l G s.heap.size A 1 (xs (6 * k + 1)) g _ (pair_lean hI (xs (6 * k + 1)))) hc_9 k1 rfl rfl rfl ⟨Nat.le_of_ble_eq_true rfl, Nat.le_of_ble_eq_true rfl⟩ (Nat.le_of_ble_eq_true rfl) ⟨rc_le (by omega), rs_le (by omega)⟩ dL_law_1107) (fun r1 h1 H locs hw hC => ?_)
  have k4 : (hpK h1 400).1 = 20 + 10 := by rw [(hC.2.2.2 400 n4).1]; exact k4
  refine lv_aload_n hx hb dL_law_1110 rfl (lo_at hl 1 rfl) ?_
  refine l_arg (j := 1) X hk (by decide) hl hC.1.2.2 dL_law_1111 dL_law_1112 dL_law_1113 rfl dL_law_1114 dL_law_1115 ?_
  refine res2_i hC (run2_V (As := [.int (xs (6 * k + 1))]) (rest := [.int r1]) hM hC hl.1.1 kv_L_127 (c_X12_lean l G s.heap.size A 400 (xs (6 * k + 1)) h1 _ hw) hc_10 k4 rfl rfl rfl ⟨Nat.le_of_ble_eq_true rfl, Nat.le_of_ble_eq_true rfl⟩ (Nat.le_of_ble_eq_true rfl) ⟨rc_le (by omega), rs_le (by omega)⟩ dL_law_1116) (fun r2 h2 H locs hw hC => ?_)
  obtain ⟨er, hI2⟩ := hw
  refine lv_icmp_eq (tgt := 1239) hx hb dL_law_1119 (by decide) (fun _ => ?_) (fun z => absurd er.symm z)
  refine W.widen (k := cells + 9) (n := slots + 2308) (by omega) (by omega) ?_
  exact nx A h2 H locs hI2 ⟨hC.1, hC.2.1, hC.2.2.1, EM.rf⟩ hl
theorem la_scene {p : Program} {l : Launch} {e : Env} {s : State} {m : MethodId} {below : List Frame} {meth : Method} {c : Code} {G : GG} {b L : Nat} {xs : Nat → Int32} {Q : State → Prop} (X : LX G p s m meth c b L xs) {k : Nat} (hk : 6 * k + 5 < L) {A : Nat → Nat} {g : Hp} {H : Heap} {locs : List Loc} {ls : Array Slot} {cells slots : Nat} (hI : Inv k g) (hC : Cx2 G s.heap.size A g A g s.heap H locs) (hl : lo_has ls 4 [(3, .int (nI (6 * k))), (2, .ref (A 400)), (1, .ref (A 1)), (0, .ref b)]) (hcs : cells + 9 ≤ 600000) (hss : slots + 2308 ≤ 7302249) (nx : ∀ (A1 : Nat → Nat) (g1 : Hp) (H1 : Heap) (locs1 : List Loc), Inv (k + 1) g1 → Cx2 G s.heap.size A1 g1 A1 g1 s.heap H1 locs1 → lo_has ls 4 [(3, .int (nI (6 * k))), (2, .ref (A1 400)), (1, .ref (A1 1)), (0, .ref b)] → W p l e room_1 s m #[Value.ref b] below meth c H1 locs1 (cells + 9) (slots + 2308) Q (F0 m 1239 ls [])) : W p l e room_1 s m #[Value.ref b] below meth c H locs cells slots Q (F0 m 1124 ls []) := by
  obtain ⟨hM, hX, hbl, hL⟩ := id X
  obtain ⟨hx, hb, hr, hml, hown, hts, hg, hs, hlk, hnm⟩ := id hM
  have hn : k < 100000 := by omega
  have k1 := Inv_k1 hI
  have k4 := Inv_k4 hI
  have n1 : (hpK g 1).1 ≠ 0 := by rw [k1]; decide
  have n4 : (hpK g 400).1 ≠ 0 := by rw [k4]; decide
  refine lv_aload_n hx hb dL_law_1124 rfl (lo_at hl 2 rfl) ?_
  refine l_arg (j := 1) X hk (by decide) hl hC.1.2.2 dL_law_1125 dL_law_1126 dL_law_1127 rfl dL_law_1128 dL_law_1129 ?_
  refine l_arg (j := 2) X hk (by decide) hl hC.1.2.2 dL_law_1130 dL_law_1131 dL_law_1132 rfl dL_law_1133 dL_law_1134 ?_
  refine l_arg (j := 3) X hk (by decide) hl hC.1.2.2 dL_law_1135 dL_law_1136 dL_law_1137 rfl dL_law_1138 dL_law_1139 ?_
  refine l_bool X dL_law_1140 dL_law_1143 dL_law_1144 dL_law_1147 ?_
  refine res2_i hC (run2_V (As := [.int (xs (6 * k + 1)), .int (xs (6 * k + 2)), .int (bz (xs (6 * k + 3)))]) (rest := []) hM hC hl.1.1 kv_L_128 (c_X11_scene l G s.heap.size A 1 (xs (6 * k + 1)) (xs (6 * k + 2)) (bz (xs (6 * k + 3))) g _ (pair_scene hI (xs (6 * k + 1)) (xs (6 * k + 2)) (bz (xs (6 * k + 3))) (bz_01 _))) hc_9 k1 rfl rfl rfl ⟨Nat.le_of_ble_eq_true rfl, Nat.le_of_ble_eq_true rfl⟩ (Nat.le_of_ble_eq_true rfl) ⟨rc_le (by omega), rs_le (by omega)⟩ dL_law_1148) (fun r1 h1 H locs hw hC => ?_)
  have k4 : (hpK h1 400).1 = 20 + 10 := by rw [(hC.2.2.2 400 n4).1]; exact k4
  refine lv_aload_n hx hb dL_law_1151 rfl (lo_at hl 1 rfl) ?_
  refine l_arg (j := 1) X hk (by decide) hl hC.1.2.2 dL_law_1152 dL_law_1153 dL_law_1154 rfl dL_law_1155 dL_law_1156 ?_
  refine l_arg (j := 2) X hk (by decide) hl hC.1.2.2 dL_law_1157 dL_law_1158 dL_law_1159 rfl dL_law_1160 dL_law_1161 ?_
  refine l_arg (j := 3) X hk (by decide) hl hC.1.2.2 dL_law_1162 dL_law_1163 dL_law_1164 rfl dL_law_1165 dL_law_1166 ?_
  refine l_bool X dL_law_1167 dL_law_1170 dL_law_1171 dL_law_1174 ?_
  refine res2_i hC (run2_V (As := [.int (xs (6 * k + 1)), .int (xs (6 * k + 2)), .int (bz (xs (6 * k + 3)))]) (rest := [.int r1]) hM hC hl.1.1 kv_L_132 (c_X12_scene l G s.heap.size A 400 (xs (6 * k + 1)) (xs (6 * k + 2)) (bz (xs (6 * k + 3))) h1 _ hw) hc_10 k4 rfl rfl rfl ⟨Nat.le_of_ble_eq_true rfl, Nat.le_of_ble_eq_true rfl⟩ (Nat.le_of_ble_eq_true rfl) ⟨rc_le (by omega), rs_le (by omega)⟩ dL_law_1175) (fun r2 h2 H locs hw hC => ?_)
  obtain ⟨er, hI2⟩ := hw
  refine lv_icmp_eq (tgt := 1239) hx hb dL_law_1178 (by decide) (fun _ => ?_) (fun z => absurd er.symm z)
  refine W.widen (k := cells + 9) (n := slots + 2308) (by omega) (by omega) ?_
  exact nx A h2 H locs hI2 ⟨hC.1, hC.2.1, hC.2.2.1, EM.rf⟩ hl
theorem la_joined {p : Program} {l : Launch} {e : Env} {s : State} {m : MethodId} {below : List Frame} {meth : Method} {c : Code} {G : GG} {b L : Nat} {xs : Nat → Int32} {Q : State → Prop} (X : LX G p s m meth c b L xs) {k : Nat} (hk : 6 * k + 5 < L) {A : Nat → Nat} {g : Hp} {H : Heap} {locs : List Loc} {ls : Array Slot} {cells slots : Nat} (hI : Inv k g) (hC : Cx2 G s.heap.size A g A g s.heap H locs) (hl : lo_has ls 4 [(3, .int (nI (6 * k))), (2, .ref (A 400)), (1, .ref (A 1)), (0, .ref b)]) (hcs : cells + 9 ≤ 600000) (hss : slots + 2308 ≤ 7302249) (nx : ∀ (A1 : Nat → Nat) (g1 : Hp) (H1 : Heap) (locs1 : List Loc), Inv (k + 1) g1 → Cx2 G s.heap.size A1 g1 A1 g1 s.heap H1 locs1 → lo_has ls 4 [(3, .int (nI (6 * k))), (2, .ref (A1 400)), (1, .ref (A1 1)), (0, .ref b)] → W p l e room_1 s m #[Value.ref b] below meth c H1 locs1 (cells + 9) (slots + 2308) Q (F0 m 1239 ls [])) : W p l e room_1 s m #[Value.ref b] below meth c H locs cells slots Q (F0 m 1183 ls []) := by
  obtain ⟨hM, hX, hbl, hL⟩ := id X
  obtain ⟨hx, hb, hr, hml, hown, hts, hg, hs, hlk, hnm⟩ := id hM
  have hn : k < 100000 := by omega
  have k1 := Inv_k1 hI
  have k4 := Inv_k4 hI
  have n1 : (hpK g 1).1 ≠ 0 := by rw [k1]; decide
  have n4 : (hpK g 400).1 ≠ 0 := by rw [k4]; decide
  refine lv_aload_n hx hb dL_law_1183 rfl (lo_at hl 2 rfl) ?_
  refine l_arg (j := 1) X hk (by decide) hl hC.1.2.2 dL_law_1184 dL_law_1185 dL_law_1186 rfl dL_law_1187 dL_law_1188 ?_
  refine l_arg (j := 2) X hk (by decide) hl hC.1.2.2 dL_law_1189 dL_law_1190 dL_law_1191 rfl dL_law_1192 dL_law_1193 ?_
  refine res2_i hC (run2_V (As := [.int (xs (6 * k + 1)), .int (xs (6 * k + 2))]) (rest := []) hM hC hl.1.1 kv_L_133 (c_X11_joined l G s.heap.size A 1 (xs (6 * k + 1)) (xs (6 * k + 2)) g _ (pair_joined hI (xs (6 * k + 1)) (xs (6 * k + 2)))) hc_9 k1 rfl rfl rfl ⟨Nat.le_of_ble_eq_true rfl, Nat.le_of_ble_eq_true rfl⟩ (Nat.le_of_ble_eq_true rfl) ⟨rc_le (by omega), rs_le (by omega)⟩ dL_law_1194) (fun r1 h1 H locs hw hC => ?_)
  have k4 : (hpK h1 400).1 = 20 + 10 := by rw [(hC.2.2.2 400 n4).1]; exact k4
  refine lv_aload_n hx hb dL_law_1197 rfl (lo_at hl 1 rfl) ?_
  refine l_arg (j := 1) X hk (by decide) hl hC.1.2.2 dL_law_1198 dL_law_1199 dL_law_1200 rfl dL_law_1201 dL_law_1202 ?_
  refine l_arg (j := 2) X hk (by decide) hl hC.1.2.2 dL_law_1203 dL_law_1204 dL_law_1205 rfl dL_law_1206 dL_law_1207 ?_
  refine res2_i hC (run2_V (As := [.int (xs (6 * k + 1)), .int (xs (6 * k + 2))]) (rest := [.int r1]) hM hC hl.1.1 kv_L_136 (c_X12_joined l G s.heap.size A 400 (xs (6 * k + 1)) (xs (6 * k + 2)) h1 _ hw) hc_10 k4 rfl rfl rfl ⟨Nat.le_of_ble_eq_true rfl, Nat.le_of_ble_eq_true rfl⟩ (Nat.le_of_ble_eq_true rfl) ⟨rc_le (by omega), rs_le (by omega)⟩ dL_law_1208) (fun r2 h2 H locs hw hC => ?_)
  obtain ⟨er, hI2⟩ := hw
  refine lv_icmp_eq (tgt := 1239) hx hb dL_law_1211 (by decide) (fun _ => ?_) (fun z => absurd er.symm z)
  refine W.widen (k := cells + 9) (n := slots + 2308) (by omega) (by omega) ?_
  exact nx A h2 H locs hI2 ⟨hC.1, hC.2.1, hC.2.2.1, EM.rf⟩ hl
theorem la_look {p : Program} {l : Launch} {e : Env} {s : State} {m : MethodId} {below : List Frame} {meth : Method} {c : Code} {G : GG} {b L : Nat} {xs : Nat → Int32} {Q : State → Prop} (X : LX G p s m meth c b L xs) {k : Nat} (hk : 6 * k + 5 < L) {A : Nat → Nat} {g : Hp} {H : Heap} {locs : List Loc} {ls : Array Slot} {cells slots : Nat} (hI : Inv k g) (hC : Cx2 G s.heap.size A g A g s.heap H locs) (hl : lo_has ls 4 [(3, .int (nI (6 * k))), (2, .ref (A 400)), (1, .ref (A 1)), (0, .ref b)]) (hcs : cells + 9 ≤ 600000) (hss : slots + 2308 ≤ 7302249) (nx : ∀ (A1 : Nat → Nat) (g1 : Hp) (H1 : Heap) (locs1 : List Loc), Inv (k + 1) g1 → Cx2 G s.heap.size A1 g1 A1 g1 s.heap H1 locs1 → lo_has ls 4 [(3, .int (nI (6 * k))), (2, .ref (A1 400)), (1, .ref (A1 1)), (0, .ref b)] → W p l e room_1 s m #[Value.ref b] below meth c H1 locs1 (cells + 9) (slots + 2308) Q (F0 m 1239 ls [])) : W p l e room_1 s m #[Value.ref b] below meth c H locs cells slots Q (F0 m 1216 ls []) := by
  obtain ⟨hM, hX, hbl, hL⟩ := id X
  obtain ⟨hx, hb, hr, hml, hown, hts, hg, hs, hlk, hnm⟩ := id hM
  have hn : k < 100000 := by omega
  have k1 := Inv_k1 hI
  have k4 := Inv_k4 hI
  have n1 : (hpK g 1).1 ≠ 0 := by rw [k1]; decide
  have n4 : (hpK g 400).1 ≠ 0 := by rw [k4]; decide
  refine lv_aload_n hx hb dL_law_1216 rfl (lo_at hl 2 rfl) ?_
  refine l_arg (j := 1) X hk (by decide) hl hC.1.2.2 dL_law_1217 dL_law_1218 dL_law_1219 rfl dL_law_1220 dL_law_1221 ?_
  refine res2_i hC (run2_V (As := [.int (xs (6 * k + 1))]) (rest := []) hM hC hl.1.1 kv_L_137 (c_X11_look l G s.heap.size A 1 (xs (6 * k + 1)) g _ (pair_look hI (xs (6 * k + 1)))) hc_9 k1 rfl rfl rfl ⟨Nat.le_of_ble_eq_true rfl, Nat.le_of_ble_eq_true rfl⟩ (Nat.le_of_ble_eq_true rfl) ⟨rc_le (by omega), rs_le (by omega)⟩ dL_law_1222) (fun r1 h1 H locs hw hC => ?_)
  have k4 : (hpK h1 400).1 = 20 + 10 := by rw [(hC.2.2.2 400 n4).1]; exact k4
  refine lv_aload_n hx hb dL_law_1225 rfl (lo_at hl 1 rfl) ?_
  refine l_arg (j := 1) X hk (by decide) hl hC.1.2.2 dL_law_1226 dL_law_1227 dL_law_1228 rfl dL_law_1229 dL_law_1230 ?_
  refine res2_i hC (run2_V (As := [.int (xs (6 * k + 1))]) (rest := [.int r1]) hM hC hl.1.1 kv_L_140 (c_X12_look l G s.heap.size A 400 (xs (6 * k + 1)) h1 _ hw) hc_10 k4 rfl rfl rfl ⟨Nat.le_of_ble_eq_true rfl, Nat.le_of_ble_eq_true rfl⟩ (Nat.le_of_ble_eq_true rfl) ⟨rc_le (by omega), rs_le (by omega)⟩ dL_law_1231) (fun r2 h2 H locs hw hC => ?_)
  obtain ⟨er, hI2⟩ := hw
  refine lv_icmp_eq (tgt := 1239) hx hb dL_law_1234 (by decide) (fun _ => ?_) (fun z => absurd er.symm z)
  refine W.widen (k := cells + 9) (n := slots + 2308) (by omega) (by omega) ?_
  exact nx A h2 H locs hI2 ⟨hC.1, hC.2.1, hC.2.2.1, EM.rf⟩ hl
