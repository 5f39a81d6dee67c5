/-! THE LAW'S LOOP AND ITS START (my own) -/
theorem sub6a : ∀ a : Nat, a < 56 → ∀ b : Nat, b < 56 → (Int32.ofNat (56 * a + b) - 6).toInt = ((56 * a + b : Nat) : Int) - 6 := by decide +kernel
theorem sub6 (L : Nat) (h : L < 3073) : (Int32.ofNat L - 6).toInt = (L : Int) - 6 := by
  have := sub6a (L / 56) (by omega) (L % 56) (by omega)
  rw [show 56 * (L / 56) + L % 56 = L by omega] at this
  exact this
theorem nI_inta : ∀ a : Nat, a < 56 → ∀ b : Nat, b < 56 → (nI (56 * a + b)).toInt = ((56 * a + b : Nat) : Int) := by decide +kernel
theorem nI_int (m : Nat) (h : m < 3100) : (nI m).toInt = (m : Int) := by
  have := nI_inta (m / 56) (by omega) (m % 56) (by omega)
  rw [show 56 * (m / 56) + m % 56 = m by omega] at this
  exact this
theorem and31J (v : Int32) : ∃ j, j < 32 ∧ v &&& 31 = nI j := by
  refine ⟨v.toBitVec.toNat % 32, Nat.mod_lt _ (by decide), ?_⟩
  apply Int32.toBitVec_inj.mp
  apply BitVec.eq_of_toNat_eq
  have h : (v &&& 31).toBitVec = v.toBitVec &&& (31 : Int32).toBitVec := rfl
  rw [h, BitVec.toNat_and]
  show v.toBitVec.toNat &&& 31 = _
  rw [show (31 : Nat) = 2 ^ 5 - 1 from rfl, Nat.and_two_pow_sub_one_eq_mod]
  show _ = (BitVec.ofNat 32 (v.toBitVec.toNat % 32)).toNat
  rw [BitVec.toNat_ofNat]
  have := Nat.mod_lt v.toBitVec.toNat (show 0 < 32 by decide)
  omega
theorem Inv_next {n : Nat} {g : Hp} (h : Inv n g) : Inv (n + 1) g := by
  obtain ⟨I, L, D, rfl, h⟩ := h
  exact Inv_of h
theorem law_loop {p : Program} {l : Launch} {e : Env} {s : State} {m : MethodId} {below : List Frame} {meth : Method} {c : Code} {G : GG} {b L : Nat} {xs : Nat → Int32} (X : LX G p s m meth c b L xs) : ∀ (N k : Nat) (A : Nat → Nat) (g : Hp) (H : Heap) (locs : List Loc) (ls : Array Slot), 513 < N + k → 6 * k ≤ L + 5 → Inv k g → Cx2 G s.heap.size A g A g s.heap H locs → lo_has ls 4 [(3, .int (nI (6 * k))), (2, .ref (A 400)), (1, .ref (A 1)), (0, .ref b)] → W p l e room_1 s m #[Value.ref b] below meth c H locs (72 + 9 * k) (46508 + 2308 * k) (lw_Z below #[Value.ref b] s) (F0 m 18 ls []) := by
  obtain ⟨hM, hX, hbl, hL⟩ := id X
  obtain ⟨hx, hb, hr, hml, hown, hts, hg, hs, hlk, hnm⟩ := id hM
  intro N
  induction N with
  | zero => intro k A g H locs ls h1 h2; omega
  | succ N ih =>
    intro k A g H locs ls h1 h2 hI hC hl
    refine lv_iload_n hx hb dL_law_18 rfl (lo_at hl 0 rfl) ?_
    refine lv_aload_n hx hb dL_law_19 rfl (lo_at hl 3 rfl) ?_
    refine va_slen hx hb hX hbl (Nat.not_le.mpr hbl) hC.1.2.2 dL_law_20 ?_
    refine lv_bipush (v := 6) hx hb dL_law_21 (by decide) ?_
    refine lv_isub hx hb dL_law_23 ?_
    refine lv_icmp_gt (tgt := 1245) hx hb dL_law_24 (by decide) (fun z => ?_) (fun z => ?_)
    · refine lv_iconst (v := 1) hx hb dL_law_1245 (by decide) ?_
      refine va_forget hC.1.2.2.2.2 ?_
      refine W.widen (k := 600000) (n := 7302249) (by omega) (by omega) ?_
      exact lw_ret hx hb hr hlk dL_law_1246
    have hk : 6 * k + 5 < L := by
      rw [Int32.lt_iff_toInt_lt, sub6 L (by omega), nI_int (6 * k) (by omega)] at z
      omega
    have nx : ∀ (A1 : Nat → Nat) (g1 : Hp) (H1 : Heap) (locs1 : List Loc), Inv (k + 1) g1 → Cx2 G s.heap.size A1 g1 A1 g1 s.heap H1 locs1 → lo_has ls 4 [(3, .int (nI (6 * k))), (2, .ref (A1 400)), (1, .ref (A1 1)), (0, .ref b)] → W p l e room_1 s m #[Value.ref b] below meth c H1 locs1 (72 + 9 * k + 9) (46508 + 2308 * k + 2308) (lw_Z below #[Value.ref b] s) (F0 m 1239 ls []) := by
      intro A1 g1 H1 locs1 hI1 hC1 hl1
      refine lo_iinc (v := nI (6 * (k + 1))) (lv' := [(3, .int (nI (6 * (k + 1)))), (2, .ref (A1 400)), (1, .ref (A1 1)), (0, .ref b)]) hx hb dL_law_1239 hl1 (k := 0) rfl ?_ (by decide) rfl (fun ls hl => ?_)
      · rw [show Int32.ofInt 6 = nI 6 from rfl, nI_add]
        congr 1
      refine lv_goto (tgt := 18) hx hb dL_law_1242 (by decide) ?_
      refine W.widen (k := 72 + 9 * (k + 1)) (n := 46508 + 2308 * (k + 1)) (by omega) (by omega) ?_
      exact ih (k + 1) A1 g1 H1 locs1 ls (by omega) (by omega) hI1 hC1 hl
    refine lv_aload_n hx hb dL_law_27 rfl (lo_at hl 3 rfl) ?_
    refine lv_iload_n hx hb dL_law_28 rfl (lo_at hl 0 rfl) ?_
    refine va_sld hx hb hX hbl (Nat.not_le.mpr hbl) hC.1.2.2 (vp_in_nI (show 6 * k < L by omega) (by omega)) dL_law_29 ?_
    refine lv_bipush (v := 31) hx hb dL_law_30 (by decide) ?_
    refine lv_iand hx hb dL_law_32 ?_
    obtain ⟨j, hj, ej⟩ := and31J (xs (nI (6 * k)).toNatClampNeg)
    rw [ej]
    have hc : j = 0 ∨ j = 1 ∨ j = 2 ∨ j = 3 ∨ j = 4 ∨ j = 5 ∨ j = 6 ∨ j = 7 ∨ j = 8 ∨ j = 9 ∨ j = 10 ∨ j = 11 ∨ j = 12 ∨ j = 13 ∨ j = 14 ∨ j = 15 ∨ j = 16 ∨ j = 17 ∨ j = 18 ∨ j = 19 ∨ j = 20 ∨ j = 21 ∨ j = 22 ∨ j = 23 ∨ j = 24 ∨ j = 25 ∨ j = 26 ∨ j = 27 ∨ j = 28 ∨ 28 < j := by omega
    rcases hc with rfl | rfl | rfl | rfl | rfl | rfl | rfl | rfl | rfl | rfl | rfl | rfl | rfl | rfl | rfl | rfl | rfl | rfl | rfl | rfl | rfl | rfl | rfl | rfl | rfl | rfl | rfl | rfl | rfl | hc
    · refine lv_tableIn (tgt := 164) hx hb dL_law_33 (by decide) (by decide) rfl (by decide) ?_
      exact la_tool X hk hI hC hl (by omega) (by omega) nx
    · refine lv_tableIn (tgt := 187) hx hb dL_law_33 (by decide) (by decide) rfl (by decide) ?_
      exact la_edge X hk hI hC hl (by omega) (by omega) nx
    · refine lv_tableIn (tgt := 230) hx hb dL_law_33 (by decide) (by decide) rfl (by decide) ?_
      exact la_barrel X hk hI hC hl (by omega) (by omega) nx
    · refine lv_tableIn (tgt := 253) hx hb dL_law_33 (by decide) (by decide) rfl (by decide) ?_
      exact la_rust X hk hI hC hl (by omega) (by omega) nx
    · refine lv_tableIn (tgt := 286) hx hb dL_law_33 (by decide) (by decide) rfl (by decide) ?_
      exact la_shot X hk hI hC hl (by omega) (by omega) nx
    · refine lv_tableIn (tgt := 319) hx hb dL_law_33 (by decide) (by decide) rfl (by decide) ?_
      exact la_found X hk hI hC hl (by omega) (by omega) nx
    · refine lv_tableIn (tgt := 332) hx hb dL_law_33 (by decide) (by decide) rfl (by decide) ?_
      exact la_hair X hk hI hC hl (by omega) (by omega) nx
    · refine lv_tableIn (tgt := 375) hx hb dL_law_33 (by decide) (by decide) rfl (by decide) ?_
      exact la_at X hk hI hC hl (by omega) (by omega) nx
    · refine lv_tableIn (tgt := 418) hx hb dL_law_33 (by decide) (by decide) rfl (by decide) ?_
      exact la_of X hk hI hC hl (by omega) (by omega) nx
    · refine lv_tableIn (tgt := 451) hx hb dL_law_33 (by decide) (by decide) rfl (by decide) ?_
      exact la_feed X hk hI hC hl (by omega) (by omega) nx
    · refine lv_tableIn (tgt := 514) hx hb dL_law_33 (by decide) (by decide) rfl (by decide) ?_
      exact la_end X hk hI hC hl (by omega) (by omega) nx
    · refine lv_tableIn (tgt := 537) hx hb dL_law_33 (by decide) (by decide) rfl (by decide) ?_
      exact la_laws X hk hI hC hl (by omega) (by omega) nx
    · refine lv_tableIn (tgt := 550) hx hb dL_law_33 (by decide) (by decide) rfl (by decide) ?_
      exact la_judgement X hk hI hC hl (by omega) (by omega) nx
    · refine lv_tableIn (tgt := 573) hx hb dL_law_33 (by decide) (by decide) rfl (by decide) ?_
      exact la_fault X hk hI hC hl (by omega) (by omega) nx
    · refine lv_tableIn (tgt := 596) hx hb dL_law_33 (by decide) (by decide) rfl (by decide) ?_
      exact la_looker X hk hI hC hl (by omega) (by omega) nx
    · refine lv_tableIn (tgt := 619) hx hb dL_law_33 (by decide) (by decide) rfl (by decide) ?_
      exact la_slid X hk hI hC hl (by omega) (by omega) nx
    · refine lv_tableIn (tgt := 672) hx hb dL_law_33 (by decide) (by decide) rfl (by decide) ?_
      exact la_says X hk hI hC hl (by omega) (by omega) nx
    · refine lv_tableIn (tgt := 741) hx hb dL_law_33 (by decide) (by decide) rfl (by decide) ?_
      exact la_truth X hk hI hC hl (by omega) (by omega) nx
    · refine lv_tableIn (tgt := 774) hx hb dL_law_33 (by decide) (by decide) rfl (by decide) ?_
      exact la_odds X hk hI hC hl (by omega) (by omega) nx
    · refine lv_tableIn (tgt := 827) hx hb dL_law_33 (by decide) (by decide) rfl (by decide) ?_
      exact la_far X hk hI hC hl (by omega) (by omega) nx
    · refine lv_tableIn (tgt := 860) hx hb dL_law_33 (by decide) (by decide) rfl (by decide) ?_
      exact la_own X hk hI hC hl (by omega) (by omega) nx
    · refine lv_tableIn (tgt := 923) hx hb dL_law_33 (by decide) (by decide) rfl (by decide) ?_
      exact la_list X hk hI hC hl (by omega) (by omega) nx
    · refine lv_tableIn (tgt := 966) hx hb dL_law_33 (by decide) (by decide) rfl (by decide) ?_
      exact la_pair X hk hI hC hl (by omega) (by omega) nx
    · refine lv_tableIn (tgt := 1009) hx hb dL_law_33 (by decide) (by decide) rfl (by decide) ?_
      exact la_counted X hk hI hC hl (by omega) (by omega) nx
    · refine lv_tableIn (tgt := 1068) hx hb dL_law_33 (by decide) (by decide) rfl (by decide) ?_
      exact la_round X hk hI hC hl (by omega) (by omega) nx
    · refine lv_tableIn (tgt := 1101) hx hb dL_law_33 (by decide) (by decide) rfl (by decide) ?_
      exact la_lean X hk hI hC hl (by omega) (by omega) nx
    · refine lv_tableIn (tgt := 1124) hx hb dL_law_33 (by decide) (by decide) rfl (by decide) ?_
      exact la_scene X hk hI hC hl (by omega) (by omega) nx
    · refine lv_tableIn (tgt := 1183) hx hb dL_law_33 (by decide) (by decide) rfl (by decide) ?_
      exact la_joined X hk hI hC hl (by omega) (by omega) nx
    · refine lv_tableIn (tgt := 1216) hx hb dL_law_33 (by decide) (by decide) rfl (by decide) ?_
      exact la_look X hk hI hC hl (by omega) (by omega) nx
    · refine lv_tableOut (tgt := 1239) hx hb dL_law_33 ?_ (by decide) ?_
      · rw [nI_int j (by omega)]
        exact Or.inr (by omega)
      · refine W.widen (k := 72 + 9 * k + 9) (n := 46508 + 2308 * k + 2308) (by omega) (by omega) ?_
        exact nx A g H locs (Inv_next hI) hC hl
theorem mv_no {A : Nat → Nat} {g : Hp} (h : ∀ b, (hpK g b).1 = 0) (a : Nat) : (hpK (mv A g) a).1 = 0 := by
  show (match nmA A (hpK g) a with | some b => hpK g b | none => (0, 0)).1 = 0
  cases hn : nmA A (hpK g) a with
  | none => rfl
  | some b => exact absurd (h b) (nmA_some hn).1
theorem start_Cx {G : GG} {H0 : Heap} : Cx2 G H0.size (fun _ => 0) (bh [] [] []) (fun _ => 0) (bh [] [] []) H0 H0 [] := by
  have h0 : ∀ b, (hpK (bh [] [] []) b).1 = 0 := fun _ => rfl
  refine ⟨⟨Nat.le_refl _, ⟨[], fun a => ⟨fun h => absurd h List.not_mem_nil, fun h => absurd (mv_no h0 a) h⟩, fun k q h => by simp [va_pl] at h, fun i j p q h => by simp [va_pl] at h, fun k q h => by simp [va_pl] at h⟩, va_S.rf⟩, fun a b h => absurd (h0 a) h, fun a k b h => absurd (h0 a) h, EM.rf⟩
set_option maxHeartbeats 1000000 in
theorem whole_start {p : Program} {e : Env} {s : State} {m : MethodId} {below : List Frame} {meth : Method} {c : Code} (l : Launch) {b L : Nat} {xs : Nat → Int32} (hL : L ≤ 3072) (C0 : lw_At p s m meth c b L xs) : W p l e room_1 s m #[Value.ref b] below meth c s.heap [] 0 0 (lw_Z below #[Value.ref b] s) (entryFrame m ([Value.ref b] : List Value).toArray 4) := by
  obtain ⟨hx, hb, hr, hml, hown, hts0, hX, hbl, hlk, hgv⟩ := id C0
  obtain ⟨G, hg, hs⟩ := law_world hts0 hgv
  have hts : ∀ w ∈ lw_ok, w.before #[Value.ref b] s = true := fun w hw => hts0 w (List.mem_filter.mp hw).1
  have hM : Mx G s.heap.size p s m #[Value.ref b] meth c cL_law 4 ret RL meth.name := ⟨hx, hb, hr, hml, hown, hts, hg, hs, hlk, rfl⟩
  have hC : Cx2 G s.heap.size (fun _ => 0) (bh [] [] []) (fun _ => 0) (bh [] [] []) s.heap s.heap [] := start_Cx
  have hl := lv_entry ([.ref b]) (n := 4) (Nat.le_of_ble_eq_true rfl)
  rw [lg_entry_eq]
  generalize (lg_sl ([.ref b]) ++ List.replicate (4 - (lg_sl ([.ref b])).length) Slot.unset).toArray = ls at hl ⊢
  have hl : lo_has ls 4 [(0, .ref b)] := ⟨hl, List.forall_mem_cons.mpr ⟨rfl, fun _ h => absurd h List.not_mem_nil⟩⟩
  refine s_new hx hb hts hown hg hC cb_9 df_9 mk_c_L_7 mk_ins_OneBarrel mk_ini_OneBarrel 1 rfl (Nat.le_of_ble_eq_true rfl) (Nat.le_of_ble_eq_true rfl) dL_law_0 (fun A1 h1 H e1 hE hC => ?_)
  rw [b_al rfl rfl] at e1
  subst e1
  refine lv_dup hx hb dL_law_3 rfl ?_
  have wX : wp_X11_init 1 (bh [] [] [(1, 20 + 9, 0)]) (fun h => h = bh is1 rs1 ks1) := init_X rfl
  have wM : wp_X12_init 400 (bh is1 rs1 ((400, 20 + 10, 0) :: ks1)) (fun h => h = bh isF rsF ksF) := init_M rfl
  refine res2_va hC (run2_I (As := []) (rest := [.ref (A1 1)]) hM hC hl.1.1 kv_L_9 (c_X11_init l G s.heap.size A1 1 _ _ wX) rfl rfl rfl ⟨Nat.le_of_ble_eq_true rfl, Nat.le_of_ble_eq_true rfl⟩ (Nat.le_of_ble_eq_true rfl) ⟨Nat.le_of_ble_eq_true rfl, Nat.le_of_ble_eq_true rfl⟩ dL_law_4) (fun A2 h2 H locs hw hE hC => ?_)
  subst hw
  rw [← (hE 1 (by decide +kernel)).2]
  refine lo_astore_n (r := some (A2 1)) (lv' := [(1, .ref (A2 1)), (0, .ref b)]) hx hb dL_law_7 rfl hl (by decide) rfl (fun ls hl => ?_)
  refine s_new hx hb hts hown hg hC cb_10 df_10 mk_c_L_10 mk_ins_OneBarrelModel mk_ini_OneBarrelModel 400 (by decide +kernel) (Nat.le_of_ble_eq_true rfl) (Nat.le_of_ble_eq_true rfl) dL_law_8 (fun A3 h3 H e3 hE hC => ?_)
  rw [b_al (by decide +kernel) (by decide +kernel)] at e3
  subst e3
  rw [← (hE 1 (by decide +kernel)).2] at hl
  refine lv_dup hx hb dL_law_11 rfl ?_
  refine res2_va hC (run2_I (As := []) (rest := [.ref (A3 400)]) hM hC hl.1.1 kv_L_12 (c_X12_init l G s.heap.size A3 400 _ _ wM) rfl rfl rfl ⟨Nat.le_of_ble_eq_true rfl, Nat.le_of_ble_eq_true rfl⟩ (Nat.le_of_ble_eq_true rfl) ⟨Nat.le_of_ble_eq_true rfl, Nat.le_of_ble_eq_true rfl⟩ dL_law_12) (fun A4 h4 H locs hw hE hC => ?_)
  subst hw
  rw [← (hE 1 (by decide +kernel)).2] at hl
  rw [← (hE 400 (by decide +kernel)).2]
  refine lo_astore_n (r := some (A4 400)) (lv' := [(2, .ref (A4 400)), (1, .ref (A4 1)), (0, .ref b)]) hx hb dL_law_15 rfl hl (by decide) rfl (fun ls hl => ?_)
  refine lv_iconst (v := 0) hx hb dL_law_16 (by decide) ?_
  refine lo_istore_n (lv' := [(3, .int 0), (2, .ref (A4 400)), (1, .ref (A4 1)), (0, .ref b)]) hx hb dL_law_17 rfl hl (by decide) rfl (fun ls hl => ?_)
  refine W.widen (k := 72 + 9 * 0) (n := 46508 + 2308 * 0) (Nat.le_of_ble_eq_true rfl) (Nat.le_of_ble_eq_true rfl) ?_
  exact law_loop ⟨hM, hX, hbl, hL⟩ 514 0 A4 _ H locs ls (by decide) (by omega) start_Inv ⟨hC.1, hC.2.1, hC.2.2.1, EM.rf⟩ hl
