theorem hc_0 : classes[0]? = some (RX0, TX0, 5) := rfl
theorem in_0 : ∀ w ∈ u_ws RX0 TX0 5, w ∈ lw_ok := by
  have h1 : ∀ w ∈ u_ws RX0 TX0 5, w ∈ tables_1 := by decide +kernel
  have h2 : ∀ w ∈ u_ws RX0 TX0 5, goodWord w = true := by decide +kernel
  exact fun w hw => ok_of (List.mem_append_right _ (h1 w hw)) (h2 w hw)
theorem cb_0 : CBn 0 RX0 TX0 5 tyX0 := ⟨rfl, in_0, tyX0_ok, nmX0, rfl⟩
theorem df_0 : ∀ j, j < 5 → defaultValue (tyX0 j) = vp_V (flds 0 (fun _ => 0) (fun _ => none)) j := by decide +kernel
theorem fb_0_0 : FB 0 RX0 TX0 5 tyX0 0 false "number" "I" true .int := ⟨cb_0, by decide, rfl, rfl, rfl⟩
theorem fb_0_1 : FB 0 RX0 TX0 5 tyX0 1 true "gun" "LOneBarrel$Barrel;" true (.object "OneBarrel$Barrel") := ⟨cb_0, by decide, rfl, rfl, rfl⟩
theorem fb_0_2 : FB 0 RX0 TX0 5 tyX0 2 false "nth" "I" true .int := ⟨cb_0, by decide, rfl, rfl, rfl⟩
theorem fb_0_3 : FB 0 RX0 TX0 5 tyX0 3 false "softness" "I" true .int := ⟨cb_0, by decide, rfl, rfl, rfl⟩
theorem fb_0_4 : FB 0 RX0 TX0 5 tyX0 4 true "row" "[I" true (.array .int) := ⟨cb_0, by decide, rfl, rfl, rfl⟩
theorem hc_1 : classes[1]? = some (RX1, TX1, 7) := rfl
theorem in_1 : ∀ w ∈ u_ws RX1 TX1 7, w ∈ lw_ok := by
  have h1 : ∀ w ∈ u_ws RX1 TX1 7, w ∈ tables_1 := by decide +kernel
  have h2 : ∀ w ∈ u_ws RX1 TX1 7, goodWord w = true := by decide +kernel
  exact fun w hw => ok_of (List.mem_append_right _ (h1 w hw)) (h2 w hw)
theorem cb_1 : CBn 1 RX1 TX1 7 tyX1 := ⟨rfl, in_1, tyX1_ok, nmX1, rfl⟩
theorem df_1 : ∀ j, j < 7 → defaultValue (tyX1 j) = vp_V (flds 1 (fun _ => 0) (fun _ => none)) j := by decide +kernel
theorem fb_1_0 : FB 1 RX1 TX1 7 tyX1 0 false "number" "I" true .int := ⟨cb_1, by decide, rfl, rfl, rfl⟩
theorem fb_1_1 : FB 1 RX1 TX1 7 tyX1 1 false "cutter" "I" true .int := ⟨cb_1, by decide, rfl, rfl, rfl⟩
theorem fb_1_2 : FB 1 RX1 TX1 7 tyX1 2 false "nth" "I" true .int := ⟨cb_1, by decide, rfl, rfl, rfl⟩
theorem fb_1_3 : FB 1 RX1 TX1 7 tyX1 3 true "row" "[I" true (.array .int) := ⟨cb_1, by decide, rfl, rfl, rfl⟩
theorem fb_1_4 : FB 1 RX1 TX1 7 tyX1 4 false "state" "I" false .int := ⟨cb_1, by decide, rfl, rfl, rfl⟩
theorem fb_1_5 : FB 1 RX1 TX1 7 tyX1 5 false "shots" "I" false .int := ⟨cb_1, by decide, rfl, rfl, rfl⟩
theorem fb_1_6 : FB 1 RX1 TX1 7 tyX1 6 false "rustiness" "I" false .int := ⟨cb_1, by decide, rfl, rfl, rfl⟩
theorem hc_2 : classes[2]? = some (RX3, TX3, 3) := rfl
theorem in_2 : ∀ w ∈ u_ws RX3 TX3 3, w ∈ lw_ok := by
  have h1 : ∀ w ∈ u_ws RX3 TX3 3, w ∈ tables_1 := by decide +kernel
  have h2 : ∀ w ∈ u_ws RX3 TX3 3, goodWord w = true := by decide +kernel
  exact fun w hw => ok_of (List.mem_append_right _ (h1 w hw)) (h2 w hw)
theorem cb_2 : CBn 2 RX3 TX3 3 tyX3 := ⟨rfl, in_2, tyX3_ok, nmX3, rfl⟩
theorem df_2 : ∀ j, j < 3 → defaultValue (tyX3 j) = vp_V (flds 2 (fun _ => 0) (fun _ => none)) j := by decide +kernel
theorem fb_2_0 : FB 2 RX3 TX3 3 tyX3 0 false "margin" "I" true .int := ⟨cb_2, by decide, rfl, rfl, rfl⟩
theorem fb_2_1 : FB 2 RX3 TX3 3 tyX3 1 true "judged" "LOneBarrel$Text;" false (.object "OneBarrel$Text") := ⟨cb_2, by decide, rfl, rfl, rfl⟩
theorem fb_2_2 : FB 2 RX3 TX3 3 tyX3 2 true "kept" "[I" true (.array .int) := ⟨cb_2, by decide, rfl, rfl, rfl⟩
theorem hc_3 : classes[3]? = some (RX4, TX4, 3) := rfl
theorem in_3 : ∀ w ∈ u_ws RX4 TX4 3, w ∈ lw_ok := by
  have h1 : ∀ w ∈ u_ws RX4 TX4 3, w ∈ tables_1 := by decide +kernel
  have h2 : ∀ w ∈ u_ws RX4 TX4 3, goodWord w = true := by decide +kernel
  exact fun w hw => ok_of (List.mem_append_right _ (h1 w hw)) (h2 w hw)
theorem cb_3 : CBn 3 RX4 TX4 3 tyX4 := ⟨rfl, in_3, tyX4_ok, nmX4, rfl⟩
theorem df_3 : ∀ j, j < 3 → defaultValue (tyX4 j) = vp_V (flds 3 (fun _ => 0) (fun _ => none)) j := by decide +kernel
theorem fb_3_0 : FB 3 RX4 TX4 3 tyX4 0 true "first" "LOneBarrel$Ball;" true (.object "OneBarrel$Ball") := ⟨cb_3, by decide, rfl, rfl, rfl⟩
theorem fb_3_1 : FB 3 RX4 TX4 3 tyX4 1 true "second" "LOneBarrel$Ball;" true (.object "OneBarrel$Ball") := ⟨cb_3, by decide, rfl, rfl, rfl⟩
theorem fb_3_2 : FB 3 RX4 TX4 3 tyX4 2 false "hours" "I" true .int := ⟨cb_3, by decide, rfl, rfl, rfl⟩
theorem hc_4 : classes[4]? = some (RX5, TX5, 6) := rfl
theorem in_4 : ∀ w ∈ u_ws RX5 TX5 6, w ∈ lw_ok := by
  have h1 : ∀ w ∈ u_ws RX5 TX5 6, w ∈ tables_1 := by decide +kernel
  have h2 : ∀ w ∈ u_ws RX5 TX5 6, goodWord w = true := by decide +kernel
  exact fun w hw => ok_of (List.mem_append_right _ (h1 w hw)) (h2 w hw)
theorem cb_4 : CBn 4 RX5 TX5 6 tyX5 := ⟨rfl, in_4, tyX5_ok, nmX5, rfl⟩
theorem df_4 : ∀ j, j < 6 → defaultValue (tyX5 j) = vp_V (flds 4 (fun _ => 0) (fun _ => none)) j := by decide +kernel
theorem fb_4_0 : FB 4 RX5 TX5 6 tyX5 0 false "fault" "I" false .int := ⟨cb_4, by decide, rfl, rfl, rfl⟩
theorem fb_4_1 : FB 4 RX5 TX5 6 tyX5 1 false "faultPlace" "I" false .int := ⟨cb_4, by decide, rfl, rfl, rfl⟩
theorem fb_4_2 : FB 4 RX5 TX5 6 tyX5 2 true "tokens" "LOneBarrel$Tokens;" true (.object "OneBarrel$Tokens") := ⟨cb_4, by decide, rfl, rfl, rfl⟩
theorem fb_4_3 : FB 4 RX5 TX5 6 tyX5 3 true "text" "LOneBarrel$Text;" false (.object "OneBarrel$Text") := ⟨cb_4, by decide, rfl, rfl, rfl⟩
theorem fb_4_4 : FB 4 RX5 TX5 6 tyX5 4 false "isLaws" "Z" false .boolean := ⟨cb_4, by decide, rfl, rfl, rfl⟩
theorem fb_4_5 : FB 4 RX5 TX5 6 tyX5 5 false "next" "I" false .int := ⟨cb_4, by decide, rfl, rfl, rfl⟩
theorem hc_5 : classes[5]? = some (RX7, TX7, 9) := rfl
theorem in_5 : ∀ w ∈ u_ws RX7 TX7 9, w ∈ lw_ok := by
  have h1 : ∀ w ∈ u_ws RX7 TX7 9, w ∈ tables_1 := by decide +kernel
  have h2 : ∀ w ∈ u_ws RX7 TX7 9, goodWord w = true := by decide +kernel
  exact fun w hw => ok_of (List.mem_append_right _ (h1 w hw)) (h2 w hw)
theorem cb_5 : CBn 5 RX7 TX7 9 tyX7 := ⟨rfl, in_5, tyX7_ok, nmX7, rfl⟩
theorem df_5 : ∀ j, j < 9 → defaultValue (tyX7 j) = vp_V (flds 5 (fun _ => 0) (fun _ => none)) j := by decide +kernel
theorem fb_5_0 : FB 5 RX7 TX7 9 tyX7 0 true "heads" "[I" true (.array .int) := ⟨cb_5, by decide, rfl, rfl, rfl⟩
theorem fb_5_1 : FB 5 RX7 TX7 9 tyX7 1 true "starts" "[I" true (.array .int) := ⟨cb_5, by decide, rfl, rfl, rfl⟩
theorem fb_5_2 : FB 5 RX7 TX7 9 tyX7 2 true "claims" "[I" true (.array .int) := ⟨cb_5, by decide, rfl, rfl, rfl⟩
theorem fb_5_3 : FB 5 RX7 TX7 9 tyX7 3 true "finishes" "[I" true (.array .int) := ⟨cb_5, by decide, rfl, rfl, rfl⟩
theorem fb_5_4 : FB 5 RX7 TX7 9 tyX7 4 true "steps" "[I" true (.array .int) := ⟨cb_5, by decide, rfl, rfl, rfl⟩
theorem fb_5_5 : FB 5 RX7 TX7 9 tyX7 5 true "stack" "[I" true (.array .int) := ⟨cb_5, by decide, rfl, rfl, rfl⟩
theorem fb_5_6 : FB 5 RX7 TX7 9 tyX7 6 false "size" "I" false .int := ⟨cb_5, by decide, rfl, rfl, rfl⟩
theorem fb_5_7 : FB 5 RX7 TX7 9 tyX7 7 false "lines" "I" false .int := ⟨cb_5, by decide, rfl, rfl, rfl⟩
theorem fb_5_8 : FB 5 RX7 TX7 9 tyX7 8 false "asksPieces" "Z" false .boolean := ⟨cb_5, by decide, rfl, rfl, rfl⟩
theorem hc_6 : classes[6]? = some (RX8, TX8, 5) := rfl
theorem in_6 : ∀ w ∈ u_ws RX8 TX8 5, w ∈ lw_ok := by
  have h1 : ∀ w ∈ u_ws RX8 TX8 5, w ∈ tables_1 := by decide +kernel
  have h2 : ∀ w ∈ u_ws RX8 TX8 5, goodWord w = true := by decide +kernel
  exact fun w hw => ok_of (List.mem_append_right _ (h1 w hw)) (h2 w hw)
theorem cb_6 : CBn 6 RX8 TX8 5 tyX8 := ⟨rfl, in_6, tyX8_ok, nmX8, rfl⟩
theorem df_6 : ∀ j, j < 5 → defaultValue (tyX8 j) = vp_V (flds 6 (fun _ => 0) (fun _ => none)) j := by decide +kernel
theorem fb_6_0 : FB 6 RX8 TX8 5 tyX8 0 true "bytes" "[I" true (.array .int) := ⟨cb_6, by decide, rfl, rfl, rfl⟩
theorem fb_6_1 : FB 6 RX8 TX8 5 tyX8 1 false "length" "I" false .int := ⟨cb_6, by decide, rfl, rfl, rfl⟩
theorem fb_6_2 : FB 6 RX8 TX8 5 tyX8 2 true "kinds" "[I" true (.array .int) := ⟨cb_6, by decide, rfl, rfl, rfl⟩
theorem fb_6_3 : FB 6 RX8 TX8 5 tyX8 3 true "places" "[I" true (.array .int) := ⟨cb_6, by decide, rfl, rfl, rfl⟩
theorem fb_6_4 : FB 6 RX8 TX8 5 tyX8 4 false "count" "I" false .int := ⟨cb_6, by decide, rfl, rfl, rfl⟩
theorem hc_7 : classes[7]? = some (RX9, TX9, 3) := rfl
theorem in_7 : ∀ w ∈ u_ws RX9 TX9 3, w ∈ lw_ok := by
  have h1 : ∀ w ∈ u_ws RX9 TX9 3, w ∈ tables_1 := by decide +kernel
  have h2 : ∀ w ∈ u_ws RX9 TX9 3, goodWord w = true := by decide +kernel
  exact fun w hw => ok_of (List.mem_append_right _ (h1 w hw)) (h2 w hw)
theorem cb_7 : CBn 7 RX9 TX9 3 tyX9 := ⟨rfl, in_7, tyX9_ok, nmX9, rfl⟩
theorem df_7 : ∀ j, j < 3 → defaultValue (tyX9 j) = vp_V (flds 7 (fun _ => 0) (fun _ => none)) j := by decide +kernel
theorem fb_7_0 : FB 7 RX9 TX9 3 tyX9 0 true "row" "[I" true (.array .int) := ⟨cb_7, by decide, rfl, rfl, rfl⟩
theorem fb_7_1 : FB 7 RX9 TX9 3 tyX9 1 false "state" "I" false .int := ⟨cb_7, by decide, rfl, rfl, rfl⟩
theorem fb_7_2 : FB 7 RX9 TX9 3 tyX9 2 false "cuts" "I" false .int := ⟨cb_7, by decide, rfl, rfl, rfl⟩
theorem hc_8 : classes[8]? = some (RX10, TX10, 6) := rfl
theorem in_8 : ∀ w ∈ u_ws RX10 TX10 6, w ∈ lw_ok := by
  have h1 : ∀ w ∈ u_ws RX10 TX10 6, w ∈ tables_1 := by decide +kernel
  have h2 : ∀ w ∈ u_ws RX10 TX10 6, goodWord w = true := by decide +kernel
  exact fun w hw => ok_of (List.mem_append_right _ (h1 w hw)) (h2 w hw)
theorem cb_8 : CBn 8 RX10 TX10 6 tyX10 := ⟨rfl, in_8, tyX10_ok, nmX10, rfl⟩
theorem df_8 : ∀ j, j < 6 → defaultValue (tyX10 j) = vp_V (flds 8 (fun _ => 0) (fun _ => none)) j := by decide +kernel
theorem fb_8_0 : FB 8 RX10 TX10 6 tyX10 0 true "facts" "[I" true (.array .int) := ⟨cb_8, by decide, rfl, rfl, rfl⟩
theorem fb_8_1 : FB 8 RX10 TX10 6 tyX10 1 true "ahead" "[I" true (.array .int) := ⟨cb_8, by decide, rfl, rfl, rfl⟩
theorem fb_8_2 : FB 8 RX10 TX10 6 tyX10 2 true "sets" "[I" true (.array .int) := ⟨cb_8, by decide, rfl, rfl, rfl⟩
theorem fb_8_3 : FB 8 RX10 TX10 6 tyX10 3 true "most" "[I" true (.array .int) := ⟨cb_8, by decide, rfl, rfl, rfl⟩
theorem fb_8_4 : FB 8 RX10 TX10 6 tyX10 4 true "misled" "[I" true (.array .int) := ⟨cb_8, by decide, rfl, rfl, rfl⟩
theorem fb_8_5 : FB 8 RX10 TX10 6 tyX10 5 true "groups" "[I" true (.array .int) := ⟨cb_8, by decide, rfl, rfl, rfl⟩
theorem hc_9 : classes[9]? = some (RX11, TX11, 16) := rfl
theorem in_9 : ∀ w ∈ u_ws RX11 TX11 16, w ∈ lw_ok := by
  have h1 : ∀ w ∈ u_ws RX11 TX11 16, w ∈ tables_1 := by decide +kernel
  have h2 : ∀ w ∈ u_ws RX11 TX11 16, goodWord w = true := by decide +kernel
  exact fun w hw => ok_of (List.mem_append_right _ (h1 w hw)) (h2 w hw)
theorem cb_9 : CBn 9 RX11 TX11 16 tyX11 := ⟨rfl, in_9, tyX11_ok, nmX11, rfl⟩
theorem df_9 : ∀ j, j < 16 → defaultValue (tyX11 j) = vp_V (flds 9 (fun _ => 0) (fun _ => none)) j := by decide +kernel
theorem fb_9_0 : FB 9 RX11 TX11 16 tyX11 0 true "tools" "[LOneBarrel$Tool;" true (.array (.object "OneBarrel$Tool")) := ⟨cb_9, by decide, rfl, rfl, rfl⟩
theorem fb_9_1 : FB 9 RX11 TX11 16 tyX11 1 false "toolCount" "I" false .int := ⟨cb_9, by decide, rfl, rfl, rfl⟩
theorem fb_9_2 : FB 9 RX11 TX11 16 tyX11 2 true "barrels" "[LOneBarrel$Barrel;" true (.array (.object "OneBarrel$Barrel")) := ⟨cb_9, by decide, rfl, rfl, rfl⟩
theorem fb_9_3 : FB 9 RX11 TX11 16 tyX11 3 false "barrelCount" "I" false .int := ⟨cb_9, by decide, rfl, rfl, rfl⟩
theorem fb_9_4 : FB 9 RX11 TX11 16 tyX11 4 true "balls" "[LOneBarrel$Ball;" true (.array (.object "OneBarrel$Ball")) := ⟨cb_9, by decide, rfl, rfl, rfl⟩
theorem fb_9_5 : FB 9 RX11 TX11 16 tyX11 5 false "ballCount" "I" false .int := ⟨cb_9, by decide, rfl, rfl, rfl⟩
theorem fb_9_6 : FB 9 RX11 TX11 16 tyX11 6 false "foundCount" "I" false .int := ⟨cb_9, by decide, rfl, rfl, rfl⟩
theorem fb_9_7 : FB 9 RX11 TX11 16 tyX11 7 true "lookers" "[LOneBarrel$Looker;" true (.array (.object "OneBarrel$Looker")) := ⟨cb_9, by decide, rfl, rfl, rfl⟩
theorem fb_9_8 : FB 9 RX11 TX11 16 tyX11 8 false "lookerCount" "I" false .int := ⟨cb_9, by decide, rfl, rfl, rfl⟩
theorem fb_9_9 : FB 9 RX11 TX11 16 tyX11 9 true "pairs" "[LOneBarrel$Pair;" true (.array (.object "OneBarrel$Pair")) := ⟨cb_9, by decide, rfl, rfl, rfl⟩
theorem fb_9_10 : FB 9 RX11 TX11 16 tyX11 10 false "pairCount" "I" false .int := ⟨cb_9, by decide, rfl, rfl, rfl⟩
theorem fb_9_11 : FB 9 RX11 TX11 16 tyX11 11 true "scenes" "[J" true (.array .long) := ⟨cb_9, by decide, rfl, rfl, rfl⟩
theorem fb_9_12 : FB 9 RX11 TX11 16 tyX11 12 true "tape" "LOneBarrel$Tokens;" true (.object "OneBarrel$Tokens") := ⟨cb_9, by decide, rfl, rfl, rfl⟩
theorem fb_9_13 : FB 9 RX11 TX11 16 tyX11 13 true "reader" "LOneBarrel$Reader;" true (.object "OneBarrel$Reader") := ⟨cb_9, by decide, rfl, rfl, rfl⟩
theorem fb_9_14 : FB 9 RX11 TX11 16 tyX11 14 true "lawText" "LOneBarrel$Text;" false (.object "OneBarrel$Text") := ⟨cb_9, by decide, rfl, rfl, rfl⟩
theorem fb_9_15 : FB 9 RX11 TX11 16 tyX11 15 true "work" "LOneBarrel$Work;" true (.object "OneBarrel$Work") := ⟨cb_9, by decide, rfl, rfl, rfl⟩
theorem hc_10 : classes[10]? = some (RX12, TX12, 62) := rfl
theorem in_10 : ∀ w ∈ u_ws RX12 TX12 62, w ∈ lw_ok := by
  have h1 : ∀ w ∈ u_ws RX12 TX12 62, w ∈ tables_1 := by decide +kernel
  have h2 : ∀ w ∈ u_ws RX12 TX12 62, goodWord w = true := by decide +kernel
  exact fun w hw => ok_of (List.mem_append_right _ (h1 w hw)) (h2 w hw)
theorem cb_10 : CBn 10 RX12 TX12 62 tyX12 := ⟨rfl, in_10, tyX12_ok, nmX12, rfl⟩
theorem df_10 : ∀ j, j < 62 → defaultValue (tyX12 j) = vp_V (flds 10 (fun _ => 0) (fun _ => none)) j := by decide +kernel
theorem fb_10_0 : FB 10 RX12 TX12 62 tyX12 0 false "told" "I" false .int := ⟨cb_10, by decide, rfl, rfl, rfl⟩
theorem fb_10_1 : FB 10 RX12 TX12 62 tyX12 1 false "tools" "I" false .int := ⟨cb_10, by decide, rfl, rfl, rfl⟩
theorem fb_10_2 : FB 10 RX12 TX12 62 tyX12 2 true "edges" "[I" true (.array .int) := ⟨cb_10, by decide, rfl, rfl, rfl⟩
theorem fb_10_3 : FB 10 RX12 TX12 62 tyX12 3 true "toolState" "[I" true (.array .int) := ⟨cb_10, by decide, rfl, rfl, rfl⟩
theorem fb_10_4 : FB 10 RX12 TX12 62 tyX12 4 true "toolCut" "[I" true (.array .int) := ⟨cb_10, by decide, rfl, rfl, rfl⟩
theorem fb_10_5 : FB 10 RX12 TX12 62 tyX12 5 false "barrels" "I" false .int := ⟨cb_10, by decide, rfl, rfl, rfl⟩
theorem fb_10_6 : FB 10 RX12 TX12 62 tyX12 6 true "bores" "[I" true (.array .int) := ⟨cb_10, by decide, rfl, rfl, rfl⟩
theorem fb_10_7 : FB 10 RX12 TX12 62 tyX12 7 true "barrelState" "[I" true (.array .int) := ⟨cb_10, by decide, rfl, rfl, rfl⟩
theorem fb_10_8 : FB 10 RX12 TX12 62 tyX12 8 true "barrelTool" "[I" true (.array .int) := ⟨cb_10, by decide, rfl, rfl, rfl⟩
theorem fb_10_9 : FB 10 RX12 TX12 62 tyX12 9 true "barrelWhich" "[I" true (.array .int) := ⟨cb_10, by decide, rfl, rfl, rfl⟩
theorem fb_10_10 : FB 10 RX12 TX12 62 tyX12 10 true "shots" "[I" true (.array .int) := ⟨cb_10, by decide, rfl, rfl, rfl⟩
theorem fb_10_11 : FB 10 RX12 TX12 62 tyX12 11 true "rustOf" "[I" true (.array .int) := ⟨cb_10, by decide, rfl, rfl, rfl⟩
theorem fb_10_12 : FB 10 RX12 TX12 62 tyX12 12 false "balls" "I" false .int := ⟨cb_10, by decide, rfl, rfl, rfl⟩
theorem fb_10_13 : FB 10 RX12 TX12 62 tyX12 13 true "hairs" "[I" true (.array .int) := ⟨cb_10, by decide, rfl, rfl, rfl⟩
theorem fb_10_14 : FB 10 RX12 TX12 62 tyX12 14 true "ballBarrel" "[I" true (.array .int) := ⟨cb_10, by decide, rfl, rfl, rfl⟩
theorem fb_10_15 : FB 10 RX12 TX12 62 tyX12 15 true "ballShot" "[I" true (.array .int) := ⟨cb_10, by decide, rfl, rfl, rfl⟩
theorem fb_10_16 : FB 10 RX12 TX12 62 tyX12 16 true "ballSoft" "[I" true (.array .int) := ⟨cb_10, by decide, rfl, rfl, rfl⟩
theorem fb_10_17 : FB 10 RX12 TX12 62 tyX12 17 false "version" "I" false .int := ⟨cb_10, by decide, rfl, rfl, rfl⟩
theorem fb_10_18 : FB 10 RX12 TX12 62 tyX12 18 true "tape" "[I" true (.array .int) := ⟨cb_10, by decide, rfl, rfl, rfl⟩
theorem fb_10_19 : FB 10 RX12 TX12 62 tyX12 19 false "taped" "I" false .int := ⟨cb_10, by decide, rfl, rfl, rfl⟩
theorem fb_10_20 : FB 10 RX12 TX12 62 tyX12 20 false "place" "I" false .int := ⟨cb_10, by decide, rfl, rfl, rfl⟩
theorem fb_10_21 : FB 10 RX12 TX12 62 tyX12 21 false "from" "I" false .int := ⟨cb_10, by decide, rfl, rfl, rfl⟩
theorem fb_10_22 : FB 10 RX12 TX12 62 tyX12 22 false "token" "I" false .int := ⟨cb_10, by decide, rfl, rfl, rfl⟩
theorem fb_10_23 : FB 10 RX12 TX12 62 tyX12 23 false "value" "I" false .int := ⟨cb_10, by decide, rfl, rfl, rfl⟩
theorem fb_10_24 : FB 10 RX12 TX12 62 tyX12 24 true "words" "[I" true (.array .int) := ⟨cb_10, by decide, rfl, rfl, rfl⟩
theorem fb_10_25 : FB 10 RX12 TX12 62 tyX12 25 true "lineMany" "[I" true (.array .int) := ⟨cb_10, by decide, rfl, rfl, rfl⟩
theorem fb_10_26 : FB 10 RX12 TX12 62 tyX12 26 true "lineSort" "[I" true (.array .int) := ⟨cb_10, by decide, rfl, rfl, rfl⟩
theorem fb_10_27 : FB 10 RX12 TX12 62 tyX12 27 true "lineFrom" "[I" true (.array .int) := ⟨cb_10, by decide, rfl, rfl, rfl⟩
theorem fb_10_28 : FB 10 RX12 TX12 62 tyX12 28 true "lineSum" "[I" true (.array .int) := ⟨cb_10, by decide, rfl, rfl, rfl⟩
theorem fb_10_29 : FB 10 RX12 TX12 62 tyX12 29 true "lineTo" "[I" true (.array .int) := ⟨cb_10, by decide, rfl, rfl, rfl⟩
theorem fb_10_30 : FB 10 RX12 TX12 62 tyX12 30 true "op" "[I" true (.array .int) := ⟨cb_10, by decide, rfl, rfl, rfl⟩
theorem fb_10_31 : FB 10 RX12 TX12 62 tyX12 31 true "arg" "[I" true (.array .int) := ⟨cb_10, by decide, rfl, rfl, rfl⟩
theorem fb_10_32 : FB 10 RX12 TX12 62 tyX12 32 false "isLaws" "Z" false .boolean := ⟨cb_10, by decide, rfl, rfl, rfl⟩
theorem fb_10_33 : FB 10 RX12 TX12 62 tyX12 33 false "many" "I" false .int := ⟨cb_10, by decide, rfl, rfl, rfl⟩
theorem fb_10_34 : FB 10 RX12 TX12 62 tyX12 34 false "open" "I" false .int := ⟨cb_10, by decide, rfl, rfl, rfl⟩
theorem fb_10_35 : FB 10 RX12 TX12 62 tyX12 35 true "pending" "[I" true (.array .int) := ⟨cb_10, by decide, rfl, rfl, rfl⟩
theorem fb_10_36 : FB 10 RX12 TX12 62 tyX12 36 false "pendings" "I" false .int := ⟨cb_10, by decide, rfl, rfl, rfl⟩
theorem fb_10_37 : FB 10 RX12 TX12 62 tyX12 37 false "readFault" "I" false .int := ⟨cb_10, by decide, rfl, rfl, rfl⟩
theorem fb_10_38 : FB 10 RX12 TX12 62 tyX12 38 false "readPlace" "I" false .int := ⟨cb_10, by decide, rfl, rfl, rfl⟩
theorem fb_10_39 : FB 10 RX12 TX12 62 tyX12 39 false "faultKind" "I" false .int := ⟨cb_10, by decide, rfl, rfl, rfl⟩
theorem fb_10_40 : FB 10 RX12 TX12 62 tyX12 40 false "faultPlace" "I" false .int := ⟨cb_10, by decide, rfl, rfl, rfl⟩
theorem fb_10_41 : FB 10 RX12 TX12 62 tyX12 41 true "asked" "[I" true (.array .int) := ⟨cb_10, by decide, rfl, rfl, rfl⟩
theorem fb_10_42 : FB 10 RX12 TX12 62 tyX12 42 true "stack" "[I" true (.array .int) := ⟨cb_10, by decide, rfl, rfl, rfl⟩
theorem fb_10_43 : FB 10 RX12 TX12 62 tyX12 43 false "state" "I" false .int := ⟨cb_10, by decide, rfl, rfl, rfl⟩
theorem fb_10_44 : FB 10 RX12 TX12 62 tyX12 44 true "next" "[I" true (.array .int) := ⟨cb_10, by decide, rfl, rfl, rfl⟩
theorem fb_10_45 : FB 10 RX12 TX12 62 tyX12 45 false "lookers" "I" false .int := ⟨cb_10, by decide, rfl, rfl, rfl⟩
theorem fb_10_46 : FB 10 RX12 TX12 62 tyX12 46 true "marginOf" "[I" true (.array .int) := ⟨cb_10, by decide, rfl, rfl, rfl⟩
theorem fb_10_47 : FB 10 RX12 TX12 62 tyX12 47 true "most" "[I" true (.array .int) := ⟨cb_10, by decide, rfl, rfl, rfl⟩
theorem fb_10_48 : FB 10 RX12 TX12 62 tyX12 48 true "then" "[I" true (.array .int) := ⟨cb_10, by decide, rfl, rfl, rfl⟩
theorem fb_10_49 : FB 10 RX12 TX12 62 tyX12 49 false "keptVersion" "I" false .int := ⟨cb_10, by decide, rfl, rfl, rfl⟩
theorem fb_10_50 : FB 10 RX12 TX12 62 tyX12 50 true "keptSays" "[I" true (.array .int) := ⟨cb_10, by decide, rfl, rfl, rfl⟩
theorem fb_10_51 : FB 10 RX12 TX12 62 tyX12 51 true "keptLong" "[I" true (.array .int) := ⟨cb_10, by decide, rfl, rfl, rfl⟩
theorem fb_10_52 : FB 10 RX12 TX12 62 tyX12 52 true "likeness" "[I" true (.array .int) := ⟨cb_10, by decide, rfl, rfl, rfl⟩
theorem fb_10_53 : FB 10 RX12 TX12 62 tyX12 53 false "pairs" "I" false .int := ⟨cb_10, by decide, rfl, rfl, rfl⟩
theorem fb_10_54 : FB 10 RX12 TX12 62 tyX12 54 true "pairA" "[I" true (.array .int) := ⟨cb_10, by decide, rfl, rfl, rfl⟩
theorem fb_10_55 : FB 10 RX12 TX12 62 tyX12 55 true "pairB" "[I" true (.array .int) := ⟨cb_10, by decide, rfl, rfl, rfl⟩
theorem fb_10_56 : FB 10 RX12 TX12 62 tyX12 56 true "hoursOf" "[I" true (.array .int) := ⟨cb_10, by decide, rfl, rfl, rfl⟩
theorem fb_10_57 : FB 10 RX12 TX12 62 tyX12 57 true "wrongOf" "[I" true (.array .int) := ⟨cb_10, by decide, rfl, rfl, rfl⟩
theorem fb_10_58 : FB 10 RX12 TX12 62 tyX12 58 true "sceneBalls" "[J" true (.array .long) := ⟨cb_10, by decide, rfl, rfl, rfl⟩
theorem fb_10_59 : FB 10 RX12 TX12 62 tyX12 59 true "groupOf" "[I" true (.array .int) := ⟨cb_10, by decide, rfl, rfl, rfl⟩
theorem fb_10_60 : FB 10 RX12 TX12 62 tyX12 60 false "weakest" "I" false .int := ⟨cb_10, by decide, rfl, rfl, rfl⟩
theorem fb_10_61 : FB 10 RX12 TX12 62 tyX12 61 false "weakestLong" "I" false .int := ⟨cb_10, by decide, rfl, rfl, rfl⟩
theorem mk_m_RX0_3 : Cond.methodLink RX0 3 objectInit ∈ lw_ok := ok_of (List.mem_append_right _ (List.mem_of_getElem? (i := 357) (by decide +kernel))) (by decide +kernel)
theorem mk_oi_i : Cond.instanceMethod objectInit ∈ lw_ok := ok_of (List.mem_append_right _ (List.mem_of_getElem? (i := 29) (by decide +kernel))) (by decide +kernel)
theorem mk_oi_c : Cond.code objectInit ⟨#[0xb1]⟩ 1 none ∈ lw_ok := ok_of (List.mem_append_right _ (List.mem_of_getElem? (i := 30) (by decide +kernel))) (by decide +kernel)
theorem mk_f_RX0_9 : Cond.fieldLink RX0 9 RX0 "number" "I" ∈ lw_ok := ok_of (List.mem_append_right _ (List.mem_of_getElem? (i := 360) (by decide +kernel))) (by decide +kernel)
theorem mk_f_RX0_15 : Cond.fieldLink RX0 15 RX0 "gun" "LOneBarrel$Barrel;" ∈ lw_ok := ok_of (List.mem_append_right _ (List.mem_of_getElem? (i := 363) (by decide +kernel))) (by decide +kernel)
theorem mk_f_RX0_19 : Cond.fieldLink RX0 19 RX1 "shots" "I" ∈ lw_ok := ok_of (List.mem_append_right _ (List.mem_of_getElem? (i := 285) (by decide +kernel))) (by decide +kernel)
theorem mk_f_RX0_24 : Cond.fieldLink RX0 24 RX0 "nth" "I" ∈ lw_ok := ok_of (List.mem_append_right _ (List.mem_of_getElem? (i := 365) (by decide +kernel))) (by decide +kernel)
theorem mk_f_RX0_27 : Cond.fieldLink RX0 27 RX0 "softness" "I" ∈ lw_ok := ok_of (List.mem_append_right _ (List.mem_of_getElem? (i := 367) (by decide +kernel))) (by decide +kernel)
theorem mk_f_RX0_30 : Cond.fieldLink RX0 30 RX1 "row" "[I" ∈ lw_ok := ok_of (List.mem_append_right _ (List.mem_of_getElem? (i := 281) (by decide +kernel))) (by decide +kernel)
theorem mk_m_RX0_34 : Cond.methodLink RX0 34 ⟨"[I", "clone", "()Ljava/lang/Object;"⟩ ∈ lw_ok := ok_of (List.mem_append_right _ (List.mem_of_getElem? (i := 358) (by decide +kernel))) (by decide +kernel)
theorem mk_c_RX0_35 : Cond.classLink RX0 35 "[I" ∈ lw_ok := ok_of (List.mem_append_right _ (List.mem_of_getElem? (i := 359) (by decide +kernel))) (by decide +kernel)
theorem mk_f_RX0_39 : Cond.fieldLink RX0 39 RX0 "row" "[I" ∈ lw_ok := ok_of (List.mem_append_right _ (List.mem_of_getElem? (i := 369) (by decide +kernel))) (by decide +kernel)
theorem mk_arc_int : Cond.arrayClass .int ∈ lw_ok := ok_of (List.mem_append_right _ (List.mem_of_getElem? (i := 68) (by decide +kernel))) (by decide +kernel)
theorem mk_m_RX1_1 : Cond.methodLink RX1 1 objectInit ∈ lw_ok := ok_of (List.mem_append_right _ (List.mem_of_getElem? (i := 266) (by decide +kernel))) (by decide +kernel)
theorem mk_f_RX1_7 : Cond.fieldLink RX1 7 RX1 "number" "I" ∈ lw_ok := ok_of (List.mem_append_right _ (List.mem_of_getElem? (i := 274) (by decide +kernel))) (by decide +kernel)
theorem mk_f_RX1_13 : Cond.fieldLink RX1 13 RX1 "cutter" "I" ∈ lw_ok := ok_of (List.mem_append_right _ (List.mem_of_getElem? (i := 276) (by decide +kernel))) (by decide +kernel)
theorem mk_f_RX1_16 : Cond.fieldLink RX1 16 RX9 "cuts" "I" ∈ lw_ok := ok_of (List.mem_append_right _ (List.mem_of_getElem? (i := 235) (by decide +kernel))) (by decide +kernel)
theorem mk_f_RX1_21 : Cond.fieldLink RX1 21 RX1 "nth" "I" ∈ lw_ok := ok_of (List.mem_append_right _ (List.mem_of_getElem? (i := 278) (by decide +kernel))) (by decide +kernel)
theorem mk_f_RX1_24 : Cond.fieldLink RX1 24 RX9 "row" "[I" ∈ lw_ok := ok_of (List.mem_append_right _ (List.mem_of_getElem? (i := 230) (by decide +kernel))) (by decide +kernel)
theorem mk_m_RX1_28 : Cond.methodLink RX1 28 ⟨"[I", "clone", "()Ljava/lang/Object;"⟩ ∈ lw_ok := ok_of (List.mem_append_right _ (List.mem_of_getElem? (i := 267) (by decide +kernel))) (by decide +kernel)
theorem mk_c_RX1_29 : Cond.classLink RX1 29 "[I" ∈ lw_ok := ok_of (List.mem_append_right _ (List.mem_of_getElem? (i := 273) (by decide +kernel))) (by decide +kernel)
theorem mk_f_RX1_33 : Cond.fieldLink RX1 33 RX1 "row" "[I" ∈ lw_ok := ok_of (List.mem_append_right _ (List.mem_of_getElem? (i := 280) (by decide +kernel))) (by decide +kernel)
theorem mk_f_RX1_34 : Cond.fieldLink RX1 34 RX9 "state" "I" ∈ lw_ok := ok_of (List.mem_append_right _ (List.mem_of_getElem? (i := 233) (by decide +kernel))) (by decide +kernel)
theorem mk_f_RX1_37 : Cond.fieldLink RX1 37 RX1 "state" "I" ∈ lw_ok := ok_of (List.mem_append_right _ (List.mem_of_getElem? (i := 283) (by decide +kernel))) (by decide +kernel)
theorem mk_code_X2_many : Cond.code yX2_many cX2_many 1 (some .int) ∈ lw_ok := ok_of (List.mem_append_right _ (List.mem_of_getElem? (i := 728) (by decide +kernel))) (by decide +kernel)
theorem mk_m_RX2_9 : Cond.methodLink RX2 9 yX2_many ∈ lw_ok := ok_of (List.mem_append_right _ (List.mem_of_getElem? (i := 805) (by decide +kernel))) (by decide +kernel)
theorem mk_st_X2_many : Cond.static yX2_many ∈ lw_ok := ok_of (List.mem_append_right _ (List.mem_of_getElem? (i := 727) (by decide +kernel))) (by decide +kernel)
theorem mk_ini_OneBarrel_Kept : Cond.initialized RX2 ∈ lw_ok := ok_of (List.mem_append_right _ (List.mem_of_getElem? (i := 21) (by decide +kernel))) (by decide +kernel)
theorem mk_code_X2_longest : Cond.code yX2_longest cX2_longest 1 (some .int) ∈ lw_ok := ok_of (List.mem_append_right _ (List.mem_of_getElem? (i := 734) (by decide +kernel))) (by decide +kernel)
theorem mk_m_RX2_13 : Cond.methodLink RX2 13 yX2_longest ∈ lw_ok := ok_of (List.mem_append_right _ (List.mem_of_getElem? (i := 806) (by decide +kernel))) (by decide +kernel)
theorem mk_st_X2_longest : Cond.static yX2_longest ∈ lw_ok := ok_of (List.mem_append_right _ (List.mem_of_getElem? (i := 733) (by decide +kernel))) (by decide +kernel)
theorem mk_m_RX3_3 : Cond.methodLink RX3 3 objectInit ∈ lw_ok := ok_of (List.mem_append_right _ (List.mem_of_getElem? (i := 684) (by decide +kernel))) (by decide +kernel)
theorem mk_ins_OneBarrel_Text : Cond.instantiable RX7 9 ∈ lw_ok := ok_of (List.mem_append_right _ (List.mem_of_getElem? (i := 76) (by decide +kernel))) (by decide +kernel)
theorem mk_c_RX3_9 : Cond.classLink RX3 9 RX7 ∈ lw_ok := ok_of (List.mem_append_right _ (List.mem_of_getElem? (i := 685) (by decide +kernel))) (by decide +kernel)
theorem mk_ini_OneBarrel_Text : Cond.initialized RX7 ∈ lw_ok := ok_of (List.mem_append_right _ (List.mem_of_getElem? (i := 4) (by decide +kernel))) (by decide +kernel)
theorem mk_f_RX3_18 : Cond.fieldLink RX3 18 RX3 "kept" "[I" ∈ lw_ok := ok_of (List.mem_append_right _ (List.mem_of_getElem? (i := 691) (by decide +kernel))) (by decide +kernel)
theorem mk_k_RX3_28 : Cond.constant RX3 28 (33554431 : Int32) ∈ lw_ok := ok_of (List.mem_append_right _ (List.mem_of_getElem? (i := 671) (by decide +kernel))) (by decide +kernel)
theorem mk_f_RX3_29 : Cond.fieldLink RX3 29 RX0 "number" "I" ∈ lw_ok := ok_of (List.mem_append_right _ (List.mem_of_getElem? (i := 361) (by decide +kernel))) (by decide +kernel)
theorem mk_k_RX3_34 : Cond.constant RX3 34 (131072 : Int32) ∈ lw_ok := ok_of (List.mem_append_right _ (List.mem_of_getElem? (i := 707) (by decide +kernel))) (by decide +kernel)
theorem mk_f_RX3_35 : Cond.fieldLink RX3 35 RX0 "row" "[I" ∈ lw_ok := ok_of (List.mem_append_right _ (List.mem_of_getElem? (i := 370) (by decide +kernel))) (by decide +kernel)
theorem mk_f_RX3_22 : Cond.fieldLink RX3 22 RX3 "margin" "I" ∈ lw_ok := ok_of (List.mem_append_right _ (List.mem_of_getElem? (i := 687) (by decide +kernel))) (by decide +kernel)
theorem mk_k_RX3_44 : Cond.constant RX3 44 (16777216 : Int32) ∈ lw_ok := ok_of (List.mem_append_right _ (List.mem_of_getElem? (i := 739) (by decide +kernel))) (by decide +kernel)
theorem mk_m_RX4_1 : Cond.methodLink RX4 1 objectInit ∈ lw_ok := ok_of (List.mem_append_right _ (List.mem_of_getElem? (i := 818) (by decide +kernel))) (by decide +kernel)
theorem mk_f_RX4_7 : Cond.fieldLink RX4 7 RX4 "first" "LOneBarrel$Ball;" ∈ lw_ok := ok_of (List.mem_append_right _ (List.mem_of_getElem? (i := 819) (by decide +kernel))) (by decide +kernel)
theorem mk_f_RX4_13 : Cond.fieldLink RX4 13 RX4 "second" "LOneBarrel$Ball;" ∈ lw_ok := ok_of (List.mem_append_right _ (List.mem_of_getElem? (i := 821) (by decide +kernel))) (by decide +kernel)
theorem mk_f_RX4_16 : Cond.fieldLink RX4 16 RX4 "hours" "I" ∈ lw_ok := ok_of (List.mem_append_right _ (List.mem_of_getElem? (i := 823) (by decide +kernel))) (by decide +kernel)
theorem mk_m_RX5_3 : Cond.methodLink RX5 3 objectInit ∈ lw_ok := ok_of (List.mem_append_right _ (List.mem_of_getElem? (i := 74) (by decide +kernel))) (by decide +kernel)
theorem mk_f_RX5_9 : Cond.fieldLink RX5 9 RX5 "faultPlace" "I" ∈ lw_ok := ok_of (List.mem_append_right _ (List.mem_of_getElem? (i := 115) (by decide +kernel))) (by decide +kernel)
theorem mk_c_RX5_15 : Cond.classLink RX5 15 RX7 ∈ lw_ok := ok_of (List.mem_append_right _ (List.mem_of_getElem? (i := 75) (by decide +kernel))) (by decide +kernel)
theorem mk_f_RX5_26 : Cond.fieldLink RX5 26 RX5 "isLaws" "Z" ∈ lw_ok := ok_of (List.mem_append_right _ (List.mem_of_getElem? (i := 119) (by decide +kernel))) (by decide +kernel)
theorem mk_f_RX5_30 : Cond.fieldLink RX5 30 RX5 "next" "I" ∈ lw_ok := ok_of (List.mem_append_right _ (List.mem_of_getElem? (i := 120) (by decide +kernel))) (by decide +kernel)
theorem mk_f_RX5_33 : Cond.fieldLink RX5 33 RX5 "fault" "I" ∈ lw_ok := ok_of (List.mem_append_right _ (List.mem_of_getElem? (i := 113) (by decide +kernel))) (by decide +kernel)
theorem mk_f_RX5_22 : Cond.fieldLink RX5 22 RX5 "tokens" "LOneBarrel$Tokens;" ∈ lw_ok := ok_of (List.mem_append_right _ (List.mem_of_getElem? (i := 117) (by decide +kernel))) (by decide +kernel)
theorem mk_f_RX5_51 : Cond.fieldLink RX5 51 RX8 "length" "I" ∈ lw_ok := ok_of (List.mem_append_right _ (List.mem_of_getElem? (i := 49) (by decide +kernel))) (by decide +kernel)
theorem mk_f_RX5_18 : Cond.fieldLink RX5 18 RX5 "text" "LOneBarrel$Text;" ∈ lw_ok := ok_of (List.mem_append_right _ (List.mem_of_getElem? (i := 118) (by decide +kernel))) (by decide +kernel)
theorem mk_f_RX5_54 : Cond.fieldLink RX5 54 RX8 "kinds" "[I" ∈ lw_ok := ok_of (List.mem_append_right _ (List.mem_of_getElem? (i := 52) (by decide +kernel))) (by decide +kernel)
theorem mk_f_RX5_58 : Cond.fieldLink RX5 58 RX8 "places" "[I" ∈ lw_ok := ok_of (List.mem_append_right _ (List.mem_of_getElem? (i := 54) (by decide +kernel))) (by decide +kernel)
theorem mk_code_X5_kind : Cond.code yX5_kind cX5_kind 1 (some .int) ∈ lw_ok := ok_of (List.mem_append_right _ (List.mem_of_getElem? (i := 588) (by decide +kernel))) (by decide +kernel)
theorem mk_sel_X5_kind : Cond.selects RX5 yX5_kind yX5_kind ∈ lw_ok := ok_of (List.mem_append_left _ (List.mem_of_getElem? (i := 13) (by decide +kernel))) (by decide +kernel)
theorem mk_m_RX5_44 : Cond.methodLink RX5 44 yX5_kind ∈ lw_ok := ok_of (List.mem_append_right _ (List.mem_of_getElem? (i := 585) (by decide +kernel))) (by decide +kernel)
theorem mk_im_X5_kind : Cond.instanceMethod yX5_kind ∈ lw_ok := ok_of (List.mem_append_right _ (List.mem_of_getElem? (i := 587) (by decide +kernel))) (by decide +kernel)
theorem mk_ini_OneBarrel_Reader : Cond.initialized RX5 ∈ lw_ok := ok_of (List.mem_append_right _ (List.mem_of_getElem? (i := 3) (by decide +kernel))) (by decide +kernel)
theorem mk_code_X5_refuse : Cond.code yX5_refuse cX5_refuse 2 none ∈ lw_ok := ok_of (List.mem_append_right _ (List.mem_of_getElem? (i := 600) (by decide +kernel))) (by decide +kernel)
theorem mk_sel_X5_refuse : Cond.selects RX5 yX5_refuse yX5_refuse ∈ lw_ok := ok_of (List.mem_append_left _ (List.mem_of_getElem? (i := 16) (by decide +kernel))) (by decide +kernel)
theorem mk_m_RX5_61 : Cond.methodLink RX5 61 yX5_refuse ∈ lw_ok := ok_of (List.mem_append_right _ (List.mem_of_getElem? (i := 597) (by decide +kernel))) (by decide +kernel)
theorem mk_im_X5_refuse : Cond.instanceMethod yX5_refuse ∈ lw_ok := ok_of (List.mem_append_right _ (List.mem_of_getElem? (i := 599) (by decide +kernel))) (by decide +kernel)
theorem mk_code_X5_isHead : Cond.code yX5_isHead cX5_isHead 2 (some .boolean) ∈ lw_ok := ok_of (List.mem_append_right _ (List.mem_of_getElem? (i := 596) (by decide +kernel))) (by decide +kernel)
theorem mk_sel_X5_isHead : Cond.selects RX5 yX5_isHead yX5_isHead ∈ lw_ok := ok_of (List.mem_append_left _ (List.mem_of_getElem? (i := 15) (by decide +kernel))) (by decide +kernel)
theorem mk_m_RX5_65 : Cond.methodLink RX5 65 yX5_isHead ∈ lw_ok := ok_of (List.mem_append_right _ (List.mem_of_getElem? (i := 593) (by decide +kernel))) (by decide +kernel)
theorem mk_im_X5_isHead : Cond.instanceMethod yX5_isHead ∈ lw_ok := ok_of (List.mem_append_right _ (List.mem_of_getElem? (i := 595) (by decide +kernel))) (by decide +kernel)
theorem mk_code_X5_readClaim : Cond.code yX5_readClaim cX5_readClaim 4 none ∈ lw_ok := ok_of (List.mem_append_right _ (List.mem_of_getElem? (i := 621) (by decide +kernel))) (by decide +kernel)
theorem mk_sel_X5_readClaim : Cond.selects RX5 yX5_readClaim yX5_readClaim ∈ lw_ok := ok_of (List.mem_append_left _ (List.mem_of_getElem? (i := 19) (by decide +kernel))) (by decide +kernel)
theorem mk_m_RX5_97 : Cond.methodLink RX5 97 yX5_readClaim ∈ lw_ok := ok_of (List.mem_append_right _ (List.mem_of_getElem? (i := 618) (by decide +kernel))) (by decide +kernel)
theorem mk_im_X5_readClaim : Cond.instanceMethod yX5_readClaim ∈ lw_ok := ok_of (List.mem_append_right _ (List.mem_of_getElem? (i := 620) (by decide +kernel))) (by decide +kernel)
theorem mk_code_X6_runs : Cond.code yX6_runs cX6_runs 8 (some .int) ∈ lw_ok := ok_of (List.mem_append_right _ (List.mem_of_getElem? (i := 713) (by decide +kernel))) (by decide +kernel)
theorem mk_m_RX6_9 : Cond.methodLink RX6 9 yX6_runs ∈ lw_ok := ok_of (List.mem_append_right _ (List.mem_of_getElem? (i := 711) (by decide +kernel))) (by decide +kernel)
theorem mk_st_X6_runs : Cond.static yX6_runs ∈ lw_ok := ok_of (List.mem_append_right _ (List.mem_of_getElem? (i := 712) (by decide +kernel))) (by decide +kernel)
theorem mk_ini_OneBarrel_Slides : Cond.initialized RX6 ∈ lw_ok := ok_of (List.mem_append_right _ (List.mem_of_getElem? (i := 19) (by decide +kernel))) (by decide +kernel)
theorem mk_f_RX6_30 : Cond.fieldLink RX6 30 RX10 "most" "[I" ∈ lw_ok := ok_of (List.mem_append_right _ (List.mem_of_getElem? (i := 150) (by decide +kernel))) (by decide +kernel)
theorem mk_m_RX6_49 : Cond.methodLink RX6 49 Lib.Math.max.name ∈ lw_ok := ok_of (List.mem_append_right _ (List.mem_of_getElem? (i := 747) (by decide +kernel))) (by decide +kernel)
theorem mk_math_s_max : Cond.static Lib.Math.max.name ∈ lw_ok := ok_of (List.mem_append_right _ (List.mem_of_getElem? (i := 339) (by decide +kernel))) (by decide +kernel)
theorem mk_ini_math : Cond.initialized "java/lang/Math" ∈ lw_ok := ok_of (List.mem_append_right _ (List.mem_of_getElem? (i := 11) (by decide +kernel))) (by decide +kernel)
theorem mk_math_c_max : Cond.code Lib.Math.max.name Lib.Math.max.code 2 (some .int) ∈ lw_ok := ok_of (List.mem_append_right _ (List.mem_of_getElem? (i := 340) (by decide +kernel))) (by decide +kernel)
theorem mk_m_RX7_3 : Cond.methodLink RX7 3 objectInit ∈ lw_ok := ok_of (List.mem_append_right _ (List.mem_of_getElem? (i := 80) (by decide +kernel))) (by decide +kernel)
theorem mk_f_RX7_9 : Cond.fieldLink RX7 9 RX7 "heads" "[I" ∈ lw_ok := ok_of (List.mem_append_right _ (List.mem_of_getElem? (i := 81) (by decide +kernel))) (by decide +kernel)
theorem mk_f_RX7_15 : Cond.fieldLink RX7 15 RX7 "starts" "[I" ∈ lw_ok := ok_of (List.mem_append_right _ (List.mem_of_getElem? (i := 83) (by decide +kernel))) (by decide +kernel)
theorem mk_f_RX7_18 : Cond.fieldLink RX7 18 RX7 "claims" "[I" ∈ lw_ok := ok_of (List.mem_append_right _ (List.mem_of_getElem? (i := 84) (by decide +kernel))) (by decide +kernel)
theorem mk_f_RX7_21 : Cond.fieldLink RX7 21 RX7 "finishes" "[I" ∈ lw_ok := ok_of (List.mem_append_right _ (List.mem_of_getElem? (i := 85) (by decide +kernel))) (by decide +kernel)
theorem mk_f_RX7_24 : Cond.fieldLink RX7 24 RX7 "steps" "[I" ∈ lw_ok := ok_of (List.mem_append_right _ (List.mem_of_getElem? (i := 86) (by decide +kernel))) (by decide +kernel)
theorem mk_f_RX7_27 : Cond.fieldLink RX7 27 RX7 "stack" "[I" ∈ lw_ok := ok_of (List.mem_append_right _ (List.mem_of_getElem? (i := 87) (by decide +kernel))) (by decide +kernel)
theorem mk_f_RX7_30 : Cond.fieldLink RX7 30 RX7 "size" "I" ∈ lw_ok := ok_of (List.mem_append_right _ (List.mem_of_getElem? (i := 88) (by decide +kernel))) (by decide +kernel)
theorem mk_f_RX7_34 : Cond.fieldLink RX7 34 RX7 "lines" "I" ∈ lw_ok := ok_of (List.mem_append_right _ (List.mem_of_getElem? (i := 89) (by decide +kernel))) (by decide +kernel)
theorem mk_f_RX7_37 : Cond.fieldLink RX7 37 RX7 "asksPieces" "Z" ∈ lw_ok := ok_of (List.mem_append_right _ (List.mem_of_getElem? (i := 92) (by decide +kernel))) (by decide +kernel)
theorem mk_code_X7_isFull : Cond.code yX7_isFull cX7_isFull 1 (some .boolean) ∈ lw_ok := ok_of (List.mem_append_right _ (List.mem_of_getElem? (i := 604) (by decide +kernel))) (by decide +kernel)
theorem mk_sel_X7_isFull : Cond.selects RX7 yX7_isFull yX7_isFull ∈ lw_ok := ok_of (List.mem_append_right _ (List.mem_of_getElem? (i := 603) (by decide +kernel))) (by decide +kernel)
theorem mk_m_RX7_41 : Cond.methodLink RX7 41 yX7_isFull ∈ lw_ok := ok_of (List.mem_append_right _ (List.mem_of_getElem? (i := 609) (by decide +kernel))) (by decide +kernel)
theorem mk_im_X7_isFull : Cond.instanceMethod yX7_isFull ∈ lw_ok := ok_of (List.mem_append_right _ (List.mem_of_getElem? (i := 602) (by decide +kernel))) (by decide +kernel)
theorem mk_f_RX7_49 : Cond.fieldLink RX7 49 RX10 "ahead" "[I" ∈ lw_ok := ok_of (List.mem_append_right _ (List.mem_of_getElem? (i := 146) (by decide +kernel))) (by decide +kernel)
theorem mk_m_RX7_54 : Cond.methodLink RX7 54 ⟨"java/lang/System", "arraycopy", "(Ljava/lang/Object;ILjava/lang/Object;II)V"⟩ ∈ lw_ok := ok_of (List.mem_append_right _ (List.mem_of_getElem? (i := 311) (by decide +kernel))) (by decide +kernel)
theorem mk_k_RX7_60 : Cond.constant RX7 60 (1664525 : Int32) ∈ lw_ok := ok_of (List.mem_append_right _ (List.mem_of_getElem? (i := 314) (by decide +kernel))) (by decide +kernel)
theorem mk_k_RX7_61 : Cond.constant RX7 61 (1013904223 : Int32) ∈ lw_ok := ok_of (List.mem_append_right _ (List.mem_of_getElem? (i := 315) (by decide +kernel))) (by decide +kernel)
theorem mk_m_RX8_3 : Cond.methodLink RX8 3 objectInit ∈ lw_ok := ok_of (List.mem_append_right _ (List.mem_of_getElem? (i := 46) (by decide +kernel))) (by decide +kernel)
theorem mk_f_RX8_9 : Cond.fieldLink RX8 9 RX8 "bytes" "[I" ∈ lw_ok := ok_of (List.mem_append_right _ (List.mem_of_getElem? (i := 47) (by decide +kernel))) (by decide +kernel)
theorem mk_f_RX8_15 : Cond.fieldLink RX8 15 RX8 "kinds" "[I" ∈ lw_ok := ok_of (List.mem_append_right _ (List.mem_of_getElem? (i := 51) (by decide +kernel))) (by decide +kernel)
theorem mk_f_RX8_18 : Cond.fieldLink RX8 18 RX8 "places" "[I" ∈ lw_ok := ok_of (List.mem_append_right _ (List.mem_of_getElem? (i := 53) (by decide +kernel))) (by decide +kernel)
theorem mk_f_RX8_21 : Cond.fieldLink RX8 21 RX8 "length" "I" ∈ lw_ok := ok_of (List.mem_append_right _ (List.mem_of_getElem? (i := 48) (by decide +kernel))) (by decide +kernel)
theorem mk_f_RX8_25 : Cond.fieldLink RX8 25 RX8 "count" "I" ∈ lw_ok := ok_of (List.mem_append_right _ (List.mem_of_getElem? (i := 55) (by decide +kernel))) (by decide +kernel)
theorem mk_code_X8_sortOf : Cond.code yX8_sortOf cX8_sortOf 1 (some .int) ∈ lw_ok := ok_of (List.mem_append_right _ (List.mem_of_getElem? (i := 455) (by decide +kernel))) (by decide +kernel)
theorem mk_m_RX8_36 : Cond.methodLink RX8 36 yX8_sortOf ∈ lw_ok := ok_of (List.mem_append_right _ (List.mem_of_getElem? (i := 453) (by decide +kernel))) (by decide +kernel)
theorem mk_st_X8_sortOf : Cond.static yX8_sortOf ∈ lw_ok := ok_of (List.mem_append_right _ (List.mem_of_getElem? (i := 454) (by decide +kernel))) (by decide +kernel)
theorem mk_ini_OneBarrel_Tokens : Cond.initialized RX8 ∈ lw_ok := ok_of (List.mem_append_right _ (List.mem_of_getElem? (i := 2) (by decide +kernel))) (by decide +kernel)
theorem mk_m_RX9_3 : Cond.methodLink RX9 3 objectInit ∈ lw_ok := ok_of (List.mem_append_right _ (List.mem_of_getElem? (i := 225) (by decide +kernel))) (by decide +kernel)
theorem mk_f_RX9_9 : Cond.fieldLink RX9 9 RX9 "row" "[I" ∈ lw_ok := ok_of (List.mem_append_right _ (List.mem_of_getElem? (i := 229) (by decide +kernel))) (by decide +kernel)
theorem mk_f_RX9_15 : Cond.fieldLink RX9 15 RX9 "state" "I" ∈ lw_ok := ok_of (List.mem_append_right _ (List.mem_of_getElem? (i := 232) (by decide +kernel))) (by decide +kernel)
theorem mk_m_RX10_3 : Cond.methodLink RX10 3 objectInit ∈ lw_ok := ok_of (List.mem_append_right _ (List.mem_of_getElem? (i := 141) (by decide +kernel))) (by decide +kernel)
theorem mk_f_RX10_9 : Cond.fieldLink RX10 9 RX10 "facts" "[I" ∈ lw_ok := ok_of (List.mem_append_right _ (List.mem_of_getElem? (i := 142) (by decide +kernel))) (by decide +kernel)
theorem mk_f_RX10_15 : Cond.fieldLink RX10 15 RX10 "ahead" "[I" ∈ lw_ok := ok_of (List.mem_append_right _ (List.mem_of_getElem? (i := 145) (by decide +kernel))) (by decide +kernel)
theorem mk_f_RX10_18 : Cond.fieldLink RX10 18 RX10 "sets" "[I" ∈ lw_ok := ok_of (List.mem_append_right _ (List.mem_of_getElem? (i := 147) (by decide +kernel))) (by decide +kernel)
theorem mk_f_RX10_21 : Cond.fieldLink RX10 21 RX10 "most" "[I" ∈ lw_ok := ok_of (List.mem_append_right _ (List.mem_of_getElem? (i := 149) (by decide +kernel))) (by decide +kernel)
theorem mk_f_RX10_24 : Cond.fieldLink RX10 24 RX10 "misled" "[I" ∈ lw_ok := ok_of (List.mem_append_right _ (List.mem_of_getElem? (i := 151) (by decide +kernel))) (by decide +kernel)
theorem mk_f_RX10_27 : Cond.fieldLink RX10 27 RX10 "groups" "[I" ∈ lw_ok := ok_of (List.mem_append_right _ (List.mem_of_getElem? (i := 153) (by decide +kernel))) (by decide +kernel)
theorem mk_m_RX10_30 : Cond.methodLink RX10 30 Lib.Math.min.name ∈ lw_ok := ok_of (List.mem_append_right _ (List.mem_of_getElem? (i := 897) (by decide +kernel))) (by decide +kernel)
theorem mk_math_s_min : Cond.static Lib.Math.min.name ∈ lw_ok := ok_of (List.mem_append_right _ (List.mem_of_getElem? (i := 336) (by decide +kernel))) (by decide +kernel)
theorem mk_math_c_min : Cond.code Lib.Math.min.name Lib.Math.min.code 2 (some .int) ∈ lw_ok := ok_of (List.mem_append_right _ (List.mem_of_getElem? (i := 337) (by decide +kernel))) (by decide +kernel)
theorem mk_m_RX11_3 : Cond.methodLink RX11 3 objectInit ∈ lw_ok := ok_of (List.mem_append_right _ (List.mem_of_getElem? (i := 28) (by decide +kernel))) (by decide +kernel)
theorem mk_c_RX11_9 : Cond.classLink RX11 9 RX9 ∈ lw_ok := ok_of (List.mem_append_right _ (List.mem_of_getElem? (i := 31) (by decide +kernel))) (by decide +kernel)
theorem mk_f_RX11_11 : Cond.fieldLink RX11 11 RX11 "tools" "[LOneBarrel$Tool;" ∈ lw_ok := ok_of (List.mem_append_right _ (List.mem_of_getElem? (i := 168) (by decide +kernel))) (by decide +kernel)
theorem mk_c_RX11_15 : Cond.classLink RX11 15 RX1 ∈ lw_ok := ok_of (List.mem_append_right _ (List.mem_of_getElem? (i := 33) (by decide +kernel))) (by decide +kernel)
theorem mk_f_RX11_17 : Cond.fieldLink RX11 17 RX11 "barrels" "[LOneBarrel$Barrel;" ∈ lw_ok := ok_of (List.mem_append_right _ (List.mem_of_getElem? (i := 170) (by decide +kernel))) (by decide +kernel)
theorem mk_c_RX11_21 : Cond.classLink RX11 21 RX0 ∈ lw_ok := ok_of (List.mem_append_right _ (List.mem_of_getElem? (i := 35) (by decide +kernel))) (by decide +kernel)
theorem mk_f_RX11_23 : Cond.fieldLink RX11 23 RX11 "balls" "[LOneBarrel$Ball;" ∈ lw_ok := ok_of (List.mem_append_right _ (List.mem_of_getElem? (i := 172) (by decide +kernel))) (by decide +kernel)
theorem mk_c_RX11_27 : Cond.classLink RX11 27 RX3 ∈ lw_ok := ok_of (List.mem_append_right _ (List.mem_of_getElem? (i := 37) (by decide +kernel))) (by decide +kernel)
theorem mk_f_RX11_29 : Cond.fieldLink RX11 29 RX11 "lookers" "[LOneBarrel$Looker;" ∈ lw_ok := ok_of (List.mem_append_right _ (List.mem_of_getElem? (i := 175) (by decide +kernel))) (by decide +kernel)
theorem mk_c_RX11_33 : Cond.classLink RX11 33 RX4 ∈ lw_ok := ok_of (List.mem_append_right _ (List.mem_of_getElem? (i := 39) (by decide +kernel))) (by decide +kernel)
theorem mk_f_RX11_35 : Cond.fieldLink RX11 35 RX11 "pairs" "[LOneBarrel$Pair;" ∈ lw_ok := ok_of (List.mem_append_right _ (List.mem_of_getElem? (i := 177) (by decide +kernel))) (by decide +kernel)
theorem mk_arc_long : Cond.arrayClass .long ∈ lw_ok := ok_of (List.mem_append_right _ (List.mem_of_getElem? (i := 67) (by decide +kernel))) (by decide +kernel)
theorem mk_f_RX11_39 : Cond.fieldLink RX11 39 RX11 "scenes" "[J" ∈ lw_ok := ok_of (List.mem_append_right _ (List.mem_of_getElem? (i := 179) (by decide +kernel))) (by decide +kernel)
theorem mk_ins_OneBarrel_Tokens : Cond.instantiable RX8 5 ∈ lw_ok := ok_of (List.mem_append_right _ (List.mem_of_getElem? (i := 42) (by decide +kernel))) (by decide +kernel)
theorem mk_c_RX11_43 : Cond.classLink RX11 43 RX8 ∈ lw_ok := ok_of (List.mem_append_right _ (List.mem_of_getElem? (i := 41) (by decide +kernel))) (by decide +kernel)
theorem mk_code_X8_init : Cond.code yX8_init cX8_init 1 none ∈ lw_ok := ok_of (List.mem_append_right _ (List.mem_of_getElem? (i := 45) (by decide +kernel))) (by decide +kernel)
theorem mk_im_X8_init : Cond.instanceMethod yX8_init ∈ lw_ok := ok_of (List.mem_append_right _ (List.mem_of_getElem? (i := 44) (by decide +kernel))) (by decide +kernel)
theorem mk_f_RX11_46 : Cond.fieldLink RX11 46 RX11 "tape" "LOneBarrel$Tokens;" ∈ lw_ok := ok_of (List.mem_append_right _ (List.mem_of_getElem? (i := 180) (by decide +kernel))) (by decide +kernel)
theorem mk_ins_OneBarrel_Reader : Cond.instantiable RX5 6 ∈ lw_ok := ok_of (List.mem_append_right _ (List.mem_of_getElem? (i := 70) (by decide +kernel))) (by decide +kernel)
theorem mk_c_RX11_50 : Cond.classLink RX11 50 RX5 ∈ lw_ok := ok_of (List.mem_append_right _ (List.mem_of_getElem? (i := 69) (by decide +kernel))) (by decide +kernel)
theorem mk_f_RX11_73 : Cond.fieldLink RX11 73 RX11 "toolCount" "I" ∈ lw_ok := ok_of (List.mem_append_right _ (List.mem_of_getElem? (i := 169) (by decide +kernel))) (by decide +kernel)
theorem mk_ins_OneBarrel_Tool : Cond.instantiable RX9 3 ∈ lw_ok := ok_of (List.mem_append_right _ (List.mem_of_getElem? (i := 221) (by decide +kernel))) (by decide +kernel)
theorem mk_ini_OneBarrel_Tool : Cond.initialized RX9 ∈ lw_ok := ok_of (List.mem_append_right _ (List.mem_of_getElem? (i := 7) (by decide +kernel))) (by decide +kernel)
theorem mk_f_RX11_122 : Cond.fieldLink RX11 122 RX11 "ballCount" "I" ∈ lw_ok := ok_of (List.mem_append_right _ (List.mem_of_getElem? (i := 173) (by decide +kernel))) (by decide +kernel)
theorem mk_ins_OneBarrel_Ball : Cond.instantiable RX0 5 ∈ lw_ok := ok_of (List.mem_append_right _ (List.mem_of_getElem? (i := 353) (by decide +kernel))) (by decide +kernel)
theorem mk_ini_OneBarrel_Ball : Cond.initialized RX0 ∈ lw_ok := ok_of (List.mem_append_right _ (List.mem_of_getElem? (i := 12) (by decide +kernel))) (by decide +kernel)
theorem mk_code_X0_init : Cond.code yX0_init cX0_init 4 none ∈ lw_ok := ok_of (List.mem_append_right _ (List.mem_of_getElem? (i := 356) (by decide +kernel))) (by decide +kernel)
theorem mk_im_X0_init : Cond.instanceMethod yX0_init ∈ lw_ok := ok_of (List.mem_append_right _ (List.mem_of_getElem? (i := 355) (by decide +kernel))) (by decide +kernel)
theorem mk_m_RX11_125 : Cond.methodLink RX11 125 yX0_init ∈ lw_ok := ok_of (List.mem_append_right _ (List.mem_of_getElem? (i := 354) (by decide +kernel))) (by decide +kernel)
theorem mk_f_RX11_137 : Cond.fieldLink RX11 137 RX11 "foundCount" "I" ∈ lw_ok := ok_of (List.mem_append_right _ (List.mem_of_getElem? (i := 174) (by decide +kernel))) (by decide +kernel)
theorem mk_f_RX11_163 : Cond.fieldLink RX11 163 RX8 "length" "I" ∈ lw_ok := ok_of (List.mem_append_right _ (List.mem_of_getElem? (i := 50) (by decide +kernel))) (by decide +kernel)
theorem mk_code_X8_put : Cond.code yX8_put cX8_put 3 none ∈ lw_ok := ok_of (List.mem_append_right _ (List.mem_of_getElem? (i := 432) (by decide +kernel))) (by decide +kernel)
theorem mk_sel_X8_put : Cond.selects RX8 yX8_put yX8_put ∈ lw_ok := ok_of (List.mem_append_right _ (List.mem_of_getElem? (i := 431) (by decide +kernel))) (by decide +kernel)
theorem mk_m_RX11_166 : Cond.methodLink RX11 166 yX8_put ∈ lw_ok := ok_of (List.mem_append_right _ (List.mem_of_getElem? (i := 429) (by decide +kernel))) (by decide +kernel)
theorem mk_im_X8_put : Cond.instanceMethod yX8_put ∈ lw_ok := ok_of (List.mem_append_right _ (List.mem_of_getElem? (i := 430) (by decide +kernel))) (by decide +kernel)
theorem mk_f_RX11_55 : Cond.fieldLink RX11 55 RX11 "reader" "LOneBarrel$Reader;" ∈ lw_ok := ok_of (List.mem_append_right _ (List.mem_of_getElem? (i := 181) (by decide +kernel))) (by decide +kernel)
theorem mk_f_RX11_192 : Cond.fieldLink RX11 192 RX5 "faultPlace" "I" ∈ lw_ok := ok_of (List.mem_append_right _ (List.mem_of_getElem? (i := 116) (by decide +kernel))) (by decide +kernel)
theorem mk_f_RX11_189 : Cond.fieldLink RX11 189 RX5 "fault" "I" ∈ lw_ok := ok_of (List.mem_append_right _ (List.mem_of_getElem? (i := 114) (by decide +kernel))) (by decide +kernel)
theorem mk_f_RX11_195 : Cond.fieldLink RX11 195 RX11 "lookerCount" "I" ∈ lw_ok := ok_of (List.mem_append_right _ (List.mem_of_getElem? (i := 176) (by decide +kernel))) (by decide +kernel)
theorem mk_ins_OneBarrel_Looker : Cond.instantiable RX3 3 ∈ lw_ok := ok_of (List.mem_append_right _ (List.mem_of_getElem? (i := 680) (by decide +kernel))) (by decide +kernel)
theorem mk_ini_OneBarrel_Looker : Cond.initialized RX3 ∈ lw_ok := ok_of (List.mem_append_right _ (List.mem_of_getElem? (i := 18) (by decide +kernel))) (by decide +kernel)
theorem mk_f_RX11_95 : Cond.fieldLink RX11 95 RX11 "barrelCount" "I" ∈ lw_ok := ok_of (List.mem_append_right _ (List.mem_of_getElem? (i := 171) (by decide +kernel))) (by decide +kernel)
theorem mk_f_RX11_258 : Cond.fieldLink RX11 258 RX11 "pairCount" "I" ∈ lw_ok := ok_of (List.mem_append_right _ (List.mem_of_getElem? (i := 178) (by decide +kernel))) (by decide +kernel)
theorem mk_f_RX11_62 : Cond.fieldLink RX11 62 RX11 "lawText" "LOneBarrel$Text;" ∈ lw_ok := ok_of (List.mem_append_right _ (List.mem_of_getElem? (i := 182) (by decide +kernel))) (by decide +kernel)
theorem mk_f_RX11_177 : Cond.fieldLink RX11 177 RX7 "lines" "I" ∈ lw_ok := ok_of (List.mem_append_right _ (List.mem_of_getElem? (i := 91) (by decide +kernel))) (by decide +kernel)
theorem mk_code_X11_ballAt : Cond.code yX11_ballAt cX11_ballAt 2 (some (.object "OneBarrel$Ball")) ∈ lw_ok := ok_of (List.mem_append_right _ (List.mem_of_getElem? (i := 394) (by decide +kernel))) (by decide +kernel)
theorem mk_sel_X11_ballAt : Cond.selects RX11 yX11_ballAt yX11_ballAt ∈ lw_ok := ok_of (List.mem_append_left _ (List.mem_of_getElem? (i := 4) (by decide +kernel))) (by decide +kernel)
theorem mk_m_RX11_140 : Cond.methodLink RX11 140 yX11_ballAt ∈ lw_ok := ok_of (List.mem_append_right _ (List.mem_of_getElem? (i := 391) (by decide +kernel))) (by decide +kernel)
theorem mk_im_X11_ballAt : Cond.instanceMethod yX11_ballAt ∈ lw_ok := ok_of (List.mem_append_right _ (List.mem_of_getElem? (i := 393) (by decide +kernel))) (by decide +kernel)
theorem mk_ini_OneBarrel : Cond.initialized RX11 ∈ lw_ok := ok_of (List.mem_append_right _ (List.mem_of_getElem? (i := 1) (by decide +kernel))) (by decide +kernel)
theorem mk_f_RX11_131 : Cond.fieldLink RX11 131 RX0 "row" "[I" ∈ lw_ok := ok_of (List.mem_append_right _ (List.mem_of_getElem? (i := 371) (by decide +kernel))) (by decide +kernel)
theorem mk_code_X11_barrelAt : Cond.code yX11_barrelAt cX11_barrelAt 2 (some (.object "OneBarrel$Barrel")) ∈ lw_ok := ok_of (List.mem_append_right _ (List.mem_of_getElem? (i := 348) (by decide +kernel))) (by decide +kernel)
theorem mk_sel_X11_barrelAt : Cond.selects RX11 yX11_barrelAt yX11_barrelAt ∈ lw_ok := ok_of (List.mem_append_left _ (List.mem_of_getElem? (i := 3) (by decide +kernel))) (by decide +kernel)
theorem mk_m_RX11_115 : Cond.methodLink RX11 115 yX11_barrelAt ∈ lw_ok := ok_of (List.mem_append_right _ (List.mem_of_getElem? (i := 345) (by decide +kernel))) (by decide +kernel)
theorem mk_im_X11_barrelAt : Cond.instanceMethod yX11_barrelAt ∈ lw_ok := ok_of (List.mem_append_right _ (List.mem_of_getElem? (i := 347) (by decide +kernel))) (by decide +kernel)
theorem mk_f_RX11_133 : Cond.fieldLink RX11 133 RX1 "row" "[I" ∈ lw_ok := ok_of (List.mem_append_right _ (List.mem_of_getElem? (i := 282) (by decide +kernel))) (by decide +kernel)
theorem mk_code_X11_toolAt : Cond.code yX11_toolAt cX11_toolAt 2 (some (.object "OneBarrel$Tool")) ∈ lw_ok := ok_of (List.mem_append_right _ (List.mem_of_getElem? (i := 251) (by decide +kernel))) (by decide +kernel)
theorem mk_sel_X11_toolAt : Cond.selects RX11 yX11_toolAt yX11_toolAt ∈ lw_ok := ok_of (List.mem_append_left _ (List.mem_of_getElem? (i := 0) (by decide +kernel))) (by decide +kernel)
theorem mk_m_RX11_80 : Cond.methodLink RX11 80 yX11_toolAt ∈ lw_ok := ok_of (List.mem_append_right _ (List.mem_of_getElem? (i := 248) (by decide +kernel))) (by decide +kernel)
theorem mk_im_X11_toolAt : Cond.instanceMethod yX11_toolAt ∈ lw_ok := ok_of (List.mem_append_right _ (List.mem_of_getElem? (i := 250) (by decide +kernel))) (by decide +kernel)
theorem mk_f_RX11_91 : Cond.fieldLink RX11 91 RX9 "row" "[I" ∈ lw_ok := ok_of (List.mem_append_right _ (List.mem_of_getElem? (i := 231) (by decide +kernel))) (by decide +kernel)
theorem mk_f_RX11_302 : Cond.fieldLink RX11 302 RX0 "gun" "LOneBarrel$Barrel;" ∈ lw_ok := ok_of (List.mem_append_right _ (List.mem_of_getElem? (i := 364) (by decide +kernel))) (by decide +kernel)
theorem mk_f_RX11_306 : Cond.fieldLink RX11 306 RX1 "number" "I" ∈ lw_ok := ok_of (List.mem_append_right _ (List.mem_of_getElem? (i := 275) (by decide +kernel))) (by decide +kernel)
theorem mk_f_RX11_244 : Cond.fieldLink RX11 244 RX0 "nth" "I" ∈ lw_ok := ok_of (List.mem_append_right _ (List.mem_of_getElem? (i := 366) (by decide +kernel))) (by decide +kernel)
theorem mk_f_RX11_307 : Cond.fieldLink RX11 307 RX0 "softness" "I" ∈ lw_ok := ok_of (List.mem_append_right _ (List.mem_of_getElem? (i := 368) (by decide +kernel))) (by decide +kernel)
theorem mk_code_X0_missing : Cond.code yX0_missing cX0_missing 3 (some .int) ∈ lw_ok := ok_of (List.mem_append_right _ (List.mem_of_getElem? (i := 421) (by decide +kernel))) (by decide +kernel)
theorem mk_sel_X0_missing : Cond.selects RX0 yX0_missing yX0_missing ∈ lw_ok := ok_of (List.mem_append_right _ (List.mem_of_getElem? (i := 420) (by decide +kernel))) (by decide +kernel)
theorem mk_m_RX11_219 : Cond.methodLink RX11 219 yX0_missing ∈ lw_ok := ok_of (List.mem_append_right _ (List.mem_of_getElem? (i := 418) (by decide +kernel))) (by decide +kernel)
theorem mk_im_X0_missing : Cond.instanceMethod yX0_missing ∈ lw_ok := ok_of (List.mem_append_right _ (List.mem_of_getElem? (i := 419) (by decide +kernel))) (by decide +kernel)
theorem mk_f_RX11_310 : Cond.fieldLink RX11 310 RX1 "cutter" "I" ∈ lw_ok := ok_of (List.mem_append_right _ (List.mem_of_getElem? (i := 277) (by decide +kernel))) (by decide +kernel)
theorem mk_f_RX11_313 : Cond.fieldLink RX11 313 RX1 "nth" "I" ∈ lw_ok := ok_of (List.mem_append_right _ (List.mem_of_getElem? (i := 279) (by decide +kernel))) (by decide +kernel)
theorem mk_f_RX11_128 : Cond.fieldLink RX11 128 RX1 "shots" "I" ∈ lw_ok := ok_of (List.mem_append_right _ (List.mem_of_getElem? (i := 286) (by decide +kernel))) (by decide +kernel)
theorem mk_f_RX11_119 : Cond.fieldLink RX11 119 RX1 "rustiness" "I" ∈ lw_ok := ok_of (List.mem_append_right _ (List.mem_of_getElem? (i := 287) (by decide +kernel))) (by decide +kernel)
theorem mk_f_RX11_134 : Cond.fieldLink RX11 134 RX0 "number" "I" ∈ lw_ok := ok_of (List.mem_append_right _ (List.mem_of_getElem? (i := 362) (by decide +kernel))) (by decide +kernel)
theorem mk_f_RX11_277 : Cond.fieldLink RX11 277 RX4 "first" "LOneBarrel$Ball;" ∈ lw_ok := ok_of (List.mem_append_right _ (List.mem_of_getElem? (i := 820) (by decide +kernel))) (by decide +kernel)
theorem mk_f_RX11_281 : Cond.fieldLink RX11 281 RX4 "second" "LOneBarrel$Ball;" ∈ lw_ok := ok_of (List.mem_append_right _ (List.mem_of_getElem? (i := 822) (by decide +kernel))) (by decide +kernel)
theorem mk_code_X11_truthOf : Cond.code yX11_truthOf cX11_truthOf 2 (some .int) ∈ lw_ok := ok_of (List.mem_append_right _ (List.mem_of_getElem? (i := 775) (by decide +kernel))) (by decide +kernel)
theorem mk_m_RX11_241 : Cond.methodLink RX11 241 yX11_truthOf ∈ lw_ok := ok_of (List.mem_append_right _ (List.mem_of_getElem? (i := 773) (by decide +kernel))) (by decide +kernel)
theorem mk_st_X11_truthOf : Cond.static yX11_truthOf ∈ lw_ok := ok_of (List.mem_append_right _ (List.mem_of_getElem? (i := 774) (by decide +kernel))) (by decide +kernel)
theorem mk_f_RX11_69 : Cond.fieldLink RX11 69 RX11 "work" "LOneBarrel$Work;" ∈ lw_ok := ok_of (List.mem_append_right _ (List.mem_of_getElem? (i := 183) (by decide +kernel))) (by decide +kernel)
theorem mk_code_X11_lookerAt : Cond.code yX11_lookerAt cX11_lookerAt 2 (some (.object "OneBarrel$Looker")) ∈ lw_ok := ok_of (List.mem_append_right _ (List.mem_of_getElem? (i := 398) (by decide +kernel))) (by decide +kernel)
theorem mk_sel_X11_lookerAt : Cond.selects RX11 yX11_lookerAt yX11_lookerAt ∈ lw_ok := ok_of (List.mem_append_left _ (List.mem_of_getElem? (i := 5) (by decide +kernel))) (by decide +kernel)
theorem mk_m_RX11_144 : Cond.methodLink RX11 144 yX11_lookerAt ∈ lw_ok := ok_of (List.mem_append_right _ (List.mem_of_getElem? (i := 395) (by decide +kernel))) (by decide +kernel)
theorem mk_im_X11_lookerAt : Cond.instanceMethod yX11_lookerAt ∈ lw_ok := ok_of (List.mem_append_right _ (List.mem_of_getElem? (i := 397) (by decide +kernel))) (by decide +kernel)
theorem mk_f_RX11_318 : Cond.fieldLink RX11 318 RX10 "misled" "[I" ∈ lw_ok := ok_of (List.mem_append_right _ (List.mem_of_getElem? (i := 152) (by decide +kernel))) (by decide +kernel)
theorem mk_f_RX11_327 : Cond.fieldLink RX11 327 RX4 "hours" "I" ∈ lw_ok := ok_of (List.mem_append_right _ (List.mem_of_getElem? (i := 824) (by decide +kernel))) (by decide +kernel)
theorem mk_code_X11_isOfScene : Cond.code yX11_isOfScene cX11_isOfScene 3 (some .boolean) ∈ lw_ok := ok_of (List.mem_append_right _ (List.mem_of_getElem? (i := 875) (by decide +kernel))) (by decide +kernel)
theorem mk_sel_X11_isOfScene : Cond.selects RX11 yX11_isOfScene yX11_isOfScene ∈ lw_ok := ok_of (List.mem_append_left _ (List.mem_of_getElem? (i := 33) (by decide +kernel))) (by decide +kernel)
theorem mk_m_RX11_284 : Cond.methodLink RX11 284 yX11_isOfScene ∈ lw_ok := ok_of (List.mem_append_right _ (List.mem_of_getElem? (i := 872) (by decide +kernel))) (by decide +kernel)
theorem mk_im_X11_isOfScene : Cond.instanceMethod yX11_isOfScene ∈ lw_ok := ok_of (List.mem_append_right _ (List.mem_of_getElem? (i := 874) (by decide +kernel))) (by decide +kernel)
theorem mk_f_RX11_299 : Cond.fieldLink RX11 299 RX10 "groups" "[I" ∈ lw_ok := ok_of (List.mem_append_right _ (List.mem_of_getElem? (i := 154) (by decide +kernel))) (by decide +kernel)
theorem mk_m_RX12_1 : Cond.methodLink RX12 1 objectInit ∈ lw_ok := ok_of (List.mem_append_right _ (List.mem_of_getElem? (i := 911) (by decide +kernel))) (by decide +kernel)
theorem mk_f_RX12_7 : Cond.fieldLink RX12 7 RX12 "edges" "[I" ∈ lw_ok := ok_of (List.mem_append_right _ (List.mem_of_getElem? (i := 914) (by decide +kernel))) (by decide +kernel)
theorem mk_f_RX12_13 : Cond.fieldLink RX12 13 RX12 "toolState" "[I" ∈ lw_ok := ok_of (List.mem_append_right _ (List.mem_of_getElem? (i := 915) (by decide +kernel))) (by decide +kernel)
theorem mk_f_RX12_16 : Cond.fieldLink RX12 16 RX12 "toolCut" "[I" ∈ lw_ok := ok_of (List.mem_append_right _ (List.mem_of_getElem? (i := 916) (by decide +kernel))) (by decide +kernel)
theorem mk_f_RX12_19 : Cond.fieldLink RX12 19 RX12 "bores" "[I" ∈ lw_ok := ok_of (List.mem_append_right _ (List.mem_of_getElem? (i := 918) (by decide +kernel))) (by decide +kernel)
theorem mk_f_RX12_22 : Cond.fieldLink RX12 22 RX12 "barrelState" "[I" ∈ lw_ok := ok_of (List.mem_append_right _ (List.mem_of_getElem? (i := 919) (by decide +kernel))) (by decide +kernel)
theorem mk_f_RX12_25 : Cond.fieldLink RX12 25 RX12 "barrelTool" "[I" ∈ lw_ok := ok_of (List.mem_append_right _ (List.mem_of_getElem? (i := 920) (by decide +kernel))) (by decide +kernel)
theorem mk_f_RX12_28 : Cond.fieldLink RX12 28 RX12 "barrelWhich" "[I" ∈ lw_ok := ok_of (List.mem_append_right _ (List.mem_of_getElem? (i := 921) (by decide +kernel))) (by decide +kernel)
theorem mk_f_RX12_31 : Cond.fieldLink RX12 31 RX12 "shots" "[I" ∈ lw_ok := ok_of (List.mem_append_right _ (List.mem_of_getElem? (i := 922) (by decide +kernel))) (by decide +kernel)
theorem mk_f_RX12_34 : Cond.fieldLink RX12 34 RX12 "rustOf" "[I" ∈ lw_ok := ok_of (List.mem_append_right _ (List.mem_of_getElem? (i := 923) (by decide +kernel))) (by decide +kernel)
theorem mk_f_RX12_37 : Cond.fieldLink RX12 37 RX12 "hairs" "[I" ∈ lw_ok := ok_of (List.mem_append_right _ (List.mem_of_getElem? (i := 925) (by decide +kernel))) (by decide +kernel)
theorem mk_f_RX12_40 : Cond.fieldLink RX12 40 RX12 "ballBarrel" "[I" ∈ lw_ok := ok_of (List.mem_append_right _ (List.mem_of_getElem? (i := 926) (by decide +kernel))) (by decide +kernel)
theorem mk_f_RX12_43 : Cond.fieldLink RX12 43 RX12 "ballShot" "[I" ∈ lw_ok := ok_of (List.mem_append_right _ (List.mem_of_getElem? (i := 927) (by decide +kernel))) (by decide +kernel)
theorem mk_f_RX12_46 : Cond.fieldLink RX12 46 RX12 "ballSoft" "[I" ∈ lw_ok := ok_of (List.mem_append_right _ (List.mem_of_getElem? (i := 928) (by decide +kernel))) (by decide +kernel)
theorem mk_f_RX12_49 : Cond.fieldLink RX12 49 RX12 "tape" "[I" ∈ lw_ok := ok_of (List.mem_append_right _ (List.mem_of_getElem? (i := 930) (by decide +kernel))) (by decide +kernel)
theorem mk_f_RX12_52 : Cond.fieldLink RX12 52 RX12 "words" "[I" ∈ lw_ok := ok_of (List.mem_append_right _ (List.mem_of_getElem? (i := 936) (by decide +kernel))) (by decide +kernel)
theorem mk_f_RX12_55 : Cond.fieldLink RX12 55 RX12 "lineMany" "[I" ∈ lw_ok := ok_of (List.mem_append_right _ (List.mem_of_getElem? (i := 937) (by decide +kernel))) (by decide +kernel)
theorem mk_f_RX12_58 : Cond.fieldLink RX12 58 RX12 "lineSort" "[I" ∈ lw_ok := ok_of (List.mem_append_right _ (List.mem_of_getElem? (i := 938) (by decide +kernel))) (by decide +kernel)
theorem mk_f_RX12_61 : Cond.fieldLink RX12 61 RX12 "lineFrom" "[I" ∈ lw_ok := ok_of (List.mem_append_right _ (List.mem_of_getElem? (i := 939) (by decide +kernel))) (by decide +kernel)
theorem mk_f_RX12_64 : Cond.fieldLink RX12 64 RX12 "lineSum" "[I" ∈ lw_ok := ok_of (List.mem_append_right _ (List.mem_of_getElem? (i := 940) (by decide +kernel))) (by decide +kernel)
theorem mk_f_RX12_67 : Cond.fieldLink RX12 67 RX12 "lineTo" "[I" ∈ lw_ok := ok_of (List.mem_append_right _ (List.mem_of_getElem? (i := 941) (by decide +kernel))) (by decide +kernel)
theorem mk_f_RX12_70 : Cond.fieldLink RX12 70 RX12 "op" "[I" ∈ lw_ok := ok_of (List.mem_append_right _ (List.mem_of_getElem? (i := 942) (by decide +kernel))) (by decide +kernel)
theorem mk_f_RX12_73 : Cond.fieldLink RX12 73 RX12 "arg" "[I" ∈ lw_ok := ok_of (List.mem_append_right _ (List.mem_of_getElem? (i := 943) (by decide +kernel))) (by decide +kernel)
theorem mk_f_RX12_76 : Cond.fieldLink RX12 76 RX12 "pending" "[I" ∈ lw_ok := ok_of (List.mem_append_right _ (List.mem_of_getElem? (i := 947) (by decide +kernel))) (by decide +kernel)
theorem mk_f_RX12_79 : Cond.fieldLink RX12 79 RX12 "faultPlace" "I" ∈ lw_ok := ok_of (List.mem_append_right _ (List.mem_of_getElem? (i := 952) (by decide +kernel))) (by decide +kernel)
theorem mk_f_RX12_83 : Cond.fieldLink RX12 83 RX12 "asked" "[I" ∈ lw_ok := ok_of (List.mem_append_right _ (List.mem_of_getElem? (i := 953) (by decide +kernel))) (by decide +kernel)
theorem mk_f_RX12_86 : Cond.fieldLink RX12 86 RX12 "stack" "[I" ∈ lw_ok := ok_of (List.mem_append_right _ (List.mem_of_getElem? (i := 954) (by decide +kernel))) (by decide +kernel)
theorem mk_f_RX12_89 : Cond.fieldLink RX12 89 RX12 "next" "[I" ∈ lw_ok := ok_of (List.mem_append_right _ (List.mem_of_getElem? (i := 956) (by decide +kernel))) (by decide +kernel)
theorem mk_f_RX12_92 : Cond.fieldLink RX12 92 RX12 "marginOf" "[I" ∈ lw_ok := ok_of (List.mem_append_right _ (List.mem_of_getElem? (i := 958) (by decide +kernel))) (by decide +kernel)
theorem mk_f_RX12_95 : Cond.fieldLink RX12 95 RX12 "most" "[I" ∈ lw_ok := ok_of (List.mem_append_right _ (List.mem_of_getElem? (i := 959) (by decide +kernel))) (by decide +kernel)
theorem mk_f_RX12_98 : Cond.fieldLink RX12 98 RX12 "then" "[I" ∈ lw_ok := ok_of (List.mem_append_right _ (List.mem_of_getElem? (i := 960) (by decide +kernel))) (by decide +kernel)
theorem mk_f_RX12_101 : Cond.fieldLink RX12 101 RX12 "keptVersion" "I" ∈ lw_ok := ok_of (List.mem_append_right _ (List.mem_of_getElem? (i := 961) (by decide +kernel))) (by decide +kernel)
theorem mk_f_RX12_104 : Cond.fieldLink RX12 104 RX12 "keptSays" "[I" ∈ lw_ok := ok_of (List.mem_append_right _ (List.mem_of_getElem? (i := 962) (by decide +kernel))) (by decide +kernel)
theorem mk_f_RX12_107 : Cond.fieldLink RX12 107 RX12 "keptLong" "[I" ∈ lw_ok := ok_of (List.mem_append_right _ (List.mem_of_getElem? (i := 963) (by decide +kernel))) (by decide +kernel)
theorem mk_f_RX12_110 : Cond.fieldLink RX12 110 RX12 "likeness" "[I" ∈ lw_ok := ok_of (List.mem_append_right _ (List.mem_of_getElem? (i := 964) (by decide +kernel))) (by decide +kernel)
theorem mk_f_RX12_113 : Cond.fieldLink RX12 113 RX12 "pairA" "[I" ∈ lw_ok := ok_of (List.mem_append_right _ (List.mem_of_getElem? (i := 966) (by decide +kernel))) (by decide +kernel)
theorem mk_f_RX12_116 : Cond.fieldLink RX12 116 RX12 "pairB" "[I" ∈ lw_ok := ok_of (List.mem_append_right _ (List.mem_of_getElem? (i := 967) (by decide +kernel))) (by decide +kernel)
theorem mk_f_RX12_119 : Cond.fieldLink RX12 119 RX12 "hoursOf" "[I" ∈ lw_ok := ok_of (List.mem_append_right _ (List.mem_of_getElem? (i := 968) (by decide +kernel))) (by decide +kernel)
theorem mk_f_RX12_122 : Cond.fieldLink RX12 122 RX12 "wrongOf" "[I" ∈ lw_ok := ok_of (List.mem_append_right _ (List.mem_of_getElem? (i := 969) (by decide +kernel))) (by decide +kernel)
theorem mk_f_RX12_125 : Cond.fieldLink RX12 125 RX12 "sceneBalls" "[J" ∈ lw_ok := ok_of (List.mem_append_right _ (List.mem_of_getElem? (i := 970) (by decide +kernel))) (by decide +kernel)
theorem mk_f_RX12_129 : Cond.fieldLink RX12 129 RX12 "groupOf" "[I" ∈ lw_ok := ok_of (List.mem_append_right _ (List.mem_of_getElem? (i := 971) (by decide +kernel))) (by decide +kernel)
theorem mk_f_RX12_135 : Cond.fieldLink RX12 135 RX12 "tools" "I" ∈ lw_ok := ok_of (List.mem_append_right _ (List.mem_of_getElem? (i := 913) (by decide +kernel))) (by decide +kernel)
theorem mk_f_RX12_138 : Cond.fieldLink RX12 138 RX12 "barrels" "I" ∈ lw_ok := ok_of (List.mem_append_right _ (List.mem_of_getElem? (i := 917) (by decide +kernel))) (by decide +kernel)
theorem mk_f_RX12_141 : Cond.fieldLink RX12 141 RX12 "balls" "I" ∈ lw_ok := ok_of (List.mem_append_right _ (List.mem_of_getElem? (i := 924) (by decide +kernel))) (by decide +kernel)
theorem mk_code_X12_isIn : Cond.code yX12_isIn cX12_isIn 4 (some .boolean) ∈ lw_ok := ok_of (List.mem_append_right _ (List.mem_of_getElem? (i := 1118) (by decide +kernel))) (by decide +kernel)
theorem mk_sel_X12_isIn : Cond.selects RX12 yX12_isIn yX12_isIn ∈ lw_ok := ok_of (List.mem_append_left _ (List.mem_of_getElem? (i := 40) (by decide +kernel))) (by decide +kernel)
theorem mk_m_RX12_144 : Cond.methodLink RX12 144 yX12_isIn ∈ lw_ok := ok_of (List.mem_append_right _ (List.mem_of_getElem? (i := 1115) (by decide +kernel))) (by decide +kernel)
theorem mk_im_X12_isIn : Cond.instanceMethod yX12_isIn ∈ lw_ok := ok_of (List.mem_append_right _ (List.mem_of_getElem? (i := 1117) (by decide +kernel))) (by decide +kernel)
theorem mk_ini_OneBarrelModel : Cond.initialized RX12 ∈ lw_ok := ok_of (List.mem_append_right _ (List.mem_of_getElem? (i := 6) (by decide +kernel))) (by decide +kernel)
theorem mk_f_RX12_132 : Cond.fieldLink RX12 132 RX12 "told" "I" ∈ lw_ok := ok_of (List.mem_append_right _ (List.mem_of_getElem? (i := 912) (by decide +kernel))) (by decide +kernel)
theorem mk_code_X12_isTool : Cond.code yX12_isTool cX12_isTool 2 (some .boolean) ∈ lw_ok := ok_of (List.mem_append_right _ (List.mem_of_getElem? (i := 1110) (by decide +kernel))) (by decide +kernel)
theorem mk_sel_X12_isTool : Cond.selects RX12 yX12_isTool yX12_isTool ∈ lw_ok := ok_of (List.mem_append_left _ (List.mem_of_getElem? (i := 38) (by decide +kernel))) (by decide +kernel)
theorem mk_m_RX12_148 : Cond.methodLink RX12 148 yX12_isTool ∈ lw_ok := ok_of (List.mem_append_right _ (List.mem_of_getElem? (i := 1107) (by decide +kernel))) (by decide +kernel)
theorem mk_im_X12_isTool : Cond.instanceMethod yX12_isTool ∈ lw_ok := ok_of (List.mem_append_right _ (List.mem_of_getElem? (i := 1109) (by decide +kernel))) (by decide +kernel)
theorem mk_code_X12_isHair : Cond.code yX12_isHair cX12_isHair 2 (some .boolean) ∈ lw_ok := ok_of (List.mem_append_right _ (List.mem_of_getElem? (i := 1114) (by decide +kernel))) (by decide +kernel)
theorem mk_sel_X12_isHair : Cond.selects RX12 yX12_isHair yX12_isHair ∈ lw_ok := ok_of (List.mem_append_left _ (List.mem_of_getElem? (i := 39) (by decide +kernel))) (by decide +kernel)
theorem mk_m_RX12_152 : Cond.methodLink RX12 152 yX12_isHair ∈ lw_ok := ok_of (List.mem_append_right _ (List.mem_of_getElem? (i := 1111) (by decide +kernel))) (by decide +kernel)
theorem mk_im_X12_isHair : Cond.instanceMethod yX12_isHair ∈ lw_ok := ok_of (List.mem_append_right _ (List.mem_of_getElem? (i := 1113) (by decide +kernel))) (by decide +kernel)
theorem mk_f_RX12_155 : Cond.fieldLink RX12 155 RX12 "state" "I" ∈ lw_ok := ok_of (List.mem_append_right _ (List.mem_of_getElem? (i := 955) (by decide +kernel))) (by decide +kernel)
theorem mk_code_X12_isBarrel : Cond.code yX12_isBarrel cX12_isBarrel 2 (some .boolean) ∈ lw_ok := ok_of (List.mem_append_right _ (List.mem_of_getElem? (i := 1148) (by decide +kernel))) (by decide +kernel)
theorem mk_sel_X12_isBarrel : Cond.selects RX12 yX12_isBarrel yX12_isBarrel ∈ lw_ok := ok_of (List.mem_append_left _ (List.mem_of_getElem? (i := 45) (by decide +kernel))) (by decide +kernel)
theorem mk_m_RX12_162 : Cond.methodLink RX12 162 yX12_isBarrel ∈ lw_ok := ok_of (List.mem_append_right _ (List.mem_of_getElem? (i := 1145) (by decide +kernel))) (by decide +kernel)
theorem mk_im_X12_isBarrel : Cond.instanceMethod yX12_isBarrel ∈ lw_ok := ok_of (List.mem_append_right _ (List.mem_of_getElem? (i := 1147) (by decide +kernel))) (by decide +kernel)
theorem mk_f_RX12_165 : Cond.fieldLink RX12 165 RX12 "version" "I" ∈ lw_ok := ok_of (List.mem_append_right _ (List.mem_of_getElem? (i := 929) (by decide +kernel))) (by decide +kernel)
theorem mk_code_X12_isBall : Cond.code yX12_isBall cX12_isBall 2 (some .boolean) ∈ lw_ok := ok_of (List.mem_append_right _ (List.mem_of_getElem? (i := 1164) (by decide +kernel))) (by decide +kernel)
theorem mk_sel_X12_isBall : Cond.selects RX12 yX12_isBall yX12_isBall ∈ lw_ok := ok_of (List.mem_append_left _ (List.mem_of_getElem? (i := 46) (by decide +kernel))) (by decide +kernel)
theorem mk_m_RX12_168 : Cond.methodLink RX12 168 yX12_isBall ∈ lw_ok := ok_of (List.mem_append_right _ (List.mem_of_getElem? (i := 1161) (by decide +kernel))) (by decide +kernel)
theorem mk_im_X12_isBall : Cond.instanceMethod yX12_isBall ∈ lw_ok := ok_of (List.mem_append_right _ (List.mem_of_getElem? (i := 1163) (by decide +kernel))) (by decide +kernel)
theorem mk_code_X12_missingOf : Cond.code yX12_missingOf cX12_missingOf 4 (some .int) ∈ lw_ok := ok_of (List.mem_append_right _ (List.mem_of_getElem? (i := 1176) (by decide +kernel))) (by decide +kernel)
theorem mk_sel_X12_missingOf : Cond.selects RX12 yX12_missingOf yX12_missingOf ∈ lw_ok := ok_of (List.mem_append_left _ (List.mem_of_getElem? (i := 47) (by decide +kernel))) (by decide +kernel)
theorem mk_m_RX12_171 : Cond.methodLink RX12 171 yX12_missingOf ∈ lw_ok := ok_of (List.mem_append_right _ (List.mem_of_getElem? (i := 1173) (by decide +kernel))) (by decide +kernel)
theorem mk_im_X12_missingOf : Cond.instanceMethod yX12_missingOf ∈ lw_ok := ok_of (List.mem_append_right _ (List.mem_of_getElem? (i := 1175) (by decide +kernel))) (by decide +kernel)
theorem mk_f_RX12_175 : Cond.fieldLink RX12 175 RX12 "taped" "I" ∈ lw_ok := ok_of (List.mem_append_right _ (List.mem_of_getElem? (i := 931) (by decide +kernel))) (by decide +kernel)
theorem mk_code_X12_puts : Cond.code yX12_puts cX12_puts 3 none ∈ lw_ok := ok_of (List.mem_append_right _ (List.mem_of_getElem? (i := 1184) (by decide +kernel))) (by decide +kernel)
theorem mk_sel_X12_puts : Cond.selects RX12 yX12_puts yX12_puts ∈ lw_ok := ok_of (List.mem_append_left _ (List.mem_of_getElem? (i := 48) (by decide +kernel))) (by decide +kernel)
theorem mk_m_RX12_178 : Cond.methodLink RX12 178 yX12_puts ∈ lw_ok := ok_of (List.mem_append_right _ (List.mem_of_getElem? (i := 1181) (by decide +kernel))) (by decide +kernel)
theorem mk_im_X12_puts : Cond.instanceMethod yX12_puts ∈ lw_ok := ok_of (List.mem_append_right _ (List.mem_of_getElem? (i := 1183) (by decide +kernel))) (by decide +kernel)
theorem mk_f_RX12_182 : Cond.fieldLink RX12 182 RX12 "place" "I" ∈ lw_ok := ok_of (List.mem_append_right _ (List.mem_of_getElem? (i := 932) (by decide +kernel))) (by decide +kernel)
theorem mk_code_X12_raw : Cond.code yX12_raw cX12_raw 2 (some .int) ∈ lw_ok := ok_of (List.mem_append_right _ (List.mem_of_getElem? (i := 1208) (by decide +kernel))) (by decide +kernel)
theorem mk_sel_X12_raw : Cond.selects RX12 yX12_raw yX12_raw ∈ lw_ok := ok_of (List.mem_append_left _ (List.mem_of_getElem? (i := 52) (by decide +kernel))) (by decide +kernel)
theorem mk_m_RX12_185 : Cond.methodLink RX12 185 yX12_raw ∈ lw_ok := ok_of (List.mem_append_right _ (List.mem_of_getElem? (i := 1205) (by decide +kernel))) (by decide +kernel)
theorem mk_im_X12_raw : Cond.instanceMethod yX12_raw ∈ lw_ok := ok_of (List.mem_append_right _ (List.mem_of_getElem? (i := 1207) (by decide +kernel))) (by decide +kernel)
theorem mk_f_RX12_188 : Cond.fieldLink RX12 188 RX12 "from" "I" ∈ lw_ok := ok_of (List.mem_append_right _ (List.mem_of_getElem? (i := 933) (by decide +kernel))) (by decide +kernel)
theorem mk_f_RX12_191 : Cond.fieldLink RX12 191 RX12 "token" "I" ∈ lw_ok := ok_of (List.mem_append_right _ (List.mem_of_getElem? (i := 934) (by decide +kernel))) (by decide +kernel)
theorem mk_f_RX12_194 : Cond.fieldLink RX12 194 RX12 "value" "I" ∈ lw_ok := ok_of (List.mem_append_right _ (List.mem_of_getElem? (i := 935) (by decide +kernel))) (by decide +kernel)
theorem mk_code_X12_isLetter : Cond.code yX12_isLetter cX12_isLetter 2 (some .boolean) ∈ lw_ok := ok_of (List.mem_append_right _ (List.mem_of_getElem? (i := 1212) (by decide +kernel))) (by decide +kernel)
theorem mk_sel_X12_isLetter : Cond.selects RX12 yX12_isLetter yX12_isLetter ∈ lw_ok := ok_of (List.mem_append_left _ (List.mem_of_getElem? (i := 53) (by decide +kernel))) (by decide +kernel)
theorem mk_m_RX12_197 : Cond.methodLink RX12 197 yX12_isLetter ∈ lw_ok := ok_of (List.mem_append_right _ (List.mem_of_getElem? (i := 1209) (by decide +kernel))) (by decide +kernel)
theorem mk_im_X12_isLetter : Cond.instanceMethod yX12_isLetter ∈ lw_ok := ok_of (List.mem_append_right _ (List.mem_of_getElem? (i := 1211) (by decide +kernel))) (by decide +kernel)
theorem mk_code_X12_isDigit : Cond.code yX12_isDigit cX12_isDigit 2 (some .boolean) ∈ lw_ok := ok_of (List.mem_append_right _ (List.mem_of_getElem? (i := 1220) (by decide +kernel))) (by decide +kernel)
theorem mk_sel_X12_isDigit : Cond.selects RX12 yX12_isDigit yX12_isDigit ∈ lw_ok := ok_of (List.mem_append_left _ (List.mem_of_getElem? (i := 55) (by decide +kernel))) (by decide +kernel)
theorem mk_m_RX12_204 : Cond.methodLink RX12 204 yX12_isDigit ∈ lw_ok := ok_of (List.mem_append_right _ (List.mem_of_getElem? (i := 1217) (by decide +kernel))) (by decide +kernel)
theorem mk_im_X12_isDigit : Cond.instanceMethod yX12_isDigit ∈ lw_ok := ok_of (List.mem_append_right _ (List.mem_of_getElem? (i := 1219) (by decide +kernel))) (by decide +kernel)
theorem mk_code_X12_isMarkSign : Cond.code yX12_isMarkSign cX12_isMarkSign 2 (some .boolean) ∈ lw_ok := ok_of (List.mem_append_right _ (List.mem_of_getElem? (i := 1224) (by decide +kernel))) (by decide +kernel)
theorem mk_sel_X12_isMarkSign : Cond.selects RX12 yX12_isMarkSign yX12_isMarkSign ∈ lw_ok := ok_of (List.mem_append_left _ (List.mem_of_getElem? (i := 56) (by decide +kernel))) (by decide +kernel)
theorem mk_m_RX12_207 : Cond.methodLink RX12 207 yX12_isMarkSign ∈ lw_ok := ok_of (List.mem_append_right _ (List.mem_of_getElem? (i := 1221) (by decide +kernel))) (by decide +kernel)
theorem mk_im_X12_isMarkSign : Cond.instanceMethod yX12_isMarkSign ∈ lw_ok := ok_of (List.mem_append_right _ (List.mem_of_getElem? (i := 1223) (by decide +kernel))) (by decide +kernel)
theorem mk_code_X12_wordAt : Cond.code yX12_wordAt cX12_wordAt 6 (some .int) ∈ lw_ok := ok_of (List.mem_append_right _ (List.mem_of_getElem? (i := 1216) (by decide +kernel))) (by decide +kernel)
theorem mk_sel_X12_wordAt : Cond.selects RX12 yX12_wordAt yX12_wordAt ∈ lw_ok := ok_of (List.mem_append_left _ (List.mem_of_getElem? (i := 54) (by decide +kernel))) (by decide +kernel)
theorem mk_m_RX12_200 : Cond.methodLink RX12 200 yX12_wordAt ∈ lw_ok := ok_of (List.mem_append_right _ (List.mem_of_getElem? (i := 1213) (by decide +kernel))) (by decide +kernel)
theorem mk_im_X12_wordAt : Cond.instanceMethod yX12_wordAt ∈ lw_ok := ok_of (List.mem_append_right _ (List.mem_of_getElem? (i := 1215) (by decide +kernel))) (by decide +kernel)
theorem mk_f_RX12_210 : Cond.fieldLink RX12 210 RX12 "readFault" "I" ∈ lw_ok := ok_of (List.mem_append_right _ (List.mem_of_getElem? (i := 949) (by decide +kernel))) (by decide +kernel)
theorem mk_f_RX12_213 : Cond.fieldLink RX12 213 RX12 "readPlace" "I" ∈ lw_ok := ok_of (List.mem_append_right _ (List.mem_of_getElem? (i := 950) (by decide +kernel))) (by decide +kernel)
theorem mk_f_RX12_216 : Cond.fieldLink RX12 216 RX12 "many" "I" ∈ lw_ok := ok_of (List.mem_append_right _ (List.mem_of_getElem? (i := 945) (by decide +kernel))) (by decide +kernel)
theorem mk_code_X12_emits : Cond.code yX12_emits cX12_emits 3 none ∈ lw_ok := ok_of (List.mem_append_right _ (List.mem_of_getElem? (i := 1252) (by decide +kernel))) (by decide +kernel)
theorem mk_sel_X12_emits : Cond.selects RX12 yX12_emits yX12_emits ∈ lw_ok := ok_of (List.mem_append_left _ (List.mem_of_getElem? (i := 63) (by decide +kernel))) (by decide +kernel)
theorem mk_m_RX12_226 : Cond.methodLink RX12 226 yX12_emits ∈ lw_ok := ok_of (List.mem_append_right _ (List.mem_of_getElem? (i := 1249) (by decide +kernel))) (by decide +kernel)
theorem mk_im_X12_emits : Cond.instanceMethod yX12_emits ∈ lw_ok := ok_of (List.mem_append_right _ (List.mem_of_getElem? (i := 1251) (by decide +kernel))) (by decide +kernel)
theorem mk_code_X12_reads : Cond.code yX12_reads cX12_reads 2 none ∈ lw_ok := ok_of (List.mem_append_right _ (List.mem_of_getElem? (i := 1204) (by decide +kernel))) (by decide +kernel)
theorem mk_sel_X12_reads : Cond.selects RX12 yX12_reads yX12_reads ∈ lw_ok := ok_of (List.mem_append_left _ (List.mem_of_getElem? (i := 51) (by decide +kernel))) (by decide +kernel)
theorem mk_m_RX12_230 : Cond.methodLink RX12 230 yX12_reads ∈ lw_ok := ok_of (List.mem_append_right _ (List.mem_of_getElem? (i := 1201) (by decide +kernel))) (by decide +kernel)
theorem mk_im_X12_reads : Cond.instanceMethod yX12_reads ∈ lw_ok := ok_of (List.mem_append_right _ (List.mem_of_getElem? (i := 1203) (by decide +kernel))) (by decide +kernel)
theorem mk_code_X12_fails : Cond.code yX12_fails cX12_fails 2 (some .int) ∈ lw_ok := ok_of (List.mem_append_right _ (List.mem_of_getElem? (i := 1232) (by decide +kernel))) (by decide +kernel)
theorem mk_sel_X12_fails : Cond.selects RX12 yX12_fails yX12_fails ∈ lw_ok := ok_of (List.mem_append_left _ (List.mem_of_getElem? (i := 58) (by decide +kernel))) (by decide +kernel)
theorem mk_m_RX12_223 : Cond.methodLink RX12 223 yX12_fails ∈ lw_ok := ok_of (List.mem_append_right _ (List.mem_of_getElem? (i := 1229) (by decide +kernel))) (by decide +kernel)
theorem mk_im_X12_fails : Cond.instanceMethod yX12_fails ∈ lw_ok := ok_of (List.mem_append_right _ (List.mem_of_getElem? (i := 1231) (by decide +kernel))) (by decide +kernel)
theorem mk_f_RX12_219 : Cond.fieldLink RX12 219 RX12 "isLaws" "Z" ∈ lw_ok := ok_of (List.mem_append_right _ (List.mem_of_getElem? (i := 944) (by decide +kernel))) (by decide +kernel)
theorem mk_code_X12_readUnit : Cond.code yX12_readUnit cX12_readUnit 2 (some .int) ∈ lw_ok := ok_of (List.mem_append_right _ (List.mem_of_getElem? (i := 1248) (by decide +kernel))) (by decide +kernel)
theorem mk_sel_X12_readUnit : Cond.selects RX12 yX12_readUnit yX12_readUnit ∈ lw_ok := ok_of (List.mem_append_left _ (List.mem_of_getElem? (i := 62) (by decide +kernel))) (by decide +kernel)
theorem mk_m_RX12_233 : Cond.methodLink RX12 233 yX12_readUnit ∈ lw_ok := ok_of (List.mem_append_right _ (List.mem_of_getElem? (i := 1245) (by decide +kernel))) (by decide +kernel)
theorem mk_im_X12_readUnit : Cond.instanceMethod yX12_readUnit ∈ lw_ok := ok_of (List.mem_append_right _ (List.mem_of_getElem? (i := 1247) (by decide +kernel))) (by decide +kernel)
theorem mk_code_X12_isSign : Cond.code yX12_isSign cX12_isSign 2 (some .boolean) ∈ lw_ok := ok_of (List.mem_append_right _ (List.mem_of_getElem? (i := 1256) (by decide +kernel))) (by decide +kernel)
theorem mk_sel_X12_isSign : Cond.selects RX12 yX12_isSign yX12_isSign ∈ lw_ok := ok_of (List.mem_append_left _ (List.mem_of_getElem? (i := 64) (by decide +kernel))) (by decide +kernel)
theorem mk_m_RX12_237 : Cond.methodLink RX12 237 yX12_isSign ∈ lw_ok := ok_of (List.mem_append_right _ (List.mem_of_getElem? (i := 1253) (by decide +kernel))) (by decide +kernel)
theorem mk_im_X12_isSign : Cond.instanceMethod yX12_isSign ∈ lw_ok := ok_of (List.mem_append_right _ (List.mem_of_getElem? (i := 1255) (by decide +kernel))) (by decide +kernel)
theorem mk_code_X12_readProduct : Cond.code yX12_readProduct cX12_readProduct 2 (some .int) ∈ lw_ok := ok_of (List.mem_append_right _ (List.mem_of_getElem? (i := 1244) (by decide +kernel))) (by decide +kernel)
theorem mk_sel_X12_readProduct : Cond.selects RX12 yX12_readProduct yX12_readProduct ∈ lw_ok := ok_of (List.mem_append_left _ (List.mem_of_getElem? (i := 61) (by decide +kernel))) (by decide +kernel)
theorem mk_m_RX12_240 : Cond.methodLink RX12 240 yX12_readProduct ∈ lw_ok := ok_of (List.mem_append_right _ (List.mem_of_getElem? (i := 1241) (by decide +kernel))) (by decide +kernel)
theorem mk_im_X12_readProduct : Cond.instanceMethod yX12_readProduct ∈ lw_ok := ok_of (List.mem_append_right _ (List.mem_of_getElem? (i := 1243) (by decide +kernel))) (by decide +kernel)
theorem mk_code_X12_readSum : Cond.code yX12_readSum cX12_readSum 2 (some .int) ∈ lw_ok := ok_of (List.mem_append_right _ (List.mem_of_getElem? (i := 1240) (by decide +kernel))) (by decide +kernel)
theorem mk_sel_X12_readSum : Cond.selects RX12 yX12_readSum yX12_readSum ∈ lw_ok := ok_of (List.mem_append_left _ (List.mem_of_getElem? (i := 60) (by decide +kernel))) (by decide +kernel)
theorem mk_m_RX12_243 : Cond.methodLink RX12 243 yX12_readSum ∈ lw_ok := ok_of (List.mem_append_right _ (List.mem_of_getElem? (i := 1237) (by decide +kernel))) (by decide +kernel)
theorem mk_im_X12_readSum : Cond.instanceMethod yX12_readSum ∈ lw_ok := ok_of (List.mem_append_right _ (List.mem_of_getElem? (i := 1239) (by decide +kernel))) (by decide +kernel)
theorem mk_f_RX12_246 : Cond.fieldLink RX12 246 RX12 "pendings" "I" ∈ lw_ok := ok_of (List.mem_append_right _ (List.mem_of_getElem? (i := 948) (by decide +kernel))) (by decide +kernel)
theorem mk_f_RX12_249 : Cond.fieldLink RX12 249 RX12 "open" "I" ∈ lw_ok := ok_of (List.mem_append_right _ (List.mem_of_getElem? (i := 946) (by decide +kernel))) (by decide +kernel)
theorem mk_code_X12_isWord : Cond.code yX12_isWord cX12_isWord 2 (some .boolean) ∈ lw_ok := ok_of (List.mem_append_right _ (List.mem_of_getElem? (i := 1260) (by decide +kernel))) (by decide +kernel)
theorem mk_sel_X12_isWord : Cond.selects RX12 yX12_isWord yX12_isWord ∈ lw_ok := ok_of (List.mem_append_left _ (List.mem_of_getElem? (i := 65) (by decide +kernel))) (by decide +kernel)
theorem mk_m_RX12_252 : Cond.methodLink RX12 252 yX12_isWord ∈ lw_ok := ok_of (List.mem_append_right _ (List.mem_of_getElem? (i := 1257) (by decide +kernel))) (by decide +kernel)
theorem mk_im_X12_isWord : Cond.instanceMethod yX12_isWord ∈ lw_ok := ok_of (List.mem_append_right _ (List.mem_of_getElem? (i := 1259) (by decide +kernel))) (by decide +kernel)
theorem mk_code_X12_settles : Cond.code yX12_settles cX12_settles 2 none ∈ lw_ok := ok_of (List.mem_append_right _ (List.mem_of_getElem? (i := 1276) (by decide +kernel))) (by decide +kernel)
theorem mk_sel_X12_settles : Cond.selects RX12 yX12_settles yX12_settles ∈ lw_ok := ok_of (List.mem_append_left _ (List.mem_of_getElem? (i := 69) (by decide +kernel))) (by decide +kernel)
theorem mk_m_RX12_261 : Cond.methodLink RX12 261 yX12_settles ∈ lw_ok := ok_of (List.mem_append_right _ (List.mem_of_getElem? (i := 1273) (by decide +kernel))) (by decide +kernel)
theorem mk_im_X12_settles : Cond.instanceMethod yX12_settles ∈ lw_ok := ok_of (List.mem_append_right _ (List.mem_of_getElem? (i := 1275) (by decide +kernel))) (by decide +kernel)
theorem mk_code_X12_waits : Cond.code yX12_waits cX12_waits 2 none ∈ lw_ok := ok_of (List.mem_append_right _ (List.mem_of_getElem? (i := 1268) (by decide +kernel))) (by decide +kernel)
theorem mk_sel_X12_waits : Cond.selects RX12 yX12_waits yX12_waits ∈ lw_ok := ok_of (List.mem_append_left _ (List.mem_of_getElem? (i := 67) (by decide +kernel))) (by decide +kernel)
theorem mk_m_RX12_255 : Cond.methodLink RX12 255 yX12_waits ∈ lw_ok := ok_of (List.mem_append_right _ (List.mem_of_getElem? (i := 1265) (by decide +kernel))) (by decide +kernel)
theorem mk_im_X12_waits : Cond.instanceMethod yX12_waits ∈ lw_ok := ok_of (List.mem_append_right _ (List.mem_of_getElem? (i := 1267) (by decide +kernel))) (by decide +kernel)
theorem mk_code_X12_readCompared : Cond.code yX12_readCompared cX12_readCompared 2 (some .int) ∈ lw_ok := ok_of (List.mem_append_right _ (List.mem_of_getElem? (i := 1272) (by decide +kernel))) (by decide +kernel)
theorem mk_sel_X12_readCompared : Cond.selects RX12 yX12_readCompared yX12_readCompared ∈ lw_ok := ok_of (List.mem_append_left _ (List.mem_of_getElem? (i := 68) (by decide +kernel))) (by decide +kernel)
theorem mk_m_RX12_258 : Cond.methodLink RX12 258 yX12_readCompared ∈ lw_ok := ok_of (List.mem_append_right _ (List.mem_of_getElem? (i := 1269) (by decide +kernel))) (by decide +kernel)
theorem mk_im_X12_readCompared : Cond.instanceMethod yX12_readCompared ∈ lw_ok := ok_of (List.mem_append_right _ (List.mem_of_getElem? (i := 1271) (by decide +kernel))) (by decide +kernel)
theorem mk_code_X12_readAny : Cond.code yX12_readAny cX12_readAny 4 (some .int) ∈ lw_ok := ok_of (List.mem_append_right _ (List.mem_of_getElem? (i := 1264) (by decide +kernel))) (by decide +kernel)
theorem mk_sel_X12_readAny : Cond.selects RX12 yX12_readAny yX12_readAny ∈ lw_ok := ok_of (List.mem_append_left _ (List.mem_of_getElem? (i := 66) (by decide +kernel))) (by decide +kernel)
theorem mk_m_RX12_264 : Cond.methodLink RX12 264 yX12_readAny ∈ lw_ok := ok_of (List.mem_append_right _ (List.mem_of_getElem? (i := 1261) (by decide +kernel))) (by decide +kernel)
theorem mk_im_X12_readAny : Cond.instanceMethod yX12_readAny ∈ lw_ok := ok_of (List.mem_append_right _ (List.mem_of_getElem? (i := 1263) (by decide +kernel))) (by decide +kernel)
theorem mk_code_X12_isBegin : Cond.code yX12_isBegin cX12_isBegin 1 (some .boolean) ∈ lw_ok := ok_of (List.mem_append_right _ (List.mem_of_getElem? (i := 1228) (by decide +kernel))) (by decide +kernel)
theorem mk_sel_X12_isBegin : Cond.selects RX12 yX12_isBegin yX12_isBegin ∈ lw_ok := ok_of (List.mem_append_left _ (List.mem_of_getElem? (i := 57) (by decide +kernel))) (by decide +kernel)
theorem mk_m_RX12_267 : Cond.methodLink RX12 267 yX12_isBegin ∈ lw_ok := ok_of (List.mem_append_right _ (List.mem_of_getElem? (i := 1225) (by decide +kernel))) (by decide +kernel)
theorem mk_im_X12_isBegin : Cond.instanceMethod yX12_isBegin ∈ lw_ok := ok_of (List.mem_append_right _ (List.mem_of_getElem? (i := 1227) (by decide +kernel))) (by decide +kernel)
theorem mk_code_X12_readLine : Cond.code yX12_readLine cX12_readLine 3 (some .int) ∈ lw_ok := ok_of (List.mem_append_right _ (List.mem_of_getElem? (i := 1236) (by decide +kernel))) (by decide +kernel)
theorem mk_sel_X12_readLine : Cond.selects RX12 yX12_readLine yX12_readLine ∈ lw_ok := ok_of (List.mem_append_left _ (List.mem_of_getElem? (i := 59) (by decide +kernel))) (by decide +kernel)
theorem mk_m_RX12_271 : Cond.methodLink RX12 271 yX12_readLine ∈ lw_ok := ok_of (List.mem_append_right _ (List.mem_of_getElem? (i := 1233) (by decide +kernel))) (by decide +kernel)
theorem mk_im_X12_readLine : Cond.instanceMethod yX12_readLine ∈ lw_ok := ok_of (List.mem_append_right _ (List.mem_of_getElem? (i := 1235) (by decide +kernel))) (by decide +kernel)
theorem mk_f_RX12_274 : Cond.fieldLink RX12 274 RX12 "faultKind" "I" ∈ lw_ok := ok_of (List.mem_append_right _ (List.mem_of_getElem? (i := 951) (by decide +kernel))) (by decide +kernel)
theorem mk_code_X12_readText : Cond.code yX12_readText cX12_readText 2 (some .int) ∈ lw_ok := ok_of (List.mem_append_right _ (List.mem_of_getElem? (i := 1200) (by decide +kernel))) (by decide +kernel)
theorem mk_sel_X12_readText : Cond.selects RX12 yX12_readText yX12_readText ∈ lw_ok := ok_of (List.mem_append_left _ (List.mem_of_getElem? (i := 50) (by decide +kernel))) (by decide +kernel)
theorem mk_m_RX12_277 : Cond.methodLink RX12 277 yX12_readText ∈ lw_ok := ok_of (List.mem_append_right _ (List.mem_of_getElem? (i := 1197) (by decide +kernel))) (by decide +kernel)
theorem mk_im_X12_readText : Cond.instanceMethod yX12_readText ∈ lw_ok := ok_of (List.mem_append_right _ (List.mem_of_getElem? (i := 1199) (by decide +kernel))) (by decide +kernel)
theorem mk_code_X12_takesText : Cond.code yX12_takesText cX12_takesText 4 (some .int) ∈ lw_ok := ok_of (List.mem_append_right _ (List.mem_of_getElem? (i := 1196) (by decide +kernel))) (by decide +kernel)
theorem mk_sel_X12_takesText : Cond.selects RX12 yX12_takesText yX12_takesText ∈ lw_ok := ok_of (List.mem_append_left _ (List.mem_of_getElem? (i := 49) (by decide +kernel))) (by decide +kernel)
theorem mk_m_RX12_280 : Cond.methodLink RX12 280 yX12_takesText ∈ lw_ok := ok_of (List.mem_append_right _ (List.mem_of_getElem? (i := 1193) (by decide +kernel))) (by decide +kernel)
theorem mk_im_X12_takesText : Cond.instanceMethod yX12_takesText ∈ lw_ok := ok_of (List.mem_append_right _ (List.mem_of_getElem? (i := 1195) (by decide +kernel))) (by decide +kernel)
theorem mk_f_RX12_283 : Cond.fieldLink RX12 283 RX12 "lookers" "I" ∈ lw_ok := ok_of (List.mem_append_right _ (List.mem_of_getElem? (i := 957) (by decide +kernel))) (by decide +kernel)
theorem mk_code_X12_twoOf : Cond.code yX12_twoOf cX12_twoOf 4 (some .int) ∈ lw_ok := ok_of (List.mem_append_right _ (List.mem_of_getElem? (i := 1140) (by decide +kernel))) (by decide +kernel)
theorem mk_sel_X12_twoOf : Cond.selects RX12 yX12_twoOf yX12_twoOf ∈ lw_ok := ok_of (List.mem_append_left _ (List.mem_of_getElem? (i := 44) (by decide +kernel))) (by decide +kernel)
theorem mk_m_RX12_286 : Cond.methodLink RX12 286 yX12_twoOf ∈ lw_ok := ok_of (List.mem_append_right _ (List.mem_of_getElem? (i := 1137) (by decide +kernel))) (by decide +kernel)
theorem mk_im_X12_twoOf : Cond.instanceMethod yX12_twoOf ∈ lw_ok := ok_of (List.mem_append_right _ (List.mem_of_getElem? (i := 1139) (by decide +kernel))) (by decide +kernel)
theorem mk_code_X12_worth : Cond.code yX12_worth cX12_worth 6 (some .int) ∈ lw_ok := ok_of (List.mem_append_right _ (List.mem_of_getElem? (i := 1136) (by decide +kernel))) (by decide +kernel)
theorem mk_sel_X12_worth : Cond.selects RX12 yX12_worth yX12_worth ∈ lw_ok := ok_of (List.mem_append_left _ (List.mem_of_getElem? (i := 43) (by decide +kernel))) (by decide +kernel)
theorem mk_m_RX12_290 : Cond.methodLink RX12 290 yX12_worth ∈ lw_ok := ok_of (List.mem_append_right _ (List.mem_of_getElem? (i := 1133) (by decide +kernel))) (by decide +kernel)
theorem mk_im_X12_worth : Cond.instanceMethod yX12_worth ∈ lw_ok := ok_of (List.mem_append_right _ (List.mem_of_getElem? (i := 1135) (by decide +kernel))) (by decide +kernel)
theorem mk_k_RX12_293 : Cond.constant RX12 293 (1664525 : Int32) ∈ lw_ok := ok_of (List.mem_append_right _ (List.mem_of_getElem? (i := 1127) (by decide +kernel))) (by decide +kernel)
theorem mk_k_RX12_294 : Cond.constant RX12 294 (1013904223 : Int32) ∈ lw_ok := ok_of (List.mem_append_right _ (List.mem_of_getElem? (i := 1128) (by decide +kernel))) (by decide +kernel)
theorem mk_code_X12_heightBy : Cond.code yX12_heightBy cX12_heightBy 4 (some .int) ∈ lw_ok := ok_of (List.mem_append_right _ (List.mem_of_getElem? (i := 1132) (by decide +kernel))) (by decide +kernel)
theorem mk_sel_X12_heightBy : Cond.selects RX12 yX12_heightBy yX12_heightBy ∈ lw_ok := ok_of (List.mem_append_left _ (List.mem_of_getElem? (i := 42) (by decide +kernel))) (by decide +kernel)
theorem mk_m_RX12_295 : Cond.methodLink RX12 295 yX12_heightBy ∈ lw_ok := ok_of (List.mem_append_right _ (List.mem_of_getElem? (i := 1129) (by decide +kernel))) (by decide +kernel)
theorem mk_im_X12_heightBy : Cond.instanceMethod yX12_heightBy ∈ lw_ok := ok_of (List.mem_append_right _ (List.mem_of_getElem? (i := 1131) (by decide +kernel))) (by decide +kernel)
theorem mk_code_X12_runs : Cond.code yX12_runs cX12_runs 9 (some .boolean) ∈ lw_ok := ok_of (List.mem_append_right _ (List.mem_of_getElem? (i := 1304) (by decide +kernel))) (by decide +kernel)
theorem mk_sel_X12_runs : Cond.selects RX12 yX12_runs yX12_runs ∈ lw_ok := ok_of (List.mem_append_left _ (List.mem_of_getElem? (i := 72) (by decide +kernel))) (by decide +kernel)
theorem mk_m_RX12_298 : Cond.methodLink RX12 298 yX12_runs ∈ lw_ok := ok_of (List.mem_append_right _ (List.mem_of_getElem? (i := 1301) (by decide +kernel))) (by decide +kernel)
theorem mk_im_X12_runs : Cond.instanceMethod yX12_runs ∈ lw_ok := ok_of (List.mem_append_right _ (List.mem_of_getElem? (i := 1303) (by decide +kernel))) (by decide +kernel)
theorem mk_code_X12_manyOf : Cond.code yX12_manyOf cX12_manyOf 7 (some .int) ∈ lw_ok := ok_of (List.mem_append_right _ (List.mem_of_getElem? (i := 1300) (by decide +kernel))) (by decide +kernel)
theorem mk_sel_X12_manyOf : Cond.selects RX12 yX12_manyOf yX12_manyOf ∈ lw_ok := ok_of (List.mem_append_left _ (List.mem_of_getElem? (i := 71) (by decide +kernel))) (by decide +kernel)
theorem mk_m_RX12_302 : Cond.methodLink RX12 302 yX12_manyOf ∈ lw_ok := ok_of (List.mem_append_right _ (List.mem_of_getElem? (i := 1297) (by decide +kernel))) (by decide +kernel)
theorem mk_im_X12_manyOf : Cond.instanceMethod yX12_manyOf ∈ lw_ok := ok_of (List.mem_append_right _ (List.mem_of_getElem? (i := 1299) (by decide +kernel))) (by decide +kernel)
theorem mk_code_X12_greater : Cond.code yX12_greater cX12_greater 3 (some .int) ∈ lw_ok := ok_of (List.mem_append_right _ (List.mem_of_getElem? (i := 1312) (by decide +kernel))) (by decide +kernel)
theorem mk_sel_X12_greater : Cond.selects RX12 yX12_greater yX12_greater ∈ lw_ok := ok_of (List.mem_append_left _ (List.mem_of_getElem? (i := 74) (by decide +kernel))) (by decide +kernel)
theorem mk_m_RX12_306 : Cond.methodLink RX12 306 yX12_greater ∈ lw_ok := ok_of (List.mem_append_right _ (List.mem_of_getElem? (i := 1309) (by decide +kernel))) (by decide +kernel)
theorem mk_im_X12_greater : Cond.instanceMethod yX12_greater ∈ lw_ok := ok_of (List.mem_append_right _ (List.mem_of_getElem? (i := 1311) (by decide +kernel))) (by decide +kernel)
theorem mk_code_X12_isLooker : Cond.code yX12_isLooker cX12_isLooker 2 (some .boolean) ∈ lw_ok := ok_of (List.mem_append_right _ (List.mem_of_getElem? (i := 1296) (by decide +kernel))) (by decide +kernel)
theorem mk_sel_X12_isLooker : Cond.selects RX12 yX12_isLooker yX12_isLooker ∈ lw_ok := ok_of (List.mem_append_left _ (List.mem_of_getElem? (i := 70) (by decide +kernel))) (by decide +kernel)
theorem mk_m_RX12_309 : Cond.methodLink RX12 309 yX12_isLooker ∈ lw_ok := ok_of (List.mem_append_right _ (List.mem_of_getElem? (i := 1293) (by decide +kernel))) (by decide +kernel)
theorem mk_im_X12_isLooker : Cond.instanceMethod yX12_isLooker ∈ lw_ok := ok_of (List.mem_append_right _ (List.mem_of_getElem? (i := 1295) (by decide +kernel))) (by decide +kernel)
theorem mk_code_X12_bestSlide : Cond.code yX12_bestSlide cX12_bestSlide 8 (some .int) ∈ lw_ok := ok_of (List.mem_append_right _ (List.mem_of_getElem? (i := 1320) (by decide +kernel))) (by decide +kernel)
theorem mk_sel_X12_bestSlide : Cond.selects RX12 yX12_bestSlide yX12_bestSlide ∈ lw_ok := ok_of (List.mem_append_left _ (List.mem_of_getElem? (i := 76) (by decide +kernel))) (by decide +kernel)
theorem mk_m_RX12_318 : Cond.methodLink RX12 318 yX12_bestSlide ∈ lw_ok := ok_of (List.mem_append_right _ (List.mem_of_getElem? (i := 1317) (by decide +kernel))) (by decide +kernel)
theorem mk_im_X12_bestSlide : Cond.instanceMethod yX12_bestSlide ∈ lw_ok := ok_of (List.mem_append_right _ (List.mem_of_getElem? (i := 1319) (by decide +kernel))) (by decide +kernel)
theorem mk_code_X12_longestBy : Cond.code yX12_longestBy cX12_longestBy 8 (some .int) ∈ lw_ok := ok_of (List.mem_append_right _ (List.mem_of_getElem? (i := 1324) (by decide +kernel))) (by decide +kernel)
theorem mk_sel_X12_longestBy : Cond.selects RX12 yX12_longestBy yX12_longestBy ∈ lw_ok := ok_of (List.mem_append_left _ (List.mem_of_getElem? (i := 77) (by decide +kernel))) (by decide +kernel)
theorem mk_m_RX12_321 : Cond.methodLink RX12 321 yX12_longestBy ∈ lw_ok := ok_of (List.mem_append_right _ (List.mem_of_getElem? (i := 1321) (by decide +kernel))) (by decide +kernel)
theorem mk_im_X12_longestBy : Cond.instanceMethod yX12_longestBy ∈ lw_ok := ok_of (List.mem_append_right _ (List.mem_of_getElem? (i := 1323) (by decide +kernel))) (by decide +kernel)
theorem mk_code_X12_lackOf : Cond.code yX12_lackOf cX12_lackOf 3 (some .int) ∈ lw_ok := ok_of (List.mem_append_right _ (List.mem_of_getElem? (i := 1316) (by decide +kernel))) (by decide +kernel)
theorem mk_sel_X12_lackOf : Cond.selects RX12 yX12_lackOf yX12_lackOf ∈ lw_ok := ok_of (List.mem_append_left _ (List.mem_of_getElem? (i := 75) (by decide +kernel))) (by decide +kernel)
theorem mk_m_RX12_315 : Cond.methodLink RX12 315 yX12_lackOf ∈ lw_ok := ok_of (List.mem_append_right _ (List.mem_of_getElem? (i := 1313) (by decide +kernel))) (by decide +kernel)
theorem mk_im_X12_lackOf : Cond.instanceMethod yX12_lackOf ∈ lw_ok := ok_of (List.mem_append_right _ (List.mem_of_getElem? (i := 1315) (by decide +kernel))) (by decide +kernel)
theorem mk_code_X12_piecesOf : Cond.code yX12_piecesOf cX12_piecesOf 8 (some .int) ∈ lw_ok := ok_of (List.mem_append_right _ (List.mem_of_getElem? (i := 1308) (by decide +kernel))) (by decide +kernel)
theorem mk_sel_X12_piecesOf : Cond.selects RX12 yX12_piecesOf yX12_piecesOf ∈ lw_ok := ok_of (List.mem_append_left _ (List.mem_of_getElem? (i := 73) (by decide +kernel))) (by decide +kernel)
theorem mk_m_RX12_312 : Cond.methodLink RX12 312 yX12_piecesOf ∈ lw_ok := ok_of (List.mem_append_right _ (List.mem_of_getElem? (i := 1305) (by decide +kernel))) (by decide +kernel)
theorem mk_im_X12_piecesOf : Cond.instanceMethod yX12_piecesOf ∈ lw_ok := ok_of (List.mem_append_right _ (List.mem_of_getElem? (i := 1307) (by decide +kernel))) (by decide +kernel)
theorem mk_code_X12_forgets : Cond.code yX12_forgets cX12_forgets 2 none ∈ lw_ok := ok_of (List.mem_append_right _ (List.mem_of_getElem? (i := 1336) (by decide +kernel))) (by decide +kernel)
theorem mk_sel_X12_forgets : Cond.selects RX12 yX12_forgets yX12_forgets ∈ lw_ok := ok_of (List.mem_append_left _ (List.mem_of_getElem? (i := 79) (by decide +kernel))) (by decide +kernel)
theorem mk_m_RX12_324 : Cond.methodLink RX12 324 yX12_forgets ∈ lw_ok := ok_of (List.mem_append_right _ (List.mem_of_getElem? (i := 1333) (by decide +kernel))) (by decide +kernel)
theorem mk_im_X12_forgets : Cond.instanceMethod yX12_forgets ∈ lw_ok := ok_of (List.mem_append_right _ (List.mem_of_getElem? (i := 1335) (by decide +kernel))) (by decide +kernel)
theorem mk_code_X12_judges : Cond.code yX12_judges cX12_judges 8 (some .int) ∈ lw_ok := ok_of (List.mem_append_right _ (List.mem_of_getElem? (i := 1340) (by decide +kernel))) (by decide +kernel)
theorem mk_sel_X12_judges : Cond.selects RX12 yX12_judges yX12_judges ∈ lw_ok := ok_of (List.mem_append_left _ (List.mem_of_getElem? (i := 80) (by decide +kernel))) (by decide +kernel)
theorem mk_m_RX12_327 : Cond.methodLink RX12 327 yX12_judges ∈ lw_ok := ok_of (List.mem_append_right _ (List.mem_of_getElem? (i := 1337) (by decide +kernel))) (by decide +kernel)
theorem mk_im_X12_judges : Cond.instanceMethod yX12_judges ∈ lw_ok := ok_of (List.mem_append_right _ (List.mem_of_getElem? (i := 1339) (by decide +kernel))) (by decide +kernel)
theorem mk_code_X12_saysOf : Cond.code yX12_saysOf cX12_saysOf 6 (some .int) ∈ lw_ok := ok_of (List.mem_append_right _ (List.mem_of_getElem? (i := 1332) (by decide +kernel))) (by decide +kernel)
theorem mk_sel_X12_saysOf : Cond.selects RX12 yX12_saysOf yX12_saysOf ∈ lw_ok := ok_of (List.mem_append_left _ (List.mem_of_getElem? (i := 78) (by decide +kernel))) (by decide +kernel)
theorem mk_m_RX12_330 : Cond.methodLink RX12 330 yX12_saysOf ∈ lw_ok := ok_of (List.mem_append_right _ (List.mem_of_getElem? (i := 1329) (by decide +kernel))) (by decide +kernel)
theorem mk_im_X12_saysOf : Cond.instanceMethod yX12_saysOf ∈ lw_ok := ok_of (List.mem_append_right _ (List.mem_of_getElem? (i := 1331) (by decide +kernel))) (by decide +kernel)
theorem mk_code_X12_isShot : Cond.code yX12_isShot cX12_isShot 2 (some .boolean) ∈ lw_ok := ok_of (List.mem_append_right _ (List.mem_of_getElem? (i := 1348) (by decide +kernel))) (by decide +kernel)
theorem mk_sel_X12_isShot : Cond.selects RX12 yX12_isShot yX12_isShot ∈ lw_ok := ok_of (List.mem_append_left _ (List.mem_of_getElem? (i := 81) (by decide +kernel))) (by decide +kernel)
theorem mk_m_RX12_333 : Cond.methodLink RX12 333 yX12_isShot ∈ lw_ok := ok_of (List.mem_append_right _ (List.mem_of_getElem? (i := 1345) (by decide +kernel))) (by decide +kernel)
theorem mk_im_X12_isShot : Cond.instanceMethod yX12_isShot ∈ lw_ok := ok_of (List.mem_append_right _ (List.mem_of_getElem? (i := 1347) (by decide +kernel))) (by decide +kernel)
theorem mk_code_X12_truthOf : Cond.code yX12_truthOf cX12_truthOf 3 (some .int) ∈ lw_ok := ok_of (List.mem_append_right _ (List.mem_of_getElem? (i := 1352) (by decide +kernel))) (by decide +kernel)
theorem mk_sel_X12_truthOf : Cond.selects RX12 yX12_truthOf yX12_truthOf ∈ lw_ok := ok_of (List.mem_append_left _ (List.mem_of_getElem? (i := 82) (by decide +kernel))) (by decide +kernel)
theorem mk_m_RX12_336 : Cond.methodLink RX12 336 yX12_truthOf ∈ lw_ok := ok_of (List.mem_append_right _ (List.mem_of_getElem? (i := 1349) (by decide +kernel))) (by decide +kernel)
theorem mk_im_X12_truthOf : Cond.instanceMethod yX12_truthOf ∈ lw_ok := ok_of (List.mem_append_right _ (List.mem_of_getElem? (i := 1351) (by decide +kernel))) (by decide +kernel)
theorem mk_code_X12_longest : Cond.code yX12_longest cX12_longest 5 (some .int) ∈ lw_ok := ok_of (List.mem_append_right _ (List.mem_of_getElem? (i := 1360) (by decide +kernel))) (by decide +kernel)
theorem mk_sel_X12_longest : Cond.selects RX12 yX12_longest yX12_longest ∈ lw_ok := ok_of (List.mem_append_left _ (List.mem_of_getElem? (i := 83) (by decide +kernel))) (by decide +kernel)
theorem mk_m_RX12_339 : Cond.methodLink RX12 339 yX12_longest ∈ lw_ok := ok_of (List.mem_append_right _ (List.mem_of_getElem? (i := 1357) (by decide +kernel))) (by decide +kernel)
theorem mk_im_X12_longest : Cond.instanceMethod yX12_longest ∈ lw_ok := ok_of (List.mem_append_right _ (List.mem_of_getElem? (i := 1359) (by decide +kernel))) (by decide +kernel)
theorem mk_f_RX12_342 : Cond.fieldLink RX12 342 RX12 "pairs" "I" ∈ lw_ok := ok_of (List.mem_append_right _ (List.mem_of_getElem? (i := 965) (by decide +kernel))) (by decide +kernel)
theorem mk_code_X12_countOf : Cond.code yX12_countOf cX12_countOf 5 (some .int) ∈ lw_ok := ok_of (List.mem_append_right _ (List.mem_of_getElem? (i := 1384) (by decide +kernel))) (by decide +kernel)
theorem mk_sel_X12_countOf : Cond.selects RX12 yX12_countOf yX12_countOf ∈ lw_ok := ok_of (List.mem_append_left _ (List.mem_of_getElem? (i := 84) (by decide +kernel))) (by decide +kernel)
theorem mk_m_RX12_345 : Cond.methodLink RX12 345 yX12_countOf ∈ lw_ok := ok_of (List.mem_append_right _ (List.mem_of_getElem? (i := 1381) (by decide +kernel))) (by decide +kernel)
theorem mk_im_X12_countOf : Cond.instanceMethod yX12_countOf ∈ lw_ok := ok_of (List.mem_append_right _ (List.mem_of_getElem? (i := 1383) (by decide +kernel))) (by decide +kernel)
theorem mk_code_X12_findsAll : Cond.code yX12_findsAll cX12_findsAll 4 (some .boolean) ∈ lw_ok := ok_of (List.mem_append_right _ (List.mem_of_getElem? (i := 1392) (by decide +kernel))) (by decide +kernel)
theorem mk_sel_X12_findsAll : Cond.selects RX12 yX12_findsAll yX12_findsAll ∈ lw_ok := ok_of (List.mem_append_left _ (List.mem_of_getElem? (i := 85) (by decide +kernel))) (by decide +kernel)
theorem mk_m_RX12_348 : Cond.methodLink RX12 348 yX12_findsAll ∈ lw_ok := ok_of (List.mem_append_right _ (List.mem_of_getElem? (i := 1389) (by decide +kernel))) (by decide +kernel)
theorem mk_im_X12_findsAll : Cond.instanceMethod yX12_findsAll ∈ lw_ok := ok_of (List.mem_append_right _ (List.mem_of_getElem? (i := 1391) (by decide +kernel))) (by decide +kernel)
theorem mk_code_X12_hoursOfSet : Cond.code yX12_hoursOfSet cX12_hoursOfSet 4 (some .int) ∈ lw_ok := ok_of (List.mem_append_right _ (List.mem_of_getElem? (i := 1396) (by decide +kernel))) (by decide +kernel)
theorem mk_sel_X12_hoursOfSet : Cond.selects RX12 yX12_hoursOfSet yX12_hoursOfSet ∈ lw_ok := ok_of (List.mem_append_left _ (List.mem_of_getElem? (i := 86) (by decide +kernel))) (by decide +kernel)
theorem mk_m_RX12_352 : Cond.methodLink RX12 352 yX12_hoursOfSet ∈ lw_ok := ok_of (List.mem_append_right _ (List.mem_of_getElem? (i := 1393) (by decide +kernel))) (by decide +kernel)
theorem mk_im_X12_hoursOfSet : Cond.instanceMethod yX12_hoursOfSet ∈ lw_ok := ok_of (List.mem_append_right _ (List.mem_of_getElem? (i := 1395) (by decide +kernel))) (by decide +kernel)
theorem mk_code_X12_ones : Cond.code yX12_ones cX12_ones 4 (some .int) ∈ lw_ok := ok_of (List.mem_append_right _ (List.mem_of_getElem? (i := 1400) (by decide +kernel))) (by decide +kernel)
theorem mk_sel_X12_ones : Cond.selects RX12 yX12_ones yX12_ones ∈ lw_ok := ok_of (List.mem_append_left _ (List.mem_of_getElem? (i := 87) (by decide +kernel))) (by decide +kernel)
theorem mk_m_RX12_355 : Cond.methodLink RX12 355 yX12_ones ∈ lw_ok := ok_of (List.mem_append_right _ (List.mem_of_getElem? (i := 1397) (by decide +kernel))) (by decide +kernel)
theorem mk_im_X12_ones : Cond.instanceMethod yX12_ones ∈ lw_ok := ok_of (List.mem_append_right _ (List.mem_of_getElem? (i := 1399) (by decide +kernel))) (by decide +kernel)
theorem mk_f_RX12_358 : Cond.fieldLink RX12 358 RX12 "weakest" "I" ∈ lw_ok := ok_of (List.mem_append_right _ (List.mem_of_getElem? (i := 972) (by decide +kernel))) (by decide +kernel)
theorem mk_f_RX12_361 : Cond.fieldLink RX12 361 RX12 "weakestLong" "I" ∈ lw_ok := ok_of (List.mem_append_right _ (List.mem_of_getElem? (i := 973) (by decide +kernel))) (by decide +kernel)
theorem mk_code_X12_bestOf : Cond.code yX12_bestOf cX12_bestOf 7 (some .int) ∈ lw_ok := ok_of (List.mem_append_right _ (List.mem_of_getElem? (i := 1420) (by decide +kernel))) (by decide +kernel)
theorem mk_sel_X12_bestOf : Cond.selects RX12 yX12_bestOf yX12_bestOf ∈ lw_ok := ok_of (List.mem_append_left _ (List.mem_of_getElem? (i := 89) (by decide +kernel))) (by decide +kernel)
theorem mk_m_RX12_364 : Cond.methodLink RX12 364 yX12_bestOf ∈ lw_ok := ok_of (List.mem_append_right _ (List.mem_of_getElem? (i := 1417) (by decide +kernel))) (by decide +kernel)
theorem mk_im_X12_bestOf : Cond.instanceMethod yX12_bestOf ∈ lw_ok := ok_of (List.mem_append_right _ (List.mem_of_getElem? (i := 1419) (by decide +kernel))) (by decide +kernel)
theorem mk_code_X12_joins : Cond.code yX12_joins cX12_joins 6 none ∈ lw_ok := ok_of (List.mem_append_right _ (List.mem_of_getElem? (i := 1424) (by decide +kernel))) (by decide +kernel)
theorem mk_sel_X12_joins : Cond.selects RX12 yX12_joins yX12_joins ∈ lw_ok := ok_of (List.mem_append_left _ (List.mem_of_getElem? (i := 90) (by decide +kernel))) (by decide +kernel)
theorem mk_m_RX12_367 : Cond.methodLink RX12 367 yX12_joins ∈ lw_ok := ok_of (List.mem_append_right _ (List.mem_of_getElem? (i := 1421) (by decide +kernel))) (by decide +kernel)
theorem mk_im_X12_joins : Cond.instanceMethod yX12_joins ∈ lw_ok := ok_of (List.mem_append_right _ (List.mem_of_getElem? (i := 1423) (by decide +kernel))) (by decide +kernel)
theorem mk_code_X12_findsGroups : Cond.code yX12_findsGroups cX12_findsGroups 5 none ∈ lw_ok := ok_of (List.mem_append_right _ (List.mem_of_getElem? (i := 1416) (by decide +kernel))) (by decide +kernel)
theorem mk_sel_X12_findsGroups : Cond.selects RX12 yX12_findsGroups yX12_findsGroups ∈ lw_ok := ok_of (List.mem_append_left _ (List.mem_of_getElem? (i := 88) (by decide +kernel))) (by decide +kernel)
theorem mk_m_RX12_370 : Cond.methodLink RX12 370 yX12_findsGroups ∈ lw_ok := ok_of (List.mem_append_right _ (List.mem_of_getElem? (i := 1413) (by decide +kernel))) (by decide +kernel)
theorem mk_im_X12_findsGroups : Cond.instanceMethod yX12_findsGroups ∈ lw_ok := ok_of (List.mem_append_right _ (List.mem_of_getElem? (i := 1415) (by decide +kernel))) (by decide +kernel)
theorem mk_k_RJ6_265 : Cond.constant RJ6 265 (1431655765 : Int32) ∈ lw_ok := ok_of (List.mem_append_right _ (List.mem_of_getElem? (i := 717) (by decide +kernel))) (by decide +kernel)
theorem mk_k_RJ6_266 : Cond.constant RJ6 266 (858993459 : Int32) ∈ lw_ok := ok_of (List.mem_append_right _ (List.mem_of_getElem? (i := 718) (by decide +kernel))) (by decide +kernel)
theorem mk_k_RJ6_267 : Cond.constant RJ6 267 (252645135 : Int32) ∈ lw_ok := ok_of (List.mem_append_right _ (List.mem_of_getElem? (i := 719) (by decide +kernel))) (by decide +kernel)
theorem mk_f_RJ0_9 : Cond.fieldLink RJ0 9 RJ0 "value" "[B" ∈ lw_ok := ok_of (List.mem_append_right _ (List.mem_of_getElem? (i := 1429) (by decide +kernel))) (by decide +kernel)
theorem mk_f_RJ0_38 : Cond.fieldLink RJ0 38 RJ0 "COMPACT_STRINGS" "Z" ∈ lw_ok := ok_of (List.mem_append_right _ (List.mem_of_getElem? (i := 477) (by decide +kernel))) (by decide +kernel)
theorem mk_f_RJ0_15 : Cond.fieldLink RJ0 15 RJ0 "coder" "B" ∈ lw_ok := ok_of (List.mem_append_right _ (List.mem_of_getElem? (i := 1430) (by decide +kernel))) (by decide +kernel)
theorem mk_f_RJ0_1053 : Cond.fieldLink RJ0 1053 RJ3 "SIOOBE_FORMATTER" "Ljava/util/function/BiFunction;" ∈ lw_ok := ok_of (List.mem_append_right _ (List.mem_of_getElem? (i := 493) (by decide +kernel))) (by decide +kernel)
theorem mk_code_J1_canEncode_9a6ad : Cond.code yJ1_canEncode_9a6ad cJ1_canEncode_9a6ad 1 (some .boolean) ∈ lw_ok := ok_of (List.mem_append_right _ (List.mem_of_getElem? (i := 540) (by decide +kernel))) (by decide +kernel)
theorem mk_m_RJ1_88 : Cond.methodLink RJ1 88 yJ1_canEncode_9a6ad ∈ lw_ok := ok_of (List.mem_append_right _ (List.mem_of_getElem? (i := 538) (by decide +kernel))) (by decide +kernel)
theorem mk_st_J1_canEncode_9a6ad : Cond.static yJ1_canEncode_9a6ad ∈ lw_ok := ok_of (List.mem_append_right _ (List.mem_of_getElem? (i := 539) (by decide +kernel))) (by decide +kernel)
theorem mk_ini_java_lang_StringLatin1 : Cond.initialized RJ1 ∈ lw_ok := ok_of (List.mem_append_right _ (List.mem_of_getElem? (i := 14) (by decide +kernel))) (by decide +kernel)
theorem mk_m_RJ1_92 : Cond.methodLink RJ1 92 Lib.Math.max.name ∈ lw_ok := ok_of (List.mem_append_right _ (List.mem_of_getElem? (i := 541) (by decide +kernel))) (by decide +kernel)
theorem mk_m_RJ1_38 : Cond.methodLink RJ1 38 Lib.Math.min.name ∈ lw_ok := ok_of (List.mem_append_right _ (List.mem_of_getElem? (i := 542) (by decide +kernel))) (by decide +kernel)
theorem mk_code_X7_init : Cond.code yX7_init cX7_init 1 none ∈ lw_ok := ok_of (List.mem_append_right _ (List.mem_of_getElem? (i := 79) (by decide +kernel))) (by decide +kernel)
theorem mk_im_X7_init : Cond.instanceMethod yX7_init ∈ lw_ok := ok_of (List.mem_append_right _ (List.mem_of_getElem? (i := 78) (by decide +kernel))) (by decide +kernel)
theorem mk_f_RX3_12 : Cond.fieldLink RX3 12 RX3 "judged" "LOneBarrel$Text;" ∈ lw_ok := ok_of (List.mem_append_right _ (List.mem_of_getElem? (i := 689) (by decide +kernel))) (by decide +kernel)
theorem mk_m_RX5_69 : Cond.methodLink RX5 69 yX7_isFull ∈ lw_ok := ok_of (List.mem_append_right _ (List.mem_of_getElem? (i := 601) (by decide +kernel))) (by decide +kernel)
theorem mk_code_X7_beginLine : Cond.code yX7_beginLine cX7_beginLine 2 none ∈ lw_ok := ok_of (List.mem_append_right _ (List.mem_of_getElem? (i := 608) (by decide +kernel))) (by decide +kernel)
theorem mk_sel_X7_beginLine : Cond.selects RX7 yX7_beginLine yX7_beginLine ∈ lw_ok := ok_of (List.mem_append_right _ (List.mem_of_getElem? (i := 607) (by decide +kernel))) (by decide +kernel)
theorem mk_m_RX5_73 : Cond.methodLink RX5 73 yX7_beginLine ∈ lw_ok := ok_of (List.mem_append_right _ (List.mem_of_getElem? (i := 605) (by decide +kernel))) (by decide +kernel)
theorem mk_im_X7_beginLine : Cond.instanceMethod yX7_beginLine ∈ lw_ok := ok_of (List.mem_append_right _ (List.mem_of_getElem? (i := 606) (by decide +kernel))) (by decide +kernel)
theorem mk_code_X7_put : Cond.code yX7_put cX7_put 2 none ∈ lw_ok := ok_of (List.mem_append_right _ (List.mem_of_getElem? (i := 641) (by decide +kernel))) (by decide +kernel)
theorem mk_sel_X7_put : Cond.selects RX7 yX7_put yX7_put ∈ lw_ok := ok_of (List.mem_append_right _ (List.mem_of_getElem? (i := 640) (by decide +kernel))) (by decide +kernel)
theorem mk_m_RX5_94 : Cond.methodLink RX5 94 yX7_put ∈ lw_ok := ok_of (List.mem_append_right _ (List.mem_of_getElem? (i := 638) (by decide +kernel))) (by decide +kernel)
theorem mk_im_X7_put : Cond.instanceMethod yX7_put ∈ lw_ok := ok_of (List.mem_append_right _ (List.mem_of_getElem? (i := 639) (by decide +kernel))) (by decide +kernel)
theorem mk_code_X5_isFact : Cond.code yX5_isFact cX5_isFact 2 (some .boolean) ∈ lw_ok := ok_of (List.mem_append_right _ (List.mem_of_getElem? (i := 637) (by decide +kernel))) (by decide +kernel)
theorem mk_sel_X5_isFact : Cond.selects RX5 yX5_isFact yX5_isFact ∈ lw_ok := ok_of (List.mem_append_left _ (List.mem_of_getElem? (i := 23) (by decide +kernel))) (by decide +kernel)
theorem mk_m_RX5_106 : Cond.methodLink RX5 106 yX5_isFact ∈ lw_ok := ok_of (List.mem_append_right _ (List.mem_of_getElem? (i := 634) (by decide +kernel))) (by decide +kernel)
theorem mk_im_X5_isFact : Cond.instanceMethod yX5_isFact ∈ lw_ok := ok_of (List.mem_append_right _ (List.mem_of_getElem? (i := 636) (by decide +kernel))) (by decide +kernel)
theorem mk_code_J6_bitCount_0f7a4 : Cond.code yJ6_bitCount_0f7a4 cJ6_bitCount_0f7a4 1 (some .int) ∈ lw_ok := ok_of (List.mem_append_right _ (List.mem_of_getElem? (i := 716) (by decide +kernel))) (by decide +kernel)
theorem mk_m_RX6_15 : Cond.methodLink RX6 15 yJ6_bitCount_0f7a4 ∈ lw_ok := ok_of (List.mem_append_right _ (List.mem_of_getElem? (i := 714) (by decide +kernel))) (by decide +kernel)
theorem mk_st_J6_bitCount_0f7a4 : Cond.static yJ6_bitCount_0f7a4 ∈ lw_ok := ok_of (List.mem_append_right _ (List.mem_of_getElem? (i := 715) (by decide +kernel))) (by decide +kernel)
theorem mk_ini_java_lang_Integer : Cond.initialized RJ6 ∈ lw_ok := ok_of (List.mem_append_right _ (List.mem_of_getElem? (i := 20) (by decide +kernel))) (by decide +kernel)
theorem mk_code_X6_longestIn : Cond.code yX6_longestIn cX6_longestIn 4 (some .int) ∈ lw_ok := ok_of (List.mem_append_right _ (List.mem_of_getElem? (i := 722) (by decide +kernel))) (by decide +kernel)
theorem mk_m_RX6_21 : Cond.methodLink RX6 21 yX6_longestIn ∈ lw_ok := ok_of (List.mem_append_right _ (List.mem_of_getElem? (i := 720) (by decide +kernel))) (by decide +kernel)
theorem mk_st_X6_longestIn : Cond.static yX6_longestIn ∈ lw_ok := ok_of (List.mem_append_right _ (List.mem_of_getElem? (i := 721) (by decide +kernel))) (by decide +kernel)
theorem mk_code_X2_pack : Cond.code yX2_pack cX2_pack 3 (some .int) ∈ lw_ok := ok_of (List.mem_append_right _ (List.mem_of_getElem? (i := 725) (by decide +kernel))) (by decide +kernel)
theorem mk_m_RX6_24 : Cond.methodLink RX6 24 yX2_pack ∈ lw_ok := ok_of (List.mem_append_right _ (List.mem_of_getElem? (i := 723) (by decide +kernel))) (by decide +kernel)
theorem mk_st_X2_pack : Cond.static yX2_pack ∈ lw_ok := ok_of (List.mem_append_right _ (List.mem_of_getElem? (i := 724) (by decide +kernel))) (by decide +kernel)
theorem mk_code_J7_fill_53178 : Cond.code yJ7_fill_53178 cJ7_fill_53178 4 none ∈ lw_ok := ok_of (List.mem_append_right _ (List.mem_of_getElem? (i := 228) (by decide +kernel))) (by decide +kernel)
theorem mk_m_RX6_36 : Cond.methodLink RX6 36 yJ7_fill_53178 ∈ lw_ok := ok_of (List.mem_append_right _ (List.mem_of_getElem? (i := 743) (by decide +kernel))) (by decide +kernel)
theorem mk_st_J7_fill_53178 : Cond.static yJ7_fill_53178 ∈ lw_ok := ok_of (List.mem_append_right _ (List.mem_of_getElem? (i := 227) (by decide +kernel))) (by decide +kernel)
theorem mk_ini_java_util_Arrays : Cond.initialized RJ7 ∈ lw_ok := ok_of (List.mem_append_right _ (List.mem_of_getElem? (i := 8) (by decide +kernel))) (by decide +kernel)
theorem mk_f_RX6_42 : Cond.fieldLink RX6 42 RX10 "sets" "[I" ∈ lw_ok := ok_of (List.mem_append_right _ (List.mem_of_getElem? (i := 148) (by decide +kernel))) (by decide +kernel)
theorem mk_code_X6_addHair : Cond.code yX6_addHair cX6_addHair 7 none ∈ lw_ok := ok_of (List.mem_append_right _ (List.mem_of_getElem? (i := 746) (by decide +kernel))) (by decide +kernel)
theorem mk_m_RX6_45 : Cond.methodLink RX6 45 yX6_addHair ∈ lw_ok := ok_of (List.mem_append_right _ (List.mem_of_getElem? (i := 744) (by decide +kernel))) (by decide +kernel)
theorem mk_st_X6_addHair : Cond.static yX6_addHair ∈ lw_ok := ok_of (List.mem_append_right _ (List.mem_of_getElem? (i := 745) (by decide +kernel))) (by decide +kernel)
theorem mk_code_X10_tellHair : Cond.code yX10_tellHair cX10_tellHair 3 none ∈ lw_ok := ok_of (List.mem_append_right _ (List.mem_of_getElem? (i := 319) (by decide +kernel))) (by decide +kernel)
theorem mk_sel_X10_tellHair : Cond.selects RX10 yX10_tellHair yX10_tellHair ∈ lw_ok := ok_of (List.mem_append_right _ (List.mem_of_getElem? (i := 318) (by decide +kernel))) (by decide +kernel)
theorem mk_m_RX7_62 : Cond.methodLink RX7 62 yX10_tellHair ∈ lw_ok := ok_of (List.mem_append_right _ (List.mem_of_getElem? (i := 316) (by decide +kernel))) (by decide +kernel)
theorem mk_im_X10_tellHair : Cond.instanceMethod yX10_tellHair ∈ lw_ok := ok_of (List.mem_append_right _ (List.mem_of_getElem? (i := 317) (by decide +kernel))) (by decide +kernel)
theorem mk_ini_OneBarrel_Work : Cond.initialized RX10 ∈ lw_ok := ok_of (List.mem_append_right _ (List.mem_of_getElem? (i := 5) (by decide +kernel))) (by decide +kernel)
theorem mk_f_RX7_66 : Cond.fieldLink RX7 66 RX10 "facts" "[I" ∈ lw_ok := ok_of (List.mem_append_right _ (List.mem_of_getElem? (i := 144) (by decide +kernel))) (by decide +kernel)
theorem mk_code_X7_combined : Cond.code yX7_combined cX7_combined 3 (some .int) ∈ lw_ok := ok_of (List.mem_append_right _ (List.mem_of_getElem? (i := 334) (by decide +kernel))) (by decide +kernel)
theorem mk_m_RX7_85 : Cond.methodLink RX7 85 yX7_combined ∈ lw_ok := ok_of (List.mem_append_right _ (List.mem_of_getElem? (i := 332) (by decide +kernel))) (by decide +kernel)
theorem mk_st_X7_combined : Cond.static yX7_combined ∈ lw_ok := ok_of (List.mem_append_right _ (List.mem_of_getElem? (i := 333) (by decide +kernel))) (by decide +kernel)
theorem mk_m_RX9_19 : Cond.methodLink RX9 19 yJ7_fill_53178 ∈ lw_ok := ok_of (List.mem_append_right _ (List.mem_of_getElem? (i := 226) (by decide +kernel))) (by decide +kernel)
theorem mk_code_X5_init : Cond.code yX5_init cX5_init 2 none ∈ lw_ok := ok_of (List.mem_append_right _ (List.mem_of_getElem? (i := 73) (by decide +kernel))) (by decide +kernel)
theorem mk_im_X5_init : Cond.instanceMethod yX5_init ∈ lw_ok := ok_of (List.mem_append_right _ (List.mem_of_getElem? (i := 72) (by decide +kernel))) (by decide +kernel)
theorem mk_m_RX11_52 : Cond.methodLink RX11 52 yX5_init ∈ lw_ok := ok_of (List.mem_append_right _ (List.mem_of_getElem? (i := 71) (by decide +kernel))) (by decide +kernel)
theorem mk_c_RX11_59 : Cond.classLink RX11 59 RX7 ∈ lw_ok := ok_of (List.mem_append_right _ (List.mem_of_getElem? (i := 134) (by decide +kernel))) (by decide +kernel)
theorem mk_ins_OneBarrel_Work : Cond.instantiable RX10 6 ∈ lw_ok := ok_of (List.mem_append_right _ (List.mem_of_getElem? (i := 137) (by decide +kernel))) (by decide +kernel)
theorem mk_c_RX11_66 : Cond.classLink RX11 66 RX10 ∈ lw_ok := ok_of (List.mem_append_right _ (List.mem_of_getElem? (i := 136) (by decide +kernel))) (by decide +kernel)
theorem mk_code_X10_init : Cond.code yX10_init cX10_init 1 none ∈ lw_ok := ok_of (List.mem_append_right _ (List.mem_of_getElem? (i := 140) (by decide +kernel))) (by decide +kernel)
theorem mk_im_X10_init : Cond.instanceMethod yX10_init ∈ lw_ok := ok_of (List.mem_append_right _ (List.mem_of_getElem? (i := 139) (by decide +kernel))) (by decide +kernel)
theorem mk_code_X9_init : Cond.code yX9_init cX9_init 2 none ∈ lw_ok := ok_of (List.mem_append_right _ (List.mem_of_getElem? (i := 224) (by decide +kernel))) (by decide +kernel)
theorem mk_im_X9_init : Cond.instanceMethod yX9_init ∈ lw_ok := ok_of (List.mem_append_right _ (List.mem_of_getElem? (i := 223) (by decide +kernel))) (by decide +kernel)
theorem mk_m_RX11_77 : Cond.methodLink RX11 77 yX9_init ∈ lw_ok := ok_of (List.mem_append_right _ (List.mem_of_getElem? (i := 222) (by decide +kernel))) (by decide +kernel)
theorem mk_code_X11_isHair : Cond.code yX11_isHair cX11_isHair 1 (some .boolean) ∈ lw_ok := ok_of (List.mem_append_right _ (List.mem_of_getElem? (i := 254) (by decide +kernel))) (by decide +kernel)
theorem mk_m_RX11_84 : Cond.methodLink RX11 84 yX11_isHair ∈ lw_ok := ok_of (List.mem_append_right _ (List.mem_of_getElem? (i := 252) (by decide +kernel))) (by decide +kernel)
theorem mk_st_X11_isHair : Cond.static yX11_isHair ∈ lw_ok := ok_of (List.mem_append_right _ (List.mem_of_getElem? (i := 253) (by decide +kernel))) (by decide +kernel)
theorem mk_code_X11_isHeight : Cond.code yX11_isHeight cX11_isHeight 1 (some .boolean) ∈ lw_ok := ok_of (List.mem_append_right _ (List.mem_of_getElem? (i := 257) (by decide +kernel))) (by decide +kernel)
theorem mk_m_RX11_88 : Cond.methodLink RX11 88 yX11_isHeight ∈ lw_ok := ok_of (List.mem_append_right _ (List.mem_of_getElem? (i := 255) (by decide +kernel))) (by decide +kernel)
theorem mk_st_X11_isHeight : Cond.static yX11_isHeight ∈ lw_ok := ok_of (List.mem_append_right _ (List.mem_of_getElem? (i := 256) (by decide +kernel))) (by decide +kernel)
theorem mk_ins_OneBarrel_Barrel : Cond.instantiable RX1 7 ∈ lw_ok := ok_of (List.mem_append_right _ (List.mem_of_getElem? (i := 262) (by decide +kernel))) (by decide +kernel)
theorem mk_ini_OneBarrel_Barrel : Cond.initialized RX1 ∈ lw_ok := ok_of (List.mem_append_right _ (List.mem_of_getElem? (i := 9) (by decide +kernel))) (by decide +kernel)
theorem mk_code_X1_init : Cond.code yX1_init cX1_init 4 none ∈ lw_ok := ok_of (List.mem_append_right _ (List.mem_of_getElem? (i := 265) (by decide +kernel))) (by decide +kernel)
theorem mk_im_X1_init : Cond.instanceMethod yX1_init ∈ lw_ok := ok_of (List.mem_append_right _ (List.mem_of_getElem? (i := 264) (by decide +kernel))) (by decide +kernel)
theorem mk_m_RX11_98 : Cond.methodLink RX11 98 yX1_init ∈ lw_ok := ok_of (List.mem_append_right _ (List.mem_of_getElem? (i := 263) (by decide +kernel))) (by decide +kernel)
theorem mk_f_RX11_101 : Cond.fieldLink RX11 101 RX9 "cuts" "I" ∈ lw_ok := ok_of (List.mem_append_right _ (List.mem_of_getElem? (i := 236) (by decide +kernel))) (by decide +kernel)
theorem mk_code_X10_tellShot : Cond.code yX10_tellShot cX10_tellShot 4 none ∈ lw_ok := ok_of (List.mem_append_right _ (List.mem_of_getElem? (i := 306) (by decide +kernel))) (by decide +kernel)
theorem mk_sel_X10_tellShot : Cond.selects RX10 yX10_tellShot yX10_tellShot ∈ lw_ok := ok_of (List.mem_append_right _ (List.mem_of_getElem? (i := 305) (by decide +kernel))) (by decide +kernel)
theorem mk_m_RX11_104 : Cond.methodLink RX11 104 yX10_tellShot ∈ lw_ok := ok_of (List.mem_append_right _ (List.mem_of_getElem? (i := 303) (by decide +kernel))) (by decide +kernel)
theorem mk_im_X10_tellShot : Cond.instanceMethod yX10_tellShot ∈ lw_ok := ok_of (List.mem_append_right _ (List.mem_of_getElem? (i := 304) (by decide +kernel))) (by decide +kernel)
theorem mk_f_RX11_108 : Cond.fieldLink RX11 108 RX9 "state" "I" ∈ lw_ok := ok_of (List.mem_append_right _ (List.mem_of_getElem? (i := 234) (by decide +kernel))) (by decide +kernel)
theorem mk_f_RX11_132 : Cond.fieldLink RX11 132 RX1 "state" "I" ∈ lw_ok := ok_of (List.mem_append_right _ (List.mem_of_getElem? (i := 284) (by decide +kernel))) (by decide +kernel)
theorem mk_code_X3_forgetBall : Cond.code yX3_forgetBall cX3_forgetBall 3 none ∈ lw_ok := ok_of (List.mem_append_right _ (List.mem_of_getElem? (i := 402) (by decide +kernel))) (by decide +kernel)
theorem mk_sel_X3_forgetBall : Cond.selects RX3 yX3_forgetBall yX3_forgetBall ∈ lw_ok := ok_of (List.mem_append_right _ (List.mem_of_getElem? (i := 401) (by decide +kernel))) (by decide +kernel)
theorem mk_m_RX11_148 : Cond.methodLink RX11 148 yX3_forgetBall ∈ lw_ok := ok_of (List.mem_append_right _ (List.mem_of_getElem? (i := 399) (by decide +kernel))) (by decide +kernel)
theorem mk_im_X3_forgetBall : Cond.instanceMethod yX3_forgetBall ∈ lw_ok := ok_of (List.mem_append_right _ (List.mem_of_getElem? (i := 400) (by decide +kernel))) (by decide +kernel)
theorem mk_code_X11_rowOf : Cond.code yX11_rowOf cX11_rowOf 4 (some (.array .int)) ∈ lw_ok := ok_of (List.mem_append_right _ (List.mem_of_getElem? (i := 410) (by decide +kernel))) (by decide +kernel)
theorem mk_sel_X11_rowOf : Cond.selects RX11 yX11_rowOf yX11_rowOf ∈ lw_ok := ok_of (List.mem_append_left _ (List.mem_of_getElem? (i := 6) (by decide +kernel))) (by decide +kernel)
theorem mk_m_RX11_151 : Cond.methodLink RX11 151 yX11_rowOf ∈ lw_ok := ok_of (List.mem_append_right _ (List.mem_of_getElem? (i := 407) (by decide +kernel))) (by decide +kernel)
theorem mk_im_X11_rowOf : Cond.instanceMethod yX11_rowOf ∈ lw_ok := ok_of (List.mem_append_right _ (List.mem_of_getElem? (i := 409) (by decide +kernel))) (by decide +kernel)
theorem mk_code_X11_ofBarrel : Cond.code yX11_ofBarrel cX11_ofBarrel 2 (some .int) ∈ lw_ok := ok_of (List.mem_append_right _ (List.mem_of_getElem? (i := 424) (by decide +kernel))) (by decide +kernel)
theorem mk_m_RX11_159 : Cond.methodLink RX11 159 yX11_ofBarrel ∈ lw_ok := ok_of (List.mem_append_right _ (List.mem_of_getElem? (i := 422) (by decide +kernel))) (by decide +kernel)
theorem mk_st_X11_ofBarrel : Cond.static yX11_ofBarrel ∈ lw_ok := ok_of (List.mem_append_right _ (List.mem_of_getElem? (i := 423) (by decide +kernel))) (by decide +kernel)
theorem mk_code_X11_ofBall : Cond.code yX11_ofBall cX11_ofBall 2 (some .int) ∈ lw_ok := ok_of (List.mem_append_right _ (List.mem_of_getElem? (i := 417) (by decide +kernel))) (by decide +kernel)
theorem mk_m_RX11_155 : Cond.methodLink RX11 155 yX11_ofBall ∈ lw_ok := ok_of (List.mem_append_right _ (List.mem_of_getElem? (i := 415) (by decide +kernel))) (by decide +kernel)
theorem mk_st_X11_ofBall : Cond.static yX11_ofBall ∈ lw_ok := ok_of (List.mem_append_right _ (List.mem_of_getElem? (i := 416) (by decide +kernel))) (by decide +kernel)
theorem mk_code_X3_init : Cond.code yX3_init cX3_init 2 none ∈ lw_ok := ok_of (List.mem_append_right _ (List.mem_of_getElem? (i := 683) (by decide +kernel))) (by decide +kernel)
theorem mk_im_X3_init : Cond.instanceMethod yX3_init ∈ lw_ok := ok_of (List.mem_append_right _ (List.mem_of_getElem? (i := 682) (by decide +kernel))) (by decide +kernel)
theorem mk_m_RX11_198 : Cond.methodLink RX11 198 yX3_init ∈ lw_ok := ok_of (List.mem_append_right _ (List.mem_of_getElem? (i := 681) (by decide +kernel))) (by decide +kernel)
theorem mk_k_RX11_250 : Cond.constant RX11 250 (262144 : Int32) ∈ lw_ok := ok_of (List.mem_append_right _ (List.mem_of_getElem? (i := 797) (by decide +kernel))) (by decide +kernel)
theorem mk_ins_OneBarrel_Pair : Cond.instantiable RX4 3 ∈ lw_ok := ok_of (List.mem_append_right _ (List.mem_of_getElem? (i := 814) (by decide +kernel))) (by decide +kernel)
theorem mk_ini_OneBarrel_Pair : Cond.initialized RX4 ∈ lw_ok := ok_of (List.mem_append_right _ (List.mem_of_getElem? (i := 22) (by decide +kernel))) (by decide +kernel)
theorem mk_code_X4_init : Cond.code yX4_init cX4_init 4 none ∈ lw_ok := ok_of (List.mem_append_right _ (List.mem_of_getElem? (i := 817) (by decide +kernel))) (by decide +kernel)
theorem mk_im_X4_init : Cond.instanceMethod yX4_init ∈ lw_ok := ok_of (List.mem_append_right _ (List.mem_of_getElem? (i := 816) (by decide +kernel))) (by decide +kernel)
theorem mk_m_RX11_261 : Cond.methodLink RX11 261 yX4_init ∈ lw_ok := ok_of (List.mem_append_right _ (List.mem_of_getElem? (i := 815) (by decide +kernel))) (by decide +kernel)
theorem mk_code_X11_misledBy : Cond.code yX11_misledBy cX11_misledBy 4 (some .int) ∈ lw_ok := ok_of (List.mem_append_right _ (List.mem_of_getElem? (i := 855) (by decide +kernel))) (by decide +kernel)
theorem mk_sel_X11_misledBy : Cond.selects RX11 yX11_misledBy yX11_misledBy ∈ lw_ok := ok_of (List.mem_append_left _ (List.mem_of_getElem? (i := 30) (by decide +kernel))) (by decide +kernel)
theorem mk_m_RX11_321 : Cond.methodLink RX11 321 yX11_misledBy ∈ lw_ok := ok_of (List.mem_append_right _ (List.mem_of_getElem? (i := 852) (by decide +kernel))) (by decide +kernel)
theorem mk_im_X11_misledBy : Cond.instanceMethod yX11_misledBy ∈ lw_ok := ok_of (List.mem_append_right _ (List.mem_of_getElem? (i := 854) (by decide +kernel))) (by decide +kernel)
theorem mk_code_X11_hoursOf : Cond.code yX11_hoursOf cX11_hoursOf 5 (some .int) ∈ lw_ok := ok_of (List.mem_append_right _ (List.mem_of_getElem? (i := 863) (by decide +kernel))) (by decide +kernel)
theorem mk_sel_X11_hoursOf : Cond.selects RX11 yX11_hoursOf yX11_hoursOf ∈ lw_ok := ok_of (List.mem_append_left _ (List.mem_of_getElem? (i := 32) (by decide +kernel))) (by decide +kernel)
theorem mk_m_RX11_274 : Cond.methodLink RX11 274 yX11_hoursOf ∈ lw_ok := ok_of (List.mem_append_right _ (List.mem_of_getElem? (i := 860) (by decide +kernel))) (by decide +kernel)
theorem mk_im_X11_hoursOf : Cond.instanceMethod yX11_hoursOf ∈ lw_ok := ok_of (List.mem_append_right _ (List.mem_of_getElem? (i := 862) (by decide +kernel))) (by decide +kernel)
theorem mk_m_RX11_232 : Cond.methodLink RX11 232 yJ6_bitCount_0f7a4 ∈ lw_ok := ok_of (List.mem_append_right _ (List.mem_of_getElem? (i := 749) (by decide +kernel))) (by decide +kernel)
theorem mk_code_X12_changes : Cond.code yX12_changes cX12_changes 5 none ∈ lw_ok := ok_of (List.mem_append_right _ (List.mem_of_getElem? (i := 1126) (by decide +kernel))) (by decide +kernel)
theorem mk_sel_X12_changes : Cond.selects RX12 yX12_changes yX12_changes ∈ lw_ok := ok_of (List.mem_append_left _ (List.mem_of_getElem? (i := 41) (by decide +kernel))) (by decide +kernel)
theorem mk_m_RX12_158 : Cond.methodLink RX12 158 yX12_changes ∈ lw_ok := ok_of (List.mem_append_right _ (List.mem_of_getElem? (i := 1123) (by decide +kernel))) (by decide +kernel)
theorem mk_im_X12_changes : Cond.instanceMethod yX12_changes ∈ lw_ok := ok_of (List.mem_append_right _ (List.mem_of_getElem? (i := 1125) (by decide +kernel))) (by decide +kernel)
theorem mk_code_J0_coder_7d493 : Cond.code yJ0_coder_7d493 cJ0_coder_7d493 1 (some .byte) ∈ lw_ok := ok_of (List.mem_append_right _ (List.mem_of_getElem? (i := 476) (by decide +kernel))) (by decide +kernel)
theorem mk_sel_J0_coder_7d493 : Cond.selects RJ0 yJ0_coder_7d493 yJ0_coder_7d493 ∈ lw_ok := ok_of (List.mem_append_right _ (List.mem_of_getElem? (i := 475) (by decide +kernel))) (by decide +kernel)
theorem mk_m_RJ0_335 : Cond.methodLink RJ0 335 yJ0_coder_7d493 ∈ lw_ok := ok_of (List.mem_append_right _ (List.mem_of_getElem? (i := 473) (by decide +kernel))) (by decide +kernel)
theorem mk_im_J0_coder_7d493 : Cond.instanceMethod yJ0_coder_7d493 ∈ lw_ok := ok_of (List.mem_append_right _ (List.mem_of_getElem? (i := 474) (by decide +kernel))) (by decide +kernel)
theorem mk_ini_java_lang_String : Cond.initialized RJ0 ∈ lw_ok := ok_of (List.mem_append_right _ (List.mem_of_getElem? (i := 13) (by decide +kernel))) (by decide +kernel)
theorem mk_code_J0_isLatin1_aae02 : Cond.code yJ0_isLatin1_aae02 cJ0_isLatin1_aae02 1 (some .boolean) ∈ lw_ok := ok_of (List.mem_append_right _ (List.mem_of_getElem? (i := 486) (by decide +kernel))) (by decide +kernel)
theorem mk_sel_J0_isLatin1_aae02 : Cond.selects RJ0 yJ0_isLatin1_aae02 yJ0_isLatin1_aae02 ∈ lw_ok := ok_of (List.mem_append_right _ (List.mem_of_getElem? (i := 485) (by decide +kernel))) (by decide +kernel)
theorem mk_m_RJ0_492 : Cond.methodLink RJ0 492 yJ0_isLatin1_aae02 ∈ lw_ok := ok_of (List.mem_append_right _ (List.mem_of_getElem? (i := 483) (by decide +kernel))) (by decide +kernel)
theorem mk_im_J0_isLatin1_aae02 : Cond.instanceMethod yJ0_isLatin1_aae02 ∈ lw_ok := ok_of (List.mem_append_right _ (List.mem_of_getElem? (i := 484) (by decide +kernel))) (by decide +kernel)
theorem mk_code_J0_length_8abf5 : Cond.code yJ0_length_8abf5 cJ0_length_8abf5 1 (some .int) ∈ lw_ok := ok_of (List.mem_append_right _ (List.mem_of_getElem? (i := 472) (by decide +kernel))) (by decide +kernel)
theorem mk_sel_J0_length_8abf5 : Cond.selects RJ0 yJ0_length_8abf5 yJ0_length_8abf5 ∈ lw_ok := ok_of (List.mem_append_right _ (List.mem_of_getElem? (i := 471) (by decide +kernel))) (by decide +kernel)
theorem mk_m_RJ0_505 : Cond.methodLink RJ0 505 yJ0_length_8abf5 ∈ lw_ok := ok_of (List.mem_append_right _ (List.mem_of_getElem? (i := 534) (by decide +kernel))) (by decide +kernel)
theorem mk_im_J0_length_8abf5 : Cond.instanceMethod yJ0_length_8abf5 ∈ lw_ok := ok_of (List.mem_append_right _ (List.mem_of_getElem? (i := 470) (by decide +kernel))) (by decide +kernel)
theorem mk_code_J3_checkIndex_8e157 : Cond.code yJ3_checkIndex_8e157 cJ3_checkIndex_8e157 3 (some .int) ∈ lw_ok := ok_of (List.mem_append_right _ (List.mem_of_getElem? (i := 497) (by decide +kernel))) (by decide +kernel)
theorem mk_m_RJ0_1059 : Cond.methodLink RJ0 1059 yJ3_checkIndex_8e157 ∈ lw_ok := ok_of (List.mem_append_right _ (List.mem_of_getElem? (i := 495) (by decide +kernel))) (by decide +kernel)
theorem mk_st_J3_checkIndex_8e157 : Cond.static yJ3_checkIndex_8e157 ∈ lw_ok := ok_of (List.mem_append_right _ (List.mem_of_getElem? (i := 496) (by decide +kernel))) (by decide +kernel)
theorem mk_ini_jdk_internal_util_Preconditions : Cond.initialized RJ3 ∈ lw_ok := ok_of (List.mem_append_right _ (List.mem_of_getElem? (i := 15) (by decide +kernel))) (by decide +kernel)
theorem mk_code_J0_checkIndex_df160 : Cond.code yJ0_checkIndex_df160 cJ0_checkIndex_df160 2 none ∈ lw_ok := ok_of (List.mem_append_right _ (List.mem_of_getElem? (i := 492) (by decide +kernel))) (by decide +kernel)
theorem mk_m_RJ1_9 : Cond.methodLink RJ1 9 yJ0_checkIndex_df160 ∈ lw_ok := ok_of (List.mem_append_right _ (List.mem_of_getElem? (i := 490) (by decide +kernel))) (by decide +kernel)
theorem mk_st_J0_checkIndex_df160 : Cond.static yJ0_checkIndex_df160 ∈ lw_ok := ok_of (List.mem_append_right _ (List.mem_of_getElem? (i := 491) (by decide +kernel))) (by decide +kernel)
theorem mk_code_J1_indexOfChar_4cfef : Cond.code yJ1_indexOfChar_4cfef cJ1_indexOfChar_4cfef 6 (some .int) ∈ lw_ok := ok_of (List.mem_append_right _ (List.mem_of_getElem? (i := 545) (by decide +kernel))) (by decide +kernel)
theorem mk_m_RJ1_95 : Cond.methodLink RJ1 95 yJ1_indexOfChar_4cfef ∈ lw_ok := ok_of (List.mem_append_right _ (List.mem_of_getElem? (i := 543) (by decide +kernel))) (by decide +kernel)
theorem mk_st_J1_indexOfChar_4cfef : Cond.static yJ1_indexOfChar_4cfef ∈ lw_ok := ok_of (List.mem_append_right _ (List.mem_of_getElem? (i := 544) (by decide +kernel))) (by decide +kernel)
theorem mk_code_X6_measure : Cond.code yX6_measure cX6_measure 9 (some .int) ∈ lw_ok := ok_of (List.mem_append_right _ (List.mem_of_getElem? (i := 710) (by decide +kernel))) (by decide +kernel)
theorem mk_m_RX3_38 : Cond.methodLink RX3 38 yX6_measure ∈ lw_ok := ok_of (List.mem_append_right _ (List.mem_of_getElem? (i := 708) (by decide +kernel))) (by decide +kernel)
theorem mk_st_X6_measure : Cond.static yX6_measure ∈ lw_ok := ok_of (List.mem_append_right _ (List.mem_of_getElem? (i := 709) (by decide +kernel))) (by decide +kernel)
theorem mk_code_X6_pieces : Cond.code yX6_pieces cX6_pieces 6 (some .int) ∈ lw_ok := ok_of (List.mem_append_right _ (List.mem_of_getElem? (i := 742) (by decide +kernel))) (by decide +kernel)
theorem mk_m_RX3_45 : Cond.methodLink RX3 45 yX6_pieces ∈ lw_ok := ok_of (List.mem_append_right _ (List.mem_of_getElem? (i := 740) (by decide +kernel))) (by decide +kernel)
theorem mk_st_X6_pieces : Cond.static yX6_pieces ∈ lw_ok := ok_of (List.mem_append_right _ (List.mem_of_getElem? (i := 741) (by decide +kernel))) (by decide +kernel)
theorem mk_code_X3_measured : Cond.code yX3_measured cX3_measured 4 (some .int) ∈ lw_ok := ok_of (List.mem_append_right _ (List.mem_of_getElem? (i := 706) (by decide +kernel))) (by decide +kernel)
theorem mk_sel_X3_measured : Cond.selects RX3 yX3_measured yX3_measured ∈ lw_ok := ok_of (List.mem_append_right _ (List.mem_of_getElem? (i := 705) (by decide +kernel))) (by decide +kernel)
theorem mk_m_RX3_49 : Cond.methodLink RX3 49 yX3_measured ∈ lw_ok := ok_of (List.mem_append_right _ (List.mem_of_getElem? (i := 762) (by decide +kernel))) (by decide +kernel)
theorem mk_im_X3_measured : Cond.instanceMethod yX3_measured ∈ lw_ok := ok_of (List.mem_append_right _ (List.mem_of_getElem? (i := 704) (by decide +kernel))) (by decide +kernel)
theorem mk_code_X2_slide : Cond.code yX2_slide cX2_slide 1 (some .int) ∈ lw_ok := ok_of (List.mem_append_right _ (List.mem_of_getElem? (i := 731) (by decide +kernel))) (by decide +kernel)
theorem mk_m_RX3_53 : Cond.methodLink RX3 53 yX2_slide ∈ lw_ok := ok_of (List.mem_append_right _ (List.mem_of_getElem? (i := 765) (by decide +kernel))) (by decide +kernel)
theorem mk_st_X2_slide : Cond.static yX2_slide ∈ lw_ok := ok_of (List.mem_append_right _ (List.mem_of_getElem? (i := 730) (by decide +kernel))) (by decide +kernel)
theorem mk_m_RX3_57 : Cond.methodLink RX3 57 yX6_runs ∈ lw_ok := ok_of (List.mem_append_right _ (List.mem_of_getElem? (i := 792) (by decide +kernel))) (by decide +kernel)
theorem mk_f_RX3_65 : Cond.fieldLink RX3 65 RX10 "facts" "[I" ∈ lw_ok := ok_of (List.mem_append_right _ (List.mem_of_getElem? (i := 143) (by decide +kernel))) (by decide +kernel)
theorem mk_m_RX3_70 : Cond.methodLink RX3 70 yX2_many ∈ lw_ok := ok_of (List.mem_append_right _ (List.mem_of_getElem? (i := 763) (by decide +kernel))) (by decide +kernel)
theorem mk_m_RX3_73 : Cond.methodLink RX3 73 yX2_longest ∈ lw_ok := ok_of (List.mem_append_right _ (List.mem_of_getElem? (i := 764) (by decide +kernel))) (by decide +kernel)
theorem mk_f_RX3_76 : Cond.fieldLink RX3 76 RX7 "asksPieces" "Z" ∈ lw_ok := ok_of (List.mem_append_right _ (List.mem_of_getElem? (i := 93) (by decide +kernel))) (by decide +kernel)
theorem mk_m_RX3_84 : Cond.methodLink RX3 84 yX0_missing ∈ lw_ok := ok_of (List.mem_append_right _ (List.mem_of_getElem? (i := 767) (by decide +kernel))) (by decide +kernel)
theorem mk_f_RX3_88 : Cond.fieldLink RX3 88 RX7 "lines" "I" ∈ lw_ok := ok_of (List.mem_append_right _ (List.mem_of_getElem? (i := 90) (by decide +kernel))) (by decide +kernel)
theorem mk_code_X5_readBoth : Cond.code yX5_readBoth cX5_readBoth 3 none ∈ lw_ok := ok_of (List.mem_append_right _ (List.mem_of_getElem? (i := 617) (by decide +kernel))) (by decide +kernel)
theorem mk_sel_X5_readBoth : Cond.selects RX5 yX5_readBoth yX5_readBoth ∈ lw_ok := ok_of (List.mem_append_left _ (List.mem_of_getElem? (i := 18) (by decide +kernel))) (by decide +kernel)
theorem mk_m_RX5_91 : Cond.methodLink RX5 91 yX5_readBoth ∈ lw_ok := ok_of (List.mem_append_right _ (List.mem_of_getElem? (i := 614) (by decide +kernel))) (by decide +kernel)
theorem mk_im_X5_readBoth : Cond.instanceMethod yX5_readBoth ∈ lw_ok := ok_of (List.mem_append_right _ (List.mem_of_getElem? (i := 616) (by decide +kernel))) (by decide +kernel)
theorem mk_code_X5_readEither : Cond.code yX5_readEither cX5_readEither 3 none ∈ lw_ok := ok_of (List.mem_append_right _ (List.mem_of_getElem? (i := 613) (by decide +kernel))) (by decide +kernel)
theorem mk_sel_X5_readEither : Cond.selects RX5 yX5_readEither yX5_readEither ∈ lw_ok := ok_of (List.mem_append_left _ (List.mem_of_getElem? (i := 17) (by decide +kernel))) (by decide +kernel)
theorem mk_m_RX5_76 : Cond.methodLink RX5 76 yX5_readEither ∈ lw_ok := ok_of (List.mem_append_right _ (List.mem_of_getElem? (i := 610) (by decide +kernel))) (by decide +kernel)
theorem mk_im_X5_readEither : Cond.instanceMethod yX5_readEither ∈ lw_ok := ok_of (List.mem_append_right _ (List.mem_of_getElem? (i := 612) (by decide +kernel))) (by decide +kernel)
theorem mk_code_X5_expect : Cond.code yX5_expect cX5_expect 2 none ∈ lw_ok := ok_of (List.mem_append_right _ (List.mem_of_getElem? (i := 645) (by decide +kernel))) (by decide +kernel)
theorem mk_sel_X5_expect : Cond.selects RX5 yX5_expect yX5_expect ∈ lw_ok := ok_of (List.mem_append_left _ (List.mem_of_getElem? (i := 24) (by decide +kernel))) (by decide +kernel)
theorem mk_m_RX5_85 : Cond.methodLink RX5 85 yX5_expect ∈ lw_ok := ok_of (List.mem_append_right _ (List.mem_of_getElem? (i := 642) (by decide +kernel))) (by decide +kernel)
theorem mk_im_X5_expect : Cond.instanceMethod yX5_expect ∈ lw_ok := ok_of (List.mem_append_right _ (List.mem_of_getElem? (i := 644) (by decide +kernel))) (by decide +kernel)
theorem mk_code_X5_readPart : Cond.code yX5_readPart cX5_readPart 2 none ∈ lw_ok := ok_of (List.mem_append_right _ (List.mem_of_getElem? (i := 633) (by decide +kernel))) (by decide +kernel)
theorem mk_sel_X5_readPart : Cond.selects RX5 yX5_readPart yX5_readPart ∈ lw_ok := ok_of (List.mem_append_left _ (List.mem_of_getElem? (i := 22) (by decide +kernel))) (by decide +kernel)
theorem mk_m_RX5_103 : Cond.methodLink RX5 103 yX5_readPart ∈ lw_ok := ok_of (List.mem_append_right _ (List.mem_of_getElem? (i := 630) (by decide +kernel))) (by decide +kernel)
theorem mk_im_X5_readPart : Cond.instanceMethod yX5_readPart ∈ lw_ok := ok_of (List.mem_append_right _ (List.mem_of_getElem? (i := 632) (by decide +kernel))) (by decide +kernel)
theorem mk_code_X7_value : Cond.code yX7_value cX7_value 7 (some .int) ∈ lw_ok := ok_of (List.mem_append_right _ (List.mem_of_getElem? (i := 331) (by decide +kernel))) (by decide +kernel)
theorem mk_sel_X7_value : Cond.selects RX7 yX7_value yX7_value ∈ lw_ok := ok_of (List.mem_append_left _ (List.mem_of_getElem? (i := 2) (by decide +kernel))) (by decide +kernel)
theorem mk_m_RX7_45 : Cond.methodLink RX7 45 yX7_value ∈ lw_ok := ok_of (List.mem_append_right _ (List.mem_of_getElem? (i := 328) (by decide +kernel))) (by decide +kernel)
theorem mk_im_X7_value : Cond.instanceMethod yX7_value ∈ lw_ok := ok_of (List.mem_append_right _ (List.mem_of_getElem? (i := 330) (by decide +kernel))) (by decide +kernel)
theorem mk_code_X7_isSo : Cond.code yX7_isSo cX7_isSo 3 (some .boolean) ∈ lw_ok := ok_of (List.mem_append_right _ (List.mem_of_getElem? (i := 327) (by decide +kernel))) (by decide +kernel)
theorem mk_sel_X7_isSo : Cond.selects RX7 yX7_isSo yX7_isSo ∈ lw_ok := ok_of (List.mem_append_right _ (List.mem_of_getElem? (i := 326) (by decide +kernel))) (by decide +kernel)
theorem mk_m_RX7_72 : Cond.methodLink RX7 72 yX7_isSo ∈ lw_ok := ok_of (List.mem_append_right _ (List.mem_of_getElem? (i := 324) (by decide +kernel))) (by decide +kernel)
theorem mk_im_X7_isSo : Cond.instanceMethod yX7_isSo ∈ lw_ok := ok_of (List.mem_append_right _ (List.mem_of_getElem? (i := 325) (by decide +kernel))) (by decide +kernel)
theorem mk_m_RX7_76 : Cond.methodLink RX7 76 Lib.Math.min.name ∈ lw_ok := ok_of (List.mem_append_right _ (List.mem_of_getElem? (i := 335) (by decide +kernel))) (by decide +kernel)
theorem mk_m_RX7_82 : Cond.methodLink RX7 82 Lib.Math.max.name ∈ lw_ok := ok_of (List.mem_append_right _ (List.mem_of_getElem? (i := 338) (by decide +kernel))) (by decide +kernel)
theorem mk_code_X8_isStart : Cond.code yX8_isStart cX8_isStart 3 (some .boolean) ∈ lw_ok := ok_of (List.mem_append_right _ (List.mem_of_getElem? (i := 452) (by decide +kernel))) (by decide +kernel)
theorem mk_sel_X8_isStart : Cond.selects RX8 yX8_isStart yX8_isStart ∈ lw_ok := ok_of (List.mem_append_left _ (List.mem_of_getElem? (i := 7) (by decide +kernel))) (by decide +kernel)
theorem mk_m_RX8_28 : Cond.methodLink RX8 28 yX8_isStart ∈ lw_ok := ok_of (List.mem_append_right _ (List.mem_of_getElem? (i := 449) (by decide +kernel))) (by decide +kernel)
theorem mk_im_X8_isStart : Cond.instanceMethod yX8_isStart ∈ lw_ok := ok_of (List.mem_append_right _ (List.mem_of_getElem? (i := 451) (by decide +kernel))) (by decide +kernel)
theorem mk_m_RX8_58 : Cond.methodLink RX8 58 yJ0_length_8abf5 ∈ lw_ok := ok_of (List.mem_append_right _ (List.mem_of_getElem? (i := 469) (by decide +kernel))) (by decide +kernel)
theorem mk_m_RX11_199 : Cond.methodLink RX11 199 yX3_measured ∈ lw_ok := ok_of (List.mem_append_right _ (List.mem_of_getElem? (i := 703) (by decide +kernel))) (by decide +kernel)
theorem mk_m_RX11_203 : Cond.methodLink RX11 203 yX2_many ∈ lw_ok := ok_of (List.mem_append_right _ (List.mem_of_getElem? (i := 726) (by decide +kernel))) (by decide +kernel)
theorem mk_m_RX11_209 : Cond.methodLink RX11 209 yX2_slide ∈ lw_ok := ok_of (List.mem_append_right _ (List.mem_of_getElem? (i := 729) (by decide +kernel))) (by decide +kernel)
theorem mk_m_RX11_212 : Cond.methodLink RX11 212 yX2_longest ∈ lw_ok := ok_of (List.mem_append_right _ (List.mem_of_getElem? (i := 732) (by decide +kernel))) (by decide +kernel)
theorem mk_code_X3_piecesOf : Cond.code yX3_piecesOf cX3_piecesOf 6 (some .int) ∈ lw_ok := ok_of (List.mem_append_right _ (List.mem_of_getElem? (i := 738) (by decide +kernel))) (by decide +kernel)
theorem mk_sel_X3_piecesOf : Cond.selects RX3 yX3_piecesOf yX3_piecesOf ∈ lw_ok := ok_of (List.mem_append_right _ (List.mem_of_getElem? (i := 737) (by decide +kernel))) (by decide +kernel)
theorem mk_m_RX11_215 : Cond.methodLink RX11 215 yX3_piecesOf ∈ lw_ok := ok_of (List.mem_append_right _ (List.mem_of_getElem? (i := 735) (by decide +kernel))) (by decide +kernel)
theorem mk_im_X3_piecesOf : Cond.instanceMethod yX3_piecesOf ∈ lw_ok := ok_of (List.mem_append_right _ (List.mem_of_getElem? (i := 736) (by decide +kernel))) (by decide +kernel)
theorem mk_f_RX11_223 : Cond.fieldLink RX11 223 RX3 "margin" "I" ∈ lw_ok := ok_of (List.mem_append_right _ (List.mem_of_getElem? (i := 688) (by decide +kernel))) (by decide +kernel)
theorem mk_m_RX11_226 : Cond.methodLink RX11 226 yX6_runs ∈ lw_ok := ok_of (List.mem_append_right _ (List.mem_of_getElem? (i := 748) (by decide +kernel))) (by decide +kernel)
theorem mk_code_X3_runsUnderBest : Cond.code yX3_runsUnderBest cX3_runsUnderBest 3 (some .int) ∈ lw_ok := ok_of (List.mem_append_right _ (List.mem_of_getElem? (i := 791) (by decide +kernel))) (by decide +kernel)
theorem mk_sel_X3_runsUnderBest : Cond.selects RX3 yX3_runsUnderBest yX3_runsUnderBest ∈ lw_ok := ok_of (List.mem_append_right _ (List.mem_of_getElem? (i := 790) (by decide +kernel))) (by decide +kernel)
theorem mk_m_RX11_247 : Cond.methodLink RX11 247 yX3_runsUnderBest ∈ lw_ok := ok_of (List.mem_append_right _ (List.mem_of_getElem? (i := 788) (by decide +kernel))) (by decide +kernel)
theorem mk_im_X3_runsUnderBest : Cond.instanceMethod yX3_runsUnderBest ∈ lw_ok := ok_of (List.mem_append_right _ (List.mem_of_getElem? (i := 789) (by decide +kernel))) (by decide +kernel)
theorem mk_code_X2_likeness : Cond.code yX2_likeness cX2_likeness 2 (some .int) ∈ lw_ok := ok_of (List.mem_append_right _ (List.mem_of_getElem? (i := 804) (by decide +kernel))) (by decide +kernel)
theorem mk_m_RX11_314 : Cond.methodLink RX11 314 yX2_likeness ∈ lw_ok := ok_of (List.mem_append_right _ (List.mem_of_getElem? (i := 802) (by decide +kernel))) (by decide +kernel)
theorem mk_st_X2_likeness : Cond.static yX2_likeness ∈ lw_ok := ok_of (List.mem_append_right _ (List.mem_of_getElem? (i := 803) (by decide +kernel))) (by decide +kernel)
theorem mk_code_X11_isCheaper : Cond.code yX11_isCheaper cX11_isCheaper 5 (some .boolean) ∈ lw_ok := ok_of (List.mem_append_right _ (List.mem_of_getElem? (i := 859) (by decide +kernel))) (by decide +kernel)
theorem mk_sel_X11_isCheaper : Cond.selects RX11 yX11_isCheaper yX11_isCheaper ∈ lw_ok := ok_of (List.mem_append_left _ (List.mem_of_getElem? (i := 31) (by decide +kernel))) (by decide +kernel)
theorem mk_m_RX11_324 : Cond.methodLink RX11 324 yX11_isCheaper ∈ lw_ok := ok_of (List.mem_append_right _ (List.mem_of_getElem? (i := 856) (by decide +kernel))) (by decide +kernel)
theorem mk_im_X11_isCheaper : Cond.instanceMethod yX11_isCheaper ∈ lw_ok := ok_of (List.mem_append_right _ (List.mem_of_getElem? (i := 858) (by decide +kernel))) (by decide +kernel)
theorem mk_code_J1_charAt_3b067 : Cond.code yJ1_charAt_3b067 cJ1_charAt_3b067 2 (some .char) ∈ lw_ok := ok_of (List.mem_append_right _ (List.mem_of_getElem? (i := 489) (by decide +kernel))) (by decide +kernel)
theorem mk_m_RJ0_495 : Cond.methodLink RJ0 495 yJ1_charAt_3b067 ∈ lw_ok := ok_of (List.mem_append_right _ (List.mem_of_getElem? (i := 487) (by decide +kernel))) (by decide +kernel)
theorem mk_st_J1_charAt_3b067 : Cond.static yJ1_charAt_3b067 ∈ lw_ok := ok_of (List.mem_append_right _ (List.mem_of_getElem? (i := 488) (by decide +kernel))) (by decide +kernel)
theorem mk_code_J1_indexOf_4cfef : Cond.code yJ1_indexOf_4cfef cJ1_indexOf_4cfef 4 (some .int) ∈ lw_ok := ok_of (List.mem_append_right _ (List.mem_of_getElem? (i := 537) (by decide +kernel))) (by decide +kernel)
theorem mk_m_RJ0_637 : Cond.methodLink RJ0 637 yJ1_indexOf_4cfef ∈ lw_ok := ok_of (List.mem_append_right _ (List.mem_of_getElem? (i := 535) (by decide +kernel))) (by decide +kernel)
theorem mk_st_J1_indexOf_4cfef : Cond.static yJ1_indexOf_4cfef ∈ lw_ok := ok_of (List.mem_append_right _ (List.mem_of_getElem? (i := 536) (by decide +kernel))) (by decide +kernel)
theorem mk_m_RX3_91 : Cond.methodLink RX3 91 yX7_isSo ∈ lw_ok := ok_of (List.mem_append_right _ (List.mem_of_getElem? (i := 768) (by decide +kernel))) (by decide +kernel)
theorem mk_f_RX3_95 : Cond.fieldLink RX3 95 RX7 "heads" "[I" ∈ lw_ok := ok_of (List.mem_append_right _ (List.mem_of_getElem? (i := 82) (by decide +kernel))) (by decide +kernel)
theorem mk_m_RX3_80 : Cond.methodLink RX3 80 yX3_piecesOf ∈ lw_ok := ok_of (List.mem_append_right _ (List.mem_of_getElem? (i := 766) (by decide +kernel))) (by decide +kernel)
theorem mk_code_X5_readProduct : Cond.code yX5_readProduct cX5_readProduct 3 none ∈ lw_ok := ok_of (List.mem_append_right _ (List.mem_of_getElem? (i := 629) (by decide +kernel))) (by decide +kernel)
theorem mk_sel_X5_readProduct : Cond.selects RX5 yX5_readProduct yX5_readProduct ∈ lw_ok := ok_of (List.mem_append_left _ (List.mem_of_getElem? (i := 21) (by decide +kernel))) (by decide +kernel)
theorem mk_m_RX5_100 : Cond.methodLink RX5 100 yX5_readProduct ∈ lw_ok := ok_of (List.mem_append_right _ (List.mem_of_getElem? (i := 626) (by decide +kernel))) (by decide +kernel)
theorem mk_im_X5_readProduct : Cond.instanceMethod yX5_readProduct ∈ lw_ok := ok_of (List.mem_append_right _ (List.mem_of_getElem? (i := 628) (by decide +kernel))) (by decide +kernel)
theorem mk_code_X7_newHeight : Cond.code yX7_newHeight cX7_newHeight 5 (some .int) ∈ lw_ok := ok_of (List.mem_append_right _ (List.mem_of_getElem? (i := 323) (by decide +kernel))) (by decide +kernel)
theorem mk_sel_X7_newHeight : Cond.selects RX7 yX7_newHeight yX7_newHeight ∈ lw_ok := ok_of (List.mem_append_left _ (List.mem_of_getElem? (i := 1) (by decide +kernel))) (by decide +kernel)
theorem mk_m_RX7_69 : Cond.methodLink RX7 69 yX7_newHeight ∈ lw_ok := ok_of (List.mem_append_right _ (List.mem_of_getElem? (i := 320) (by decide +kernel))) (by decide +kernel)
theorem mk_im_X7_newHeight : Cond.instanceMethod yX7_newHeight ∈ lw_ok := ok_of (List.mem_append_right _ (List.mem_of_getElem? (i := 322) (by decide +kernel))) (by decide +kernel)
theorem mk_code_J0_charAt_5068e : Cond.code yJ0_charAt_5068e cJ0_charAt_5068e 2 (some .char) ∈ lw_ok := ok_of (List.mem_append_right _ (List.mem_of_getElem? (i := 482) (by decide +kernel))) (by decide +kernel)
theorem mk_sel_J0_charAt_5068e : Cond.selects RJ0 yJ0_charAt_5068e yJ0_charAt_5068e ∈ lw_ok := ok_of (List.mem_append_right _ (List.mem_of_getElem? (i := 481) (by decide +kernel))) (by decide +kernel)
theorem mk_m_RX8_61 : Cond.methodLink RX8 61 yJ0_charAt_5068e ∈ lw_ok := ok_of (List.mem_append_right _ (List.mem_of_getElem? (i := 479) (by decide +kernel))) (by decide +kernel)
theorem mk_im_J0_charAt_5068e : Cond.instanceMethod yJ0_charAt_5068e ∈ lw_ok := ok_of (List.mem_append_right _ (List.mem_of_getElem? (i := 480) (by decide +kernel))) (by decide +kernel)
theorem mk_code_X7_change : Cond.code yX7_change cX7_change 7 (some .int) ∈ lw_ok := ok_of (List.mem_append_right _ (List.mem_of_getElem? (i := 310) (by decide +kernel))) (by decide +kernel)
theorem mk_sel_X7_change : Cond.selects RX7 yX7_change yX7_change ∈ lw_ok := ok_of (List.mem_append_right _ (List.mem_of_getElem? (i := 309) (by decide +kernel))) (by decide +kernel)
theorem mk_m_RX11_111 : Cond.methodLink RX11 111 yX7_change ∈ lw_ok := ok_of (List.mem_append_right _ (List.mem_of_getElem? (i := 307) (by decide +kernel))) (by decide +kernel)
theorem mk_im_X7_change : Cond.instanceMethod yX7_change ∈ lw_ok := ok_of (List.mem_append_right _ (List.mem_of_getElem? (i := 308) (by decide +kernel))) (by decide +kernel)
theorem mk_code_X11_nextLikeness : Cond.code yX11_nextLikeness cX11_nextLikeness 8 (some .int) ∈ lw_ok := ok_of (List.mem_append_right _ (List.mem_of_getElem? (i := 801) (by decide +kernel))) (by decide +kernel)
theorem mk_sel_X11_nextLikeness : Cond.selects RX11 yX11_nextLikeness yX11_nextLikeness ∈ lw_ok := ok_of (List.mem_append_left _ (List.mem_of_getElem? (i := 26) (by decide +kernel))) (by decide +kernel)
theorem mk_m_RX11_251 : Cond.methodLink RX11 251 yX11_nextLikeness ∈ lw_ok := ok_of (List.mem_append_right _ (List.mem_of_getElem? (i := 798) (by decide +kernel))) (by decide +kernel)
theorem mk_im_X11_nextLikeness : Cond.instanceMethod yX11_nextLikeness ∈ lw_ok := ok_of (List.mem_append_right _ (List.mem_of_getElem? (i := 800) (by decide +kernel))) (by decide +kernel)
theorem mk_code_X2_likenessBall : Cond.code yX2_likenessBall cX2_likenessBall 1 (some .int) ∈ lw_ok := ok_of (List.mem_append_right _ (List.mem_of_getElem? (i := 809) (by decide +kernel))) (by decide +kernel)
theorem mk_m_RX11_255 : Cond.methodLink RX11 255 yX2_likenessBall ∈ lw_ok := ok_of (List.mem_append_right _ (List.mem_of_getElem? (i := 807) (by decide +kernel))) (by decide +kernel)
theorem mk_st_X2_likenessBall : Cond.static yX2_likenessBall ∈ lw_ok := ok_of (List.mem_append_right _ (List.mem_of_getElem? (i := 808) (by decide +kernel))) (by decide +kernel)
theorem mk_code_J0_indexOf_7cf53 : Cond.code yJ0_indexOf_7cf53 cJ0_indexOf_7cf53 3 (some .int) ∈ lw_ok := ok_of (List.mem_append_right _ (List.mem_of_getElem? (i := 533) (by decide +kernel))) (by decide +kernel)
theorem mk_sel_J0_indexOf_7cf53 : Cond.selects RJ0 yJ0_indexOf_7cf53 yJ0_indexOf_7cf53 ∈ lw_ok := ok_of (List.mem_append_right _ (List.mem_of_getElem? (i := 532) (by decide +kernel))) (by decide +kernel)
theorem mk_m_RJ0_633 : Cond.methodLink RJ0 633 yJ0_indexOf_7cf53 ∈ lw_ok := ok_of (List.mem_append_right _ (List.mem_of_getElem? (i := 530) (by decide +kernel))) (by decide +kernel)
theorem mk_im_J0_indexOf_7cf53 : Cond.instanceMethod yJ0_indexOf_7cf53 ∈ lw_ok := ok_of (List.mem_append_right _ (List.mem_of_getElem? (i := 531) (by decide +kernel))) (by decide +kernel)
theorem mk_code_X3_judge : Cond.code yX3_judge cX3_judge 7 (some .int) ∈ lw_ok := ok_of (List.mem_append_right _ (List.mem_of_getElem? (i := 761) (by decide +kernel))) (by decide +kernel)
theorem mk_sel_X3_judge : Cond.selects RX3 yX3_judge yX3_judge ∈ lw_ok := ok_of (List.mem_append_left _ (List.mem_of_getElem? (i := 25) (by decide +kernel))) (by decide +kernel)
theorem mk_m_RX3_61 : Cond.methodLink RX3 61 yX3_judge ∈ lw_ok := ok_of (List.mem_append_right _ (List.mem_of_getElem? (i := 758) (by decide +kernel))) (by decide +kernel)
theorem mk_im_X3_judge : Cond.instanceMethod yX3_judge ∈ lw_ok := ok_of (List.mem_append_right _ (List.mem_of_getElem? (i := 760) (by decide +kernel))) (by decide +kernel)
theorem mk_code_X5_readSum : Cond.code yX5_readSum cX5_readSum 3 none ∈ lw_ok := ok_of (List.mem_append_right _ (List.mem_of_getElem? (i := 625) (by decide +kernel))) (by decide +kernel)
theorem mk_sel_X5_readSum : Cond.selects RX5 yX5_readSum yX5_readSum ∈ lw_ok := ok_of (List.mem_append_left _ (List.mem_of_getElem? (i := 20) (by decide +kernel))) (by decide +kernel)
theorem mk_m_RX5_79 : Cond.methodLink RX5 79 yX5_readSum ∈ lw_ok := ok_of (List.mem_append_right _ (List.mem_of_getElem? (i := 622) (by decide +kernel))) (by decide +kernel)
theorem mk_im_X5_readSum : Cond.instanceMethod yX5_readSum ∈ lw_ok := ok_of (List.mem_append_right _ (List.mem_of_getElem? (i := 624) (by decide +kernel))) (by decide +kernel)
theorem mk_code_X7_beginClaim : Cond.code yX7_beginClaim cX7_beginClaim 1 none ∈ lw_ok := ok_of (List.mem_append_right _ (List.mem_of_getElem? (i := 649) (by decide +kernel))) (by decide +kernel)
theorem mk_sel_X7_beginClaim : Cond.selects RX7 yX7_beginClaim yX7_beginClaim ∈ lw_ok := ok_of (List.mem_append_right _ (List.mem_of_getElem? (i := 648) (by decide +kernel))) (by decide +kernel)
theorem mk_m_RX5_82 : Cond.methodLink RX5 82 yX7_beginClaim ∈ lw_ok := ok_of (List.mem_append_right _ (List.mem_of_getElem? (i := 646) (by decide +kernel))) (by decide +kernel)
theorem mk_im_X7_beginClaim : Cond.instanceMethod yX7_beginClaim ∈ lw_ok := ok_of (List.mem_append_right _ (List.mem_of_getElem? (i := 647) (by decide +kernel))) (by decide +kernel)
theorem mk_code_X7_finishLine : Cond.code yX7_finishLine cX7_finishLine 1 none ∈ lw_ok := ok_of (List.mem_append_right _ (List.mem_of_getElem? (i := 653) (by decide +kernel))) (by decide +kernel)
theorem mk_sel_X7_finishLine : Cond.selects RX7 yX7_finishLine yX7_finishLine ∈ lw_ok := ok_of (List.mem_append_right _ (List.mem_of_getElem? (i := 652) (by decide +kernel))) (by decide +kernel)
theorem mk_m_RX5_88 : Cond.methodLink RX5 88 yX7_finishLine ∈ lw_ok := ok_of (List.mem_append_right _ (List.mem_of_getElem? (i := 650) (by decide +kernel))) (by decide +kernel)
theorem mk_im_X7_finishLine : Cond.instanceMethod yX7_finishLine ∈ lw_ok := ok_of (List.mem_append_right _ (List.mem_of_getElem? (i := 651) (by decide +kernel))) (by decide +kernel)
theorem mk_code_J0_indexOf_0f7a4 : Cond.code yJ0_indexOf_0f7a4 cJ0_indexOf_0f7a4 2 (some .int) ∈ lw_ok := ok_of (List.mem_append_right _ (List.mem_of_getElem? (i := 529) (by decide +kernel))) (by decide +kernel)
theorem mk_sel_J0_indexOf_0f7a4 : Cond.selects RJ0 yJ0_indexOf_0f7a4 yJ0_indexOf_0f7a4 ∈ lw_ok := ok_of (List.mem_append_right _ (List.mem_of_getElem? (i := 528) (by decide +kernel))) (by decide +kernel)
theorem mk_m_RX8_51 : Cond.methodLink RX8 51 yJ0_indexOf_0f7a4 ∈ lw_ok := ok_of (List.mem_append_right _ (List.mem_of_getElem? (i := 526) (by decide +kernel))) (by decide +kernel)
theorem mk_im_J0_indexOf_0f7a4 : Cond.instanceMethod yJ0_indexOf_0f7a4 ∈ lw_ok := ok_of (List.mem_append_right _ (List.mem_of_getElem? (i := 527) (by decide +kernel))) (by decide +kernel)
theorem mk_code_X8_runFrom : Cond.code yX8_runFrom cX8_runFrom 5 (some .int) ∈ lw_ok := ok_of (List.mem_append_right _ (List.mem_of_getElem? (i := 463) (by decide +kernel))) (by decide +kernel)
theorem mk_sel_X8_runFrom : Cond.selects RX8 yX8_runFrom yX8_runFrom ∈ lw_ok := ok_of (List.mem_append_left _ (List.mem_of_getElem? (i := 9) (by decide +kernel))) (by decide +kernel)
theorem mk_m_RX8_39 : Cond.methodLink RX8 39 yX8_runFrom ∈ lw_ok := ok_of (List.mem_append_right _ (List.mem_of_getElem? (i := 460) (by decide +kernel))) (by decide +kernel)
theorem mk_im_X8_runFrom : Cond.instanceMethod yX8_runFrom ∈ lw_ok := ok_of (List.mem_append_right _ (List.mem_of_getElem? (i := 462) (by decide +kernel))) (by decide +kernel)
theorem mk_code_X8_numberKind : Cond.code yX8_numberKind cX8_numberKind 5 (some .int) ∈ lw_ok := ok_of (List.mem_append_right _ (List.mem_of_getElem? (i := 524) (by decide +kernel))) (by decide +kernel)
theorem mk_sel_X8_numberKind : Cond.selects RX8 yX8_numberKind yX8_numberKind ∈ lw_ok := ok_of (List.mem_append_left _ (List.mem_of_getElem? (i := 12) (by decide +kernel))) (by decide +kernel)
theorem mk_m_RX8_46 : Cond.methodLink RX8 46 yX8_numberKind ∈ lw_ok := ok_of (List.mem_append_right _ (List.mem_of_getElem? (i := 521) (by decide +kernel))) (by decide +kernel)
theorem mk_im_X8_numberKind : Cond.instanceMethod yX8_numberKind ∈ lw_ok := ok_of (List.mem_append_right _ (List.mem_of_getElem? (i := 523) (by decide +kernel))) (by decide +kernel)
theorem mk_code_X8_isWord : Cond.code yX8_isWord cX8_isWord 5 (some .boolean) ∈ lw_ok := ok_of (List.mem_append_right _ (List.mem_of_getElem? (i := 520) (by decide +kernel))) (by decide +kernel)
theorem mk_sel_X8_isWord : Cond.selects RX8 yX8_isWord yX8_isWord ∈ lw_ok := ok_of (List.mem_append_left _ (List.mem_of_getElem? (i := 11) (by decide +kernel))) (by decide +kernel)
theorem mk_m_RX8_65 : Cond.methodLink RX8 65 yX8_isWord ∈ lw_ok := ok_of (List.mem_append_right _ (List.mem_of_getElem? (i := 517) (by decide +kernel))) (by decide +kernel)
theorem mk_im_X8_isWord : Cond.instanceMethod yX8_isWord ∈ lw_ok := ok_of (List.mem_append_right _ (List.mem_of_getElem? (i := 519) (by decide +kernel))) (by decide +kernel)
theorem mk_code_X3_sayingOf : Cond.code yX3_sayingOf cX3_sayingOf 8 (some .int) ∈ lw_ok := ok_of (List.mem_append_right _ (List.mem_of_getElem? (i := 757) (by decide +kernel))) (by decide +kernel)
theorem mk_sel_X3_sayingOf : Cond.selects RX3 yX3_sayingOf yX3_sayingOf ∈ lw_ok := ok_of (List.mem_append_right _ (List.mem_of_getElem? (i := 756) (by decide +kernel))) (by decide +kernel)
theorem mk_m_RX11_237 : Cond.methodLink RX11 237 yX3_sayingOf ∈ lw_ok := ok_of (List.mem_append_right _ (List.mem_of_getElem? (i := 754) (by decide +kernel))) (by decide +kernel)
theorem mk_im_X3_sayingOf : Cond.instanceMethod yX3_sayingOf ∈ lw_ok := ok_of (List.mem_append_right _ (List.mem_of_getElem? (i := 755) (by decide +kernel))) (by decide +kernel)
theorem mk_code_X11_gradeOf : Cond.code yX11_gradeOf cX11_gradeOf 6 (some .int) ∈ lw_ok := ok_of (List.mem_append_right _ (List.mem_of_getElem? (i := 839) (by decide +kernel))) (by decide +kernel)
theorem mk_sel_X11_gradeOf : Cond.selects RX11 yX11_gradeOf yX11_gradeOf ∈ lw_ok := ok_of (List.mem_append_left _ (List.mem_of_getElem? (i := 27) (by decide +kernel))) (by decide +kernel)
theorem mk_m_RX11_264 : Cond.methodLink RX11 264 yX11_gradeOf ∈ lw_ok := ok_of (List.mem_append_right _ (List.mem_of_getElem? (i := 836) (by decide +kernel))) (by decide +kernel)
theorem mk_im_X11_gradeOf : Cond.instanceMethod yX11_gradeOf ∈ lw_ok := ok_of (List.mem_append_right _ (List.mem_of_getElem? (i := 838) (by decide +kernel))) (by decide +kernel)
theorem mk_m_RX11_330 : Cond.methodLink RX11 330 Lib.Math.max.name ∈ lw_ok := ok_of (List.mem_append_right _ (List.mem_of_getElem? (i := 888) (by decide +kernel))) (by decide +kernel)
theorem mk_code_X11_strengthOf : Cond.code yX11_strengthOf cX11_strengthOf 9 (some .int) ∈ lw_ok := ok_of (List.mem_append_right _ (List.mem_of_getElem? (i := 887) (by decide +kernel))) (by decide +kernel)
theorem mk_sel_X11_strengthOf : Cond.selects RX11 yX11_strengthOf yX11_strengthOf ∈ lw_ok := ok_of (List.mem_append_left _ (List.mem_of_getElem? (i := 35) (by decide +kernel))) (by decide +kernel)
theorem mk_m_RX11_335 : Cond.methodLink RX11 335 yX11_strengthOf ∈ lw_ok := ok_of (List.mem_append_right _ (List.mem_of_getElem? (i := 884) (by decide +kernel))) (by decide +kernel)
theorem mk_im_X11_strengthOf : Cond.instanceMethod yX11_strengthOf ∈ lw_ok := ok_of (List.mem_append_right _ (List.mem_of_getElem? (i := 886) (by decide +kernel))) (by decide +kernel)
theorem mk_code_X10_uniteGroups : Cond.code yX10_uniteGroups cX10_uniteGroups 5 none ∈ lw_ok := ok_of (List.mem_append_right _ (List.mem_of_getElem? (i := 896) (by decide +kernel))) (by decide +kernel)
theorem mk_sel_X10_uniteGroups : Cond.selects RX10 yX10_uniteGroups yX10_uniteGroups ∈ lw_ok := ok_of (List.mem_append_right _ (List.mem_of_getElem? (i := 895) (by decide +kernel))) (by decide +kernel)
theorem mk_m_RX11_339 : Cond.methodLink RX11 339 yX10_uniteGroups ∈ lw_ok := ok_of (List.mem_append_right _ (List.mem_of_getElem? (i := 893) (by decide +kernel))) (by decide +kernel)
theorem mk_im_X10_uniteGroups : Cond.instanceMethod yX10_uniteGroups ∈ lw_ok := ok_of (List.mem_append_right _ (List.mem_of_getElem? (i := 894) (by decide +kernel))) (by decide +kernel)
theorem mk_code_X8_wordKind : Cond.code yX8_wordKind cX8_wordKind 6 (some .int) ∈ lw_ok := ok_of (List.mem_append_right _ (List.mem_of_getElem? (i := 467) (by decide +kernel))) (by decide +kernel)
theorem mk_sel_X8_wordKind : Cond.selects RX8 yX8_wordKind yX8_wordKind ∈ lw_ok := ok_of (List.mem_append_left _ (List.mem_of_getElem? (i := 10) (by decide +kernel))) (by decide +kernel)
theorem mk_m_RX8_42 : Cond.methodLink RX8 42 yX8_wordKind ∈ lw_ok := ok_of (List.mem_append_right _ (List.mem_of_getElem? (i := 464) (by decide +kernel))) (by decide +kernel)
theorem mk_im_X8_wordKind : Cond.instanceMethod yX8_wordKind ∈ lw_ok := ok_of (List.mem_append_right _ (List.mem_of_getElem? (i := 466) (by decide +kernel))) (by decide +kernel)
theorem mk_code_X11_markMisled : Cond.code yX11_markMisled cX11_markMisled 5 none ∈ lw_ok := ok_of (List.mem_append_right _ (List.mem_of_getElem? (i := 847) (by decide +kernel))) (by decide +kernel)
theorem mk_sel_X11_markMisled : Cond.selects RX11 yX11_markMisled yX11_markMisled ∈ lw_ok := ok_of (List.mem_append_left _ (List.mem_of_getElem? (i := 28) (by decide +kernel))) (by decide +kernel)
theorem mk_m_RX11_268 : Cond.methodLink RX11 268 yX11_markMisled ∈ lw_ok := ok_of (List.mem_append_right _ (List.mem_of_getElem? (i := 844) (by decide +kernel))) (by decide +kernel)
theorem mk_im_X11_markMisled : Cond.instanceMethod yX11_markMisled ∈ lw_ok := ok_of (List.mem_append_right _ (List.mem_of_getElem? (i := 846) (by decide +kernel))) (by decide +kernel)
theorem mk_code_X11_cheapestRound : Cond.code yX11_cheapestRound cX11_cheapestRound 4 (some .int) ∈ lw_ok := ok_of (List.mem_append_right _ (List.mem_of_getElem? (i := 851) (by decide +kernel))) (by decide +kernel)
theorem mk_sel_X11_cheapestRound : Cond.selects RX11 yX11_cheapestRound yX11_cheapestRound ∈ lw_ok := ok_of (List.mem_append_left _ (List.mem_of_getElem? (i := 29) (by decide +kernel))) (by decide +kernel)
theorem mk_m_RX11_271 : Cond.methodLink RX11 271 yX11_cheapestRound ∈ lw_ok := ok_of (List.mem_append_right _ (List.mem_of_getElem? (i := 848) (by decide +kernel))) (by decide +kernel)
theorem mk_im_X11_cheapestRound : Cond.instanceMethod yX11_cheapestRound ∈ lw_ok := ok_of (List.mem_append_right _ (List.mem_of_getElem? (i := 850) (by decide +kernel))) (by decide +kernel)
theorem mk_code_X11_weakest : Cond.code yX11_weakest cX11_weakest 7 (some .int) ∈ lw_ok := ok_of (List.mem_append_right _ (List.mem_of_getElem? (i := 883) (by decide +kernel))) (by decide +kernel)
theorem mk_sel_X11_weakest : Cond.selects RX11 yX11_weakest yX11_weakest ∈ lw_ok := ok_of (List.mem_append_left _ (List.mem_of_getElem? (i := 34) (by decide +kernel))) (by decide +kernel)
theorem mk_m_RX11_288 : Cond.methodLink RX11 288 yX11_weakest ∈ lw_ok := ok_of (List.mem_append_right _ (List.mem_of_getElem? (i := 880) (by decide +kernel))) (by decide +kernel)
theorem mk_im_X11_weakest : Cond.instanceMethod yX11_weakest ∈ lw_ok := ok_of (List.mem_append_right _ (List.mem_of_getElem? (i := 882) (by decide +kernel))) (by decide +kernel)
theorem mk_code_X11_makeGroups : Cond.code yX11_makeGroups cX11_makeGroups 4 none ∈ lw_ok := ok_of (List.mem_append_right _ (List.mem_of_getElem? (i := 892) (by decide +kernel))) (by decide +kernel)
theorem mk_sel_X11_makeGroups : Cond.selects RX11 yX11_makeGroups yX11_makeGroups ∈ lw_ok := ok_of (List.mem_append_left _ (List.mem_of_getElem? (i := 36) (by decide +kernel))) (by decide +kernel)
theorem mk_m_RX11_292 : Cond.methodLink RX11 292 yX11_makeGroups ∈ lw_ok := ok_of (List.mem_append_right _ (List.mem_of_getElem? (i := 889) (by decide +kernel))) (by decide +kernel)
theorem mk_im_X11_makeGroups : Cond.instanceMethod yX11_makeGroups ∈ lw_ok := ok_of (List.mem_append_right _ (List.mem_of_getElem? (i := 891) (by decide +kernel))) (by decide +kernel)
theorem mk_code_X11_groupCount : Cond.code yX11_groupCount cX11_groupCount 3 (some .int) ∈ lw_ok := ok_of (List.mem_append_right _ (List.mem_of_getElem? (i := 901) (by decide +kernel))) (by decide +kernel)
theorem mk_sel_X11_groupCount : Cond.selects RX11 yX11_groupCount yX11_groupCount ∈ lw_ok := ok_of (List.mem_append_left _ (List.mem_of_getElem? (i := 37) (by decide +kernel))) (by decide +kernel)
theorem mk_m_RX11_296 : Cond.methodLink RX11 296 yX11_groupCount ∈ lw_ok := ok_of (List.mem_append_right _ (List.mem_of_getElem? (i := 898) (by decide +kernel))) (by decide +kernel)
theorem mk_im_X11_groupCount : Cond.instanceMethod yX11_groupCount ∈ lw_ok := ok_of (List.mem_append_right _ (List.mem_of_getElem? (i := 900) (by decide +kernel))) (by decide +kernel)
theorem mk_code_X8_kindAt : Cond.code yX8_kindAt cX8_kindAt 3 (some .int) ∈ lw_ok := ok_of (List.mem_append_right _ (List.mem_of_getElem? (i := 459) (by decide +kernel))) (by decide +kernel)
theorem mk_sel_X8_kindAt : Cond.selects RX8 yX8_kindAt yX8_kindAt ∈ lw_ok := ok_of (List.mem_append_left _ (List.mem_of_getElem? (i := 8) (by decide +kernel))) (by decide +kernel)
theorem mk_m_RX8_32 : Cond.methodLink RX8 32 yX8_kindAt ∈ lw_ok := ok_of (List.mem_append_right _ (List.mem_of_getElem? (i := 456) (by decide +kernel))) (by decide +kernel)
theorem mk_im_X8_kindAt : Cond.instanceMethod yX8_kindAt ∈ lw_ok := ok_of (List.mem_append_right _ (List.mem_of_getElem? (i := 458) (by decide +kernel))) (by decide +kernel)
theorem mk_code_X8_scan : Cond.code yX8_scan cX8_scan 2 none ∈ lw_ok := ok_of (List.mem_append_right _ (List.mem_of_getElem? (i := 448) (by decide +kernel))) (by decide +kernel)
theorem mk_sel_X8_scan : Cond.selects RX8 yX8_scan yX8_scan ∈ lw_ok := ok_of (List.mem_append_right _ (List.mem_of_getElem? (i := 447) (by decide +kernel))) (by decide +kernel)
theorem mk_m_RX5_36 : Cond.methodLink RX5 36 yX8_scan ∈ lw_ok := ok_of (List.mem_append_right _ (List.mem_of_getElem? (i := 445) (by decide +kernel))) (by decide +kernel)
theorem mk_im_X8_scan : Cond.instanceMethod yX8_scan ∈ lw_ok := ok_of (List.mem_append_right _ (List.mem_of_getElem? (i := 446) (by decide +kernel))) (by decide +kernel)
theorem mk_code_X7_clear : Cond.code yX7_clear cX7_clear 1 none ∈ lw_ok := ok_of (List.mem_append_right _ (List.mem_of_getElem? (i := 584) (by decide +kernel))) (by decide +kernel)
theorem mk_sel_X7_clear : Cond.selects RX7 yX7_clear yX7_clear ∈ lw_ok := ok_of (List.mem_append_right _ (List.mem_of_getElem? (i := 583) (by decide +kernel))) (by decide +kernel)
theorem mk_m_RX5_41 : Cond.methodLink RX5 41 yX7_clear ∈ lw_ok := ok_of (List.mem_append_right _ (List.mem_of_getElem? (i := 581) (by decide +kernel))) (by decide +kernel)
theorem mk_im_X7_clear : Cond.instanceMethod yX7_clear ∈ lw_ok := ok_of (List.mem_append_right _ (List.mem_of_getElem? (i := 582) (by decide +kernel))) (by decide +kernel)
theorem mk_code_X5_readLine : Cond.code yX5_readLine cX5_readLine 2 none ∈ lw_ok := ok_of (List.mem_append_right _ (List.mem_of_getElem? (i := 592) (by decide +kernel))) (by decide +kernel)
theorem mk_sel_X5_readLine : Cond.selects RX5 yX5_readLine yX5_readLine ∈ lw_ok := ok_of (List.mem_append_left _ (List.mem_of_getElem? (i := 14) (by decide +kernel))) (by decide +kernel)
theorem mk_m_RX5_48 : Cond.methodLink RX5 48 yX5_readLine ∈ lw_ok := ok_of (List.mem_append_right _ (List.mem_of_getElem? (i := 589) (by decide +kernel))) (by decide +kernel)
theorem mk_im_X5_readLine : Cond.instanceMethod yX5_readLine ∈ lw_ok := ok_of (List.mem_append_right _ (List.mem_of_getElem? (i := 591) (by decide +kernel))) (by decide +kernel)
theorem mk_code_X5_read : Cond.code yX5_read cX5_read 3 (some .boolean) ∈ lw_ok := ok_of (List.mem_append_right _ (List.mem_of_getElem? (i := 444) (by decide +kernel))) (by decide +kernel)
theorem mk_sel_X5_read : Cond.selects RX5 yX5_read yX5_read ∈ lw_ok := ok_of (List.mem_append_right _ (List.mem_of_getElem? (i := 443) (by decide +kernel))) (by decide +kernel)
theorem mk_m_RX11_169 : Cond.methodLink RX11 169 yX5_read ∈ lw_ok := ok_of (List.mem_append_right _ (List.mem_of_getElem? (i := 441) (by decide +kernel))) (by decide +kernel)
theorem mk_im_X5_read : Cond.instanceMethod yX5_read ∈ lw_ok := ok_of (List.mem_append_right _ (List.mem_of_getElem? (i := 442) (by decide +kernel))) (by decide +kernel)
theorem mk_code_X5_exchange : Cond.code yX5_exchange cX5_exchange 3 (some (.object "OneBarrel$Text")) ∈ lw_ok := ok_of (List.mem_append_right _ (List.mem_of_getElem? (i := 657) (by decide +kernel))) (by decide +kernel)
theorem mk_sel_X5_exchange : Cond.selects RX5 yX5_exchange yX5_exchange ∈ lw_ok := ok_of (List.mem_append_right _ (List.mem_of_getElem? (i := 656) (by decide +kernel))) (by decide +kernel)
theorem mk_m_RX11_173 : Cond.methodLink RX11 173 yX5_exchange ∈ lw_ok := ok_of (List.mem_append_right _ (List.mem_of_getElem? (i := 654) (by decide +kernel))) (by decide +kernel)
theorem mk_im_X5_exchange : Cond.instanceMethod yX5_exchange ∈ lw_ok := ok_of (List.mem_append_right _ (List.mem_of_getElem? (i := 655) (by decide +kernel))) (by decide +kernel)
theorem mk_f_RX11_183 : Cond.fieldLink RX11 183 RX3 "judged" "LOneBarrel$Text;" ∈ lw_ok := ok_of (List.mem_append_right _ (List.mem_of_getElem? (i := 690) (by decide +kernel))) (by decide +kernel)
theorem mk_code_X3_forgetSaid : Cond.code yX3_forgetSaid cX3_forgetSaid 2 none ∈ lw_ok := ok_of (List.mem_append_right _ (List.mem_of_getElem? (i := 670) (by decide +kernel))) (by decide +kernel)
theorem mk_sel_X3_forgetSaid : Cond.selects RX3 yX3_forgetSaid yX3_forgetSaid ∈ lw_ok := ok_of (List.mem_append_right _ (List.mem_of_getElem? (i := 669) (by decide +kernel))) (by decide +kernel)
theorem mk_m_RX11_186 : Cond.methodLink RX11 186 yX3_forgetSaid ∈ lw_ok := ok_of (List.mem_append_right _ (List.mem_of_getElem? (i := 667) (by decide +kernel))) (by decide +kernel)
theorem mk_im_X3_forgetSaid : Cond.instanceMethod yX3_forgetSaid ∈ lw_ok := ok_of (List.mem_append_right _ (List.mem_of_getElem? (i := 668) (by decide +kernel))) (by decide +kernel)
theorem mk_code_X5_pass : Cond.code yX5_pass cX5_pass 1 none ∈ lw_ok := ok_of (List.mem_append_right _ (List.mem_of_getElem? (i := 666) (by decide +kernel))) (by decide +kernel)
theorem mk_sel_X5_pass : Cond.selects RX5 yX5_pass yX5_pass ∈ lw_ok := ok_of (List.mem_append_right _ (List.mem_of_getElem? (i := 665) (by decide +kernel))) (by decide +kernel)
theorem mk_m_RX11_180 : Cond.methodLink RX11 180 yX5_pass ∈ lw_ok := ok_of (List.mem_append_right _ (List.mem_of_getElem? (i := 663) (by decide +kernel))) (by decide +kernel)
theorem mk_im_X5_pass : Cond.instanceMethod yX5_pass ∈ lw_ok := ok_of (List.mem_append_right _ (List.mem_of_getElem? (i := 664) (by decide +kernel))) (by decide +kernel)
theorem kv_RX2_9 : KS RX2 9 yX2_many cX2_many 1 (some .int) 1 := ⟨gw_0 mk_code_X2_many, mk_m_RX2_9, mk_st_X2_many, mk_ini_OneBarrel_Kept, by decide +kernel, by decide +kernel, by decide +kernel⟩
theorem kv_RX2_13 : KS RX2 13 yX2_longest cX2_longest 1 (some .int) 1 := ⟨gw_0 mk_code_X2_longest, mk_m_RX2_13, mk_st_X2_longest, mk_ini_OneBarrel_Kept, by decide +kernel, by decide +kernel, by decide +kernel⟩
theorem kv_RX5_44 : KV RX5 RX5 44 yX5_kind cX5_kind 1 (some .int) 0 := ⟨gw_V mk_m_RX5_44 mk_im_X5_kind mk_sel_X5_kind mk_ini_OneBarrel_Reader mk_code_X5_kind, by decide +kernel, by decide +kernel, by decide +kernel, by decide +kernel⟩
theorem kv_RX5_61 : KV RX5 RX5 61 yX5_refuse cX5_refuse 2 none 1 := ⟨gw_V mk_m_RX5_61 mk_im_X5_refuse mk_sel_X5_refuse mk_ini_OneBarrel_Reader mk_code_X5_refuse, by decide +kernel, by decide +kernel, by decide +kernel, by decide +kernel⟩
theorem kv_RX5_65 : KV RX5 RX5 65 yX5_isHead cX5_isHead 2 (some .boolean) 1 := ⟨gw_V mk_m_RX5_65 mk_im_X5_isHead mk_sel_X5_isHead mk_ini_OneBarrel_Reader mk_code_X5_isHead, by decide +kernel, by decide +kernel, by decide +kernel, by decide +kernel⟩
theorem kv_RX5_97 : KV RX5 RX5 97 yX5_readClaim cX5_readClaim 4 none 1 := ⟨gw_V mk_m_RX5_97 mk_im_X5_readClaim mk_sel_X5_readClaim mk_ini_OneBarrel_Reader mk_code_X5_readClaim, by decide +kernel, by decide +kernel, by decide +kernel, by decide +kernel⟩
theorem kv_RX6_9 : KS RX6 9 yX6_runs cX6_runs 8 (some .int) 4 := ⟨gw_0 mk_code_X6_runs, mk_m_RX6_9, mk_st_X6_runs, mk_ini_OneBarrel_Slides, by decide +kernel, by decide +kernel, by decide +kernel⟩
theorem kv_RX7_41 : KV RX7 RX7 41 yX7_isFull cX7_isFull 1 (some .boolean) 0 := ⟨gw_V mk_m_RX7_41 mk_im_X7_isFull mk_sel_X7_isFull mk_ini_OneBarrel_Text mk_code_X7_isFull, by decide +kernel, by decide +kernel, by decide +kernel, by decide +kernel⟩
theorem kv_RX8_36 : KS RX8 36 yX8_sortOf cX8_sortOf 1 (some .int) 1 := ⟨gw_0 mk_code_X8_sortOf, mk_m_RX8_36, mk_st_X8_sortOf, mk_ini_OneBarrel_Tokens, by decide +kernel, by decide +kernel, by decide +kernel⟩
theorem kv_RX11_45 : KIN RX11 45 yX8_init "OneBarrel" cX8_init 1 0 := ⟨gw_0 mk_code_X8_init, by decide +kernel, mk_im_X8_init, mk_ini_OneBarrel_Tokens, rfl, by decide +kernel, by decide +kernel, by decide +kernel⟩
theorem kv_RX11_125 : KI RX11 125 yX0_init cX0_init 4 3 := ⟨gw_0 mk_code_X0_init, mk_m_RX11_125, mk_im_X0_init, mk_ini_OneBarrel_Ball, rfl, by decide +kernel, by decide +kernel, by decide +kernel⟩
theorem kv_RX11_166 : KV RX11 RX8 166 yX8_put cX8_put 3 none 1 := ⟨gw_V mk_m_RX11_166 mk_im_X8_put mk_sel_X8_put mk_ini_OneBarrel_Tokens mk_code_X8_put, by decide +kernel, by decide +kernel, by decide +kernel, by decide +kernel⟩
theorem kv_RX11_140 : KV RX11 RX11 140 yX11_ballAt cX11_ballAt 2 (some (.object "OneBarrel$Ball")) 1 := ⟨gw_V mk_m_RX11_140 mk_im_X11_ballAt mk_sel_X11_ballAt mk_ini_OneBarrel mk_code_X11_ballAt, by decide +kernel, by decide +kernel, by decide +kernel, by decide +kernel⟩
theorem kv_RX11_115 : KV RX11 RX11 115 yX11_barrelAt cX11_barrelAt 2 (some (.object "OneBarrel$Barrel")) 1 := ⟨gw_V mk_m_RX11_115 mk_im_X11_barrelAt mk_sel_X11_barrelAt mk_ini_OneBarrel mk_code_X11_barrelAt, by decide +kernel, by decide +kernel, by decide +kernel, by decide +kernel⟩
theorem kv_RX11_80 : KV RX11 RX11 80 yX11_toolAt cX11_toolAt 2 (some (.object "OneBarrel$Tool")) 1 := ⟨gw_V mk_m_RX11_80 mk_im_X11_toolAt mk_sel_X11_toolAt mk_ini_OneBarrel mk_code_X11_toolAt, by decide +kernel, by decide +kernel, by decide +kernel, by decide +kernel⟩
theorem kv_RX11_219 : KV RX11 RX0 219 yX0_missing cX0_missing 3 (some .int) 0 := ⟨gw_V mk_m_RX11_219 mk_im_X0_missing mk_sel_X0_missing mk_ini_OneBarrel_Ball mk_code_X0_missing, by decide +kernel, by decide +kernel, by decide +kernel, by decide +kernel⟩
theorem kv_RX11_241 : KS RX11 241 yX11_truthOf cX11_truthOf 2 (some .int) 2 := ⟨gw_0 mk_code_X11_truthOf, mk_m_RX11_241, mk_st_X11_truthOf, mk_ini_OneBarrel, by decide +kernel, by decide +kernel, by decide +kernel⟩
theorem kv_RX11_144 : KV RX11 RX11 144 yX11_lookerAt cX11_lookerAt 2 (some (.object "OneBarrel$Looker")) 1 := ⟨gw_V mk_m_RX11_144 mk_im_X11_lookerAt mk_sel_X11_lookerAt mk_ini_OneBarrel mk_code_X11_lookerAt, by decide +kernel, by decide +kernel, by decide +kernel, by decide +kernel⟩
theorem kv_RX11_284 : KV RX11 RX11 284 yX11_isOfScene cX11_isOfScene 3 (some .boolean) 2 := ⟨gw_V mk_m_RX11_284 mk_im_X11_isOfScene mk_sel_X11_isOfScene mk_ini_OneBarrel mk_code_X11_isOfScene, by decide +kernel, by decide +kernel, by decide +kernel, by decide +kernel⟩
theorem kv_RX12_144 : KV RX12 RX12 144 yX12_isIn cX12_isIn 4 (some .boolean) 3 := ⟨gw_V mk_m_RX12_144 mk_im_X12_isIn mk_sel_X12_isIn mk_ini_OneBarrelModel mk_code_X12_isIn, by decide +kernel, by decide +kernel, by decide +kernel, by decide +kernel⟩
theorem kv_RX12_148 : KV RX12 RX12 148 yX12_isTool cX12_isTool 2 (some .boolean) 1 := ⟨gw_V mk_m_RX12_148 mk_im_X12_isTool mk_sel_X12_isTool mk_ini_OneBarrelModel mk_code_X12_isTool, by decide +kernel, by decide +kernel, by decide +kernel, by decide +kernel⟩
theorem kv_RX12_152 : KV RX12 RX12 152 yX12_isHair cX12_isHair 2 (some .boolean) 1 := ⟨gw_V mk_m_RX12_152 mk_im_X12_isHair mk_sel_X12_isHair mk_ini_OneBarrelModel mk_code_X12_isHair, by decide +kernel, by decide +kernel, by decide +kernel, by decide +kernel⟩
theorem kv_RX12_162 : KV RX12 RX12 162 yX12_isBarrel cX12_isBarrel 2 (some .boolean) 1 := ⟨gw_V mk_m_RX12_162 mk_im_X12_isBarrel mk_sel_X12_isBarrel mk_ini_OneBarrelModel mk_code_X12_isBarrel, by decide +kernel, by decide +kernel, by decide +kernel, by decide +kernel⟩
theorem kv_RX12_168 : KV RX12 RX12 168 yX12_isBall cX12_isBall 2 (some .boolean) 1 := ⟨gw_V mk_m_RX12_168 mk_im_X12_isBall mk_sel_X12_isBall mk_ini_OneBarrelModel mk_code_X12_isBall, by decide +kernel, by decide +kernel, by decide +kernel, by decide +kernel⟩
theorem kv_RX12_171 : KV RX12 RX12 171 yX12_missingOf cX12_missingOf 4 (some .int) 1 := ⟨gw_V mk_m_RX12_171 mk_im_X12_missingOf mk_sel_X12_missingOf mk_ini_OneBarrelModel mk_code_X12_missingOf, by decide +kernel, by decide +kernel, by decide +kernel, by decide +kernel⟩
theorem kv_RX12_178 : KV RX12 RX12 178 yX12_puts cX12_puts 3 none 1 := ⟨gw_V mk_m_RX12_178 mk_im_X12_puts mk_sel_X12_puts mk_ini_OneBarrelModel mk_code_X12_puts, by decide +kernel, by decide +kernel, by decide +kernel, by decide +kernel⟩
theorem kv_RX12_185 : KV RX12 RX12 185 yX12_raw cX12_raw 2 (some .int) 1 := ⟨gw_V mk_m_RX12_185 mk_im_X12_raw mk_sel_X12_raw mk_ini_OneBarrelModel mk_code_X12_raw, by decide +kernel, by decide +kernel, by decide +kernel, by decide +kernel⟩
theorem kv_RX12_197 : KV RX12 RX12 197 yX12_isLetter cX12_isLetter 2 (some .boolean) 1 := ⟨gw_V mk_m_RX12_197 mk_im_X12_isLetter mk_sel_X12_isLetter mk_ini_OneBarrelModel mk_code_X12_isLetter, by decide +kernel, by decide +kernel, by decide +kernel, by decide +kernel⟩
theorem kv_RX12_204 : KV RX12 RX12 204 yX12_isDigit cX12_isDigit 2 (some .boolean) 1 := ⟨gw_V mk_m_RX12_204 mk_im_X12_isDigit mk_sel_X12_isDigit mk_ini_OneBarrelModel mk_code_X12_isDigit, by decide +kernel, by decide +kernel, by decide +kernel, by decide +kernel⟩
theorem kv_RX12_207 : KV RX12 RX12 207 yX12_isMarkSign cX12_isMarkSign 2 (some .boolean) 1 := ⟨gw_V mk_m_RX12_207 mk_im_X12_isMarkSign mk_sel_X12_isMarkSign mk_ini_OneBarrelModel mk_code_X12_isMarkSign, by decide +kernel, by decide +kernel, by decide +kernel, by decide +kernel⟩
theorem kv_RX12_200 : KV RX12 RX12 200 yX12_wordAt cX12_wordAt 6 (some .int) 2 := ⟨gw_V mk_m_RX12_200 mk_im_X12_wordAt mk_sel_X12_wordAt mk_ini_OneBarrelModel mk_code_X12_wordAt, by decide +kernel, by decide +kernel, by decide +kernel, by decide +kernel⟩
theorem kv_RX12_226 : KV RX12 RX12 226 yX12_emits cX12_emits 3 none 2 := ⟨gw_V mk_m_RX12_226 mk_im_X12_emits mk_sel_X12_emits mk_ini_OneBarrelModel mk_code_X12_emits, by decide +kernel, by decide +kernel, by decide +kernel, by decide +kernel⟩
theorem kv_RX12_230 : KV RX12 RX12 230 yX12_reads cX12_reads 2 none 0 := ⟨gw_V mk_m_RX12_230 mk_im_X12_reads mk_sel_X12_reads mk_ini_OneBarrelModel mk_code_X12_reads, by decide +kernel, by decide +kernel, by decide +kernel, by decide +kernel⟩
theorem kv_RX12_223 : KV RX12 RX12 223 yX12_fails cX12_fails 2 (some .int) 1 := ⟨gw_V mk_m_RX12_223 mk_im_X12_fails mk_sel_X12_fails mk_ini_OneBarrelModel mk_code_X12_fails, by decide +kernel, by decide +kernel, by decide +kernel, by decide +kernel⟩
theorem kv_RX12_233 : KV RX12 RX12 233 yX12_readUnit cX12_readUnit 2 (some .int) 0 := ⟨gw_V mk_m_RX12_233 mk_im_X12_readUnit mk_sel_X12_readUnit mk_ini_OneBarrelModel mk_code_X12_readUnit, by decide +kernel, by decide +kernel, by decide +kernel, by decide +kernel⟩
theorem kv_RX12_237 : KV RX12 RX12 237 yX12_isSign cX12_isSign 2 (some .boolean) 1 := ⟨gw_V mk_m_RX12_237 mk_im_X12_isSign mk_sel_X12_isSign mk_ini_OneBarrelModel mk_code_X12_isSign, by decide +kernel, by decide +kernel, by decide +kernel, by decide +kernel⟩
theorem kv_RX12_240 : KV RX12 RX12 240 yX12_readProduct cX12_readProduct 2 (some .int) 0 := ⟨gw_V mk_m_RX12_240 mk_im_X12_readProduct mk_sel_X12_readProduct mk_ini_OneBarrelModel mk_code_X12_readProduct, by decide +kernel, by decide +kernel, by decide +kernel, by decide +kernel⟩
theorem kv_RX12_243 : KV RX12 RX12 243 yX12_readSum cX12_readSum 2 (some .int) 0 := ⟨gw_V mk_m_RX12_243 mk_im_X12_readSum mk_sel_X12_readSum mk_ini_OneBarrelModel mk_code_X12_readSum, by decide +kernel, by decide +kernel, by decide +kernel, by decide +kernel⟩
theorem kv_RX12_252 : KV RX12 RX12 252 yX12_isWord cX12_isWord 2 (some .boolean) 1 := ⟨gw_V mk_m_RX12_252 mk_im_X12_isWord mk_sel_X12_isWord mk_ini_OneBarrelModel mk_code_X12_isWord, by decide +kernel, by decide +kernel, by decide +kernel, by decide +kernel⟩
theorem kv_RX12_261 : KV RX12 RX12 261 yX12_settles cX12_settles 2 none 1 := ⟨gw_V mk_m_RX12_261 mk_im_X12_settles mk_sel_X12_settles mk_ini_OneBarrelModel mk_code_X12_settles, by decide +kernel, by decide +kernel, by decide +kernel, by decide +kernel⟩
theorem kv_RX12_255 : KV RX12 RX12 255 yX12_waits cX12_waits 2 none 1 := ⟨gw_V mk_m_RX12_255 mk_im_X12_waits mk_sel_X12_waits mk_ini_OneBarrelModel mk_code_X12_waits, by decide +kernel, by decide +kernel, by decide +kernel, by decide +kernel⟩
theorem kv_RX12_258 : KV RX12 RX12 258 yX12_readCompared cX12_readCompared 2 (some .int) 0 := ⟨gw_V mk_m_RX12_258 mk_im_X12_readCompared mk_sel_X12_readCompared mk_ini_OneBarrelModel mk_code_X12_readCompared, by decide +kernel, by decide +kernel, by decide +kernel, by decide +kernel⟩
theorem kv_RX12_264 : KV RX12 RX12 264 yX12_readAny cX12_readAny 4 (some .int) 0 := ⟨gw_V mk_m_RX12_264 mk_im_X12_readAny mk_sel_X12_readAny mk_ini_OneBarrelModel mk_code_X12_readAny, by decide +kernel, by decide +kernel, by decide +kernel, by decide +kernel⟩
theorem kv_RX12_267 : KV RX12 RX12 267 yX12_isBegin cX12_isBegin 1 (some .boolean) 0 := ⟨gw_V mk_m_RX12_267 mk_im_X12_isBegin mk_sel_X12_isBegin mk_ini_OneBarrelModel mk_code_X12_isBegin, by decide +kernel, by decide +kernel, by decide +kernel, by decide +kernel⟩
theorem kv_RX12_271 : KV RX12 RX12 271 yX12_readLine cX12_readLine 3 (some .int) 1 := ⟨gw_V mk_m_RX12_271 mk_im_X12_readLine mk_sel_X12_readLine mk_ini_OneBarrelModel mk_code_X12_readLine, by decide +kernel, by decide +kernel, by decide +kernel, by decide +kernel⟩
theorem kv_RX12_277 : KV RX12 RX12 277 yX12_readText cX12_readText 2 (some .int) 0 := ⟨gw_V mk_m_RX12_277 mk_im_X12_readText mk_sel_X12_readText mk_ini_OneBarrelModel mk_code_X12_readText, by decide +kernel, by decide +kernel, by decide +kernel, by decide +kernel⟩
theorem kv_RX12_280 : KV RX12 RX12 280 yX12_takesText cX12_takesText 4 (some .int) 1 := ⟨gw_V mk_m_RX12_280 mk_im_X12_takesText mk_sel_X12_takesText mk_ini_OneBarrelModel mk_code_X12_takesText, by decide +kernel, by decide +kernel, by decide +kernel, by decide +kernel⟩
theorem kv_RX12_286 : KV RX12 RX12 286 yX12_twoOf cX12_twoOf 4 (some .int) 3 := ⟨gw_V mk_m_RX12_286 mk_im_X12_twoOf mk_sel_X12_twoOf mk_ini_OneBarrelModel mk_code_X12_twoOf, by decide +kernel, by decide +kernel, by decide +kernel, by decide +kernel⟩
theorem kv_RX12_290 : KV RX12 RX12 290 yX12_worth cX12_worth 6 (some .int) 3 := ⟨gw_V mk_m_RX12_290 mk_im_X12_worth mk_sel_X12_worth mk_ini_OneBarrelModel mk_code_X12_worth, by decide +kernel, by decide +kernel, by decide +kernel, by decide +kernel⟩
theorem kv_RX12_295 : KV RX12 RX12 295 yX12_heightBy cX12_heightBy 4 (some .int) 1 := ⟨gw_V mk_m_RX12_295 mk_im_X12_heightBy mk_sel_X12_heightBy mk_ini_OneBarrelModel mk_code_X12_heightBy, by decide +kernel, by decide +kernel, by decide +kernel, by decide +kernel⟩
theorem kv_RX12_298 : KV RX12 RX12 298 yX12_runs cX12_runs 9 (some .boolean) 5 := ⟨gw_V mk_m_RX12_298 mk_im_X12_runs mk_sel_X12_runs mk_ini_OneBarrelModel mk_code_X12_runs, by decide +kernel, by decide +kernel, by decide +kernel, by decide +kernel⟩
theorem kv_RX12_302 : KV RX12 RX12 302 yX12_manyOf cX12_manyOf 7 (some .int) 4 := ⟨gw_V mk_m_RX12_302 mk_im_X12_manyOf mk_sel_X12_manyOf mk_ini_OneBarrelModel mk_code_X12_manyOf, by decide +kernel, by decide +kernel, by decide +kernel, by decide +kernel⟩
theorem kv_RX12_306 : KV RX12 RX12 306 yX12_greater cX12_greater 3 (some .int) 2 := ⟨gw_V mk_m_RX12_306 mk_im_X12_greater mk_sel_X12_greater mk_ini_OneBarrelModel mk_code_X12_greater, by decide +kernel, by decide +kernel, by decide +kernel, by decide +kernel⟩
theorem kv_RX12_309 : KV RX12 RX12 309 yX12_isLooker cX12_isLooker 2 (some .boolean) 1 := ⟨gw_V mk_m_RX12_309 mk_im_X12_isLooker mk_sel_X12_isLooker mk_ini_OneBarrelModel mk_code_X12_isLooker, by decide +kernel, by decide +kernel, by decide +kernel, by decide +kernel⟩
theorem kv_RX12_318 : KV RX12 RX12 318 yX12_bestSlide cX12_bestSlide 8 (some .int) 3 := ⟨gw_V mk_m_RX12_318 mk_im_X12_bestSlide mk_sel_X12_bestSlide mk_ini_OneBarrelModel mk_code_X12_bestSlide, by decide +kernel, by decide +kernel, by decide +kernel, by decide +kernel⟩
theorem kv_RX12_321 : KV RX12 RX12 321 yX12_longestBy cX12_longestBy 8 (some .int) 4 := ⟨gw_V mk_m_RX12_321 mk_im_X12_longestBy mk_sel_X12_longestBy mk_ini_OneBarrelModel mk_code_X12_longestBy, by decide +kernel, by decide +kernel, by decide +kernel, by decide +kernel⟩
theorem kv_RX12_315 : KV RX12 RX12 315 yX12_lackOf cX12_lackOf 3 (some .int) 2 := ⟨gw_V mk_m_RX12_315 mk_im_X12_lackOf mk_sel_X12_lackOf mk_ini_OneBarrelModel mk_code_X12_lackOf, by decide +kernel, by decide +kernel, by decide +kernel, by decide +kernel⟩
theorem kv_RX12_312 : KV RX12 RX12 312 yX12_piecesOf cX12_piecesOf 8 (some .int) 3 := ⟨gw_V mk_m_RX12_312 mk_im_X12_piecesOf mk_sel_X12_piecesOf mk_ini_OneBarrelModel mk_code_X12_piecesOf, by decide +kernel, by decide +kernel, by decide +kernel, by decide +kernel⟩
theorem kv_RX12_324 : KV RX12 RX12 324 yX12_forgets cX12_forgets 2 none 0 := ⟨gw_V mk_m_RX12_324 mk_im_X12_forgets mk_sel_X12_forgets mk_ini_OneBarrelModel mk_code_X12_forgets, by decide +kernel, by decide +kernel, by decide +kernel, by decide +kernel⟩
theorem kv_RX12_327 : KV RX12 RX12 327 yX12_judges cX12_judges 8 (some .int) 4 := ⟨gw_V mk_m_RX12_327 mk_im_X12_judges mk_sel_X12_judges mk_ini_OneBarrelModel mk_code_X12_judges, by decide +kernel, by decide +kernel, by decide +kernel, by decide +kernel⟩
theorem kv_RX12_330 : KV RX12 RX12 330 yX12_saysOf cX12_saysOf 6 (some .int) 4 := ⟨gw_V mk_m_RX12_330 mk_im_X12_saysOf mk_sel_X12_saysOf mk_ini_OneBarrelModel mk_code_X12_saysOf, by decide +kernel, by decide +kernel, by decide +kernel, by decide +kernel⟩
theorem kv_RX12_333 : KV RX12 RX12 333 yX12_isShot cX12_isShot 2 (some .boolean) 1 := ⟨gw_V mk_m_RX12_333 mk_im_X12_isShot mk_sel_X12_isShot mk_ini_OneBarrelModel mk_code_X12_isShot, by decide +kernel, by decide +kernel, by decide +kernel, by decide +kernel⟩
theorem kv_RX12_336 : KV RX12 RX12 336 yX12_truthOf cX12_truthOf 3 (some .int) 2 := ⟨gw_V mk_m_RX12_336 mk_im_X12_truthOf mk_sel_X12_truthOf mk_ini_OneBarrelModel mk_code_X12_truthOf, by decide +kernel, by decide +kernel, by decide +kernel, by decide +kernel⟩
theorem kv_RX12_339 : KV RX12 RX12 339 yX12_longest cX12_longest 5 (some .int) 3 := ⟨gw_V mk_m_RX12_339 mk_im_X12_longest mk_sel_X12_longest mk_ini_OneBarrelModel mk_code_X12_longest, by decide +kernel, by decide +kernel, by decide +kernel, by decide +kernel⟩
theorem kv_RX12_345 : KV RX12 RX12 345 yX12_countOf cX12_countOf 5 (some .int) 3 := ⟨gw_V mk_m_RX12_345 mk_im_X12_countOf mk_sel_X12_countOf mk_ini_OneBarrelModel mk_code_X12_countOf, by decide +kernel, by decide +kernel, by decide +kernel, by decide +kernel⟩
theorem kv_RX12_348 : KV RX12 RX12 348 yX12_findsAll cX12_findsAll 4 (some .boolean) 2 := ⟨gw_V mk_m_RX12_348 mk_im_X12_findsAll mk_sel_X12_findsAll mk_ini_OneBarrelModel mk_code_X12_findsAll, by decide +kernel, by decide +kernel, by decide +kernel, by decide +kernel⟩
theorem kv_RX12_352 : KV RX12 RX12 352 yX12_hoursOfSet cX12_hoursOfSet 4 (some .int) 1 := ⟨gw_V mk_m_RX12_352 mk_im_X12_hoursOfSet mk_sel_X12_hoursOfSet mk_ini_OneBarrelModel mk_code_X12_hoursOfSet, by decide +kernel, by decide +kernel, by decide +kernel, by decide +kernel⟩
theorem kv_RX12_355 : KV RX12 RX12 355 yX12_ones cX12_ones 4 (some .int) 1 := ⟨gw_V mk_m_RX12_355 mk_im_X12_ones mk_sel_X12_ones mk_ini_OneBarrelModel mk_code_X12_ones, by decide +kernel, by decide +kernel, by decide +kernel, by decide +kernel⟩
theorem kv_RX12_364 : KV RX12 RX12 364 yX12_bestOf cX12_bestOf 7 (some .int) 3 := ⟨gw_V mk_m_RX12_364 mk_im_X12_bestOf mk_sel_X12_bestOf mk_ini_OneBarrelModel mk_code_X12_bestOf, by decide +kernel, by decide +kernel, by decide +kernel, by decide +kernel⟩
theorem kv_RX12_367 : KV RX12 RX12 367 yX12_joins cX12_joins 6 none 2 := ⟨gw_V mk_m_RX12_367 mk_im_X12_joins mk_sel_X12_joins mk_ini_OneBarrelModel mk_code_X12_joins, by decide +kernel, by decide +kernel, by decide +kernel, by decide +kernel⟩
theorem kv_RX12_370 : KV RX12 RX12 370 yX12_findsGroups cX12_findsGroups 5 none 1 := ⟨gw_V mk_m_RX12_370 mk_im_X12_findsGroups mk_sel_X12_findsGroups mk_ini_OneBarrelModel mk_code_X12_findsGroups, by decide +kernel, by decide +kernel, by decide +kernel, by decide +kernel⟩
theorem kv_RJ1_88 : KS RJ1 88 yJ1_canEncode_9a6ad cJ1_canEncode_9a6ad 1 (some .boolean) 1 := ⟨gw_0 mk_code_J1_canEncode_9a6ad, mk_m_RJ1_88, mk_st_J1_canEncode_9a6ad, mk_ini_java_lang_StringLatin1, by decide +kernel, by decide +kernel, by decide +kernel⟩
theorem kv_RX3_11 : KIN RX3 11 yX7_init "OneBarrel" cX7_init 1 0 := ⟨gw_0 mk_code_X7_init, by decide +kernel, mk_im_X7_init, mk_ini_OneBarrel_Text, rfl, by decide +kernel, by decide +kernel, by decide +kernel⟩
theorem kv_RX5_17 : KIN RX5 17 yX7_init "OneBarrel" cX7_init 1 0 := ⟨gw_0 mk_code_X7_init, by decide +kernel, mk_im_X7_init, mk_ini_OneBarrel_Text, rfl, by decide +kernel, by decide +kernel, by decide +kernel⟩
theorem kv_RX5_69 : KV RX5 RX7 69 yX7_isFull cX7_isFull 1 (some .boolean) 0 := ⟨gw_V mk_m_RX5_69 mk_im_X7_isFull mk_sel_X7_isFull mk_ini_OneBarrel_Text mk_code_X7_isFull, by decide +kernel, by decide +kernel, by decide +kernel, by decide +kernel⟩
theorem kv_RX5_73 : KV RX5 RX7 73 yX7_beginLine cX7_beginLine 2 none 1 := ⟨gw_V mk_m_RX5_73 mk_im_X7_beginLine mk_sel_X7_beginLine mk_ini_OneBarrel_Text mk_code_X7_beginLine, by decide +kernel, by decide +kernel, by decide +kernel, by decide +kernel⟩
theorem kv_RX5_94 : KV RX5 RX7 94 yX7_put cX7_put 2 none 1 := ⟨gw_V mk_m_RX5_94 mk_im_X7_put mk_sel_X7_put mk_ini_OneBarrel_Text mk_code_X7_put, by decide +kernel, by decide +kernel, by decide +kernel, by decide +kernel⟩
theorem kv_RX5_106 : KV RX5 RX5 106 yX5_isFact cX5_isFact 2 (some .boolean) 1 := ⟨gw_V mk_m_RX5_106 mk_im_X5_isFact mk_sel_X5_isFact mk_ini_OneBarrel_Reader mk_code_X5_isFact, by decide +kernel, by decide +kernel, by decide +kernel, by decide +kernel⟩
theorem kv_RX6_15 : KS RX6 15 yJ6_bitCount_0f7a4 cJ6_bitCount_0f7a4 1 (some .int) 1 := ⟨gw_0 mk_code_J6_bitCount_0f7a4, mk_m_RX6_15, mk_st_J6_bitCount_0f7a4, mk_ini_java_lang_Integer, by decide +kernel, by decide +kernel, by decide +kernel⟩
theorem kv_RX6_21 : KS RX6 21 yX6_longestIn cX6_longestIn 4 (some .int) 1 := ⟨gw_0 mk_code_X6_longestIn, mk_m_RX6_21, mk_st_X6_longestIn, mk_ini_OneBarrel_Slides, by decide +kernel, by decide +kernel, by decide +kernel⟩
theorem kv_RX6_24 : KS RX6 24 yX2_pack cX2_pack 3 (some .int) 3 := ⟨gw_0 mk_code_X2_pack, mk_m_RX6_24, mk_st_X2_pack, mk_ini_OneBarrel_Kept, by decide +kernel, by decide +kernel, by decide +kernel⟩
theorem kv_RX6_36 : KS RX6 36 yJ7_fill_53178 cJ7_fill_53178 4 none 2 := ⟨gw_0 mk_code_J7_fill_53178, mk_m_RX6_36, mk_st_J7_fill_53178, mk_ini_java_util_Arrays, by decide +kernel, by decide +kernel, by decide +kernel⟩
theorem kv_RX6_45 : KS RX6 45 yX6_addHair cX6_addHair 7 none 4 := ⟨gw_0 mk_code_X6_addHair, mk_m_RX6_45, mk_st_X6_addHair, mk_ini_OneBarrel_Slides, by decide +kernel, by decide +kernel, by decide +kernel⟩
theorem kv_RX7_62 : KV RX7 RX10 62 yX10_tellHair cX10_tellHair 3 none 2 := ⟨gw_V mk_m_RX7_62 mk_im_X10_tellHair mk_sel_X10_tellHair mk_ini_OneBarrel_Work mk_code_X10_tellHair, by decide +kernel, by decide +kernel, by decide +kernel, by decide +kernel⟩
theorem kv_RX7_85 : KS RX7 85 yX7_combined cX7_combined 3 (some .int) 3 := ⟨gw_0 mk_code_X7_combined, mk_m_RX7_85, mk_st_X7_combined, mk_ini_OneBarrel_Text, by decide +kernel, by decide +kernel, by decide +kernel⟩
theorem kv_RX9_19 : KS RX9 19 yJ7_fill_53178 cJ7_fill_53178 4 none 2 := ⟨gw_0 mk_code_J7_fill_53178, mk_m_RX9_19, mk_st_J7_fill_53178, mk_ini_java_util_Arrays, by decide +kernel, by decide +kernel, by decide +kernel⟩
theorem kv_RX11_52 : KI RX11 52 yX5_init cX5_init 2 1 := ⟨gw_0 mk_code_X5_init, mk_m_RX11_52, mk_im_X5_init, mk_ini_OneBarrel_Reader, rfl, by decide +kernel, by decide +kernel, by decide +kernel⟩
theorem kv_RX11_61 : KIN RX11 61 yX7_init "OneBarrel" cX7_init 1 0 := ⟨gw_0 mk_code_X7_init, by decide +kernel, mk_im_X7_init, mk_ini_OneBarrel_Text, rfl, by decide +kernel, by decide +kernel, by decide +kernel⟩
theorem kv_RX11_68 : KIN RX11 68 yX10_init "OneBarrel" cX10_init 1 0 := ⟨gw_0 mk_code_X10_init, by decide +kernel, mk_im_X10_init, mk_ini_OneBarrel_Work, rfl, by decide +kernel, by decide +kernel, by decide +kernel⟩
theorem kv_RX11_77 : KI RX11 77 yX9_init cX9_init 2 1 := ⟨gw_0 mk_code_X9_init, mk_m_RX11_77, mk_im_X9_init, mk_ini_OneBarrel_Tool, rfl, by decide +kernel, by decide +kernel, by decide +kernel⟩
theorem kv_RX11_84 : KS RX11 84 yX11_isHair cX11_isHair 1 (some .boolean) 1 := ⟨gw_0 mk_code_X11_isHair, mk_m_RX11_84, mk_st_X11_isHair, mk_ini_OneBarrel, by decide +kernel, by decide +kernel, by decide +kernel⟩
theorem kv_RX11_88 : KS RX11 88 yX11_isHeight cX11_isHeight 1 (some .boolean) 1 := ⟨gw_0 mk_code_X11_isHeight, mk_m_RX11_88, mk_st_X11_isHeight, mk_ini_OneBarrel, by decide +kernel, by decide +kernel, by decide +kernel⟩
theorem kv_RX11_98 : KI RX11 98 yX1_init cX1_init 4 3 := ⟨gw_0 mk_code_X1_init, mk_m_RX11_98, mk_im_X1_init, mk_ini_OneBarrel_Barrel, rfl, by decide +kernel, by decide +kernel, by decide +kernel⟩
theorem kv_RX11_104 : KV RX11 RX10 104 yX10_tellShot cX10_tellShot 4 none 3 := ⟨gw_V mk_m_RX11_104 mk_im_X10_tellShot mk_sel_X10_tellShot mk_ini_OneBarrel_Work mk_code_X10_tellShot, by decide +kernel, by decide +kernel, by decide +kernel, by decide +kernel⟩
theorem kv_RX11_148 : KV RX11 RX3 148 yX3_forgetBall cX3_forgetBall 3 none 1 := ⟨gw_V mk_m_RX11_148 mk_im_X3_forgetBall mk_sel_X3_forgetBall mk_ini_OneBarrel_Looker mk_code_X3_forgetBall, by decide +kernel, by decide +kernel, by decide +kernel, by decide +kernel⟩
theorem kv_RX11_151 : KV RX11 RX11 151 yX11_rowOf cX11_rowOf 4 (some (.array .int)) 2 := ⟨gw_V mk_m_RX11_151 mk_im_X11_rowOf mk_sel_X11_rowOf mk_ini_OneBarrel mk_code_X11_rowOf, by decide +kernel, by decide +kernel, by decide +kernel, by decide +kernel⟩
theorem kv_RX11_159 : KS RX11 159 yX11_ofBarrel cX11_ofBarrel 2 (some .int) 2 := ⟨gw_0 mk_code_X11_ofBarrel, mk_m_RX11_159, mk_st_X11_ofBarrel, mk_ini_OneBarrel, by decide +kernel, by decide +kernel, by decide +kernel⟩
theorem kv_RX11_155 : KS RX11 155 yX11_ofBall cX11_ofBall 2 (some .int) 2 := ⟨gw_0 mk_code_X11_ofBall, mk_m_RX11_155, mk_st_X11_ofBall, mk_ini_OneBarrel, by decide +kernel, by decide +kernel, by decide +kernel⟩
theorem kv_RX11_198 : KI RX11 198 yX3_init cX3_init 2 1 := ⟨gw_0 mk_code_X3_init, mk_m_RX11_198, mk_im_X3_init, mk_ini_OneBarrel_Looker, rfl, by decide +kernel, by decide +kernel, by decide +kernel⟩
theorem kv_RX11_261 : KI RX11 261 yX4_init cX4_init 4 3 := ⟨gw_0 mk_code_X4_init, mk_m_RX11_261, mk_im_X4_init, mk_ini_OneBarrel_Pair, rfl, by decide +kernel, by decide +kernel, by decide +kernel⟩
theorem kv_RX11_321 : KV RX11 RX11 321 yX11_misledBy cX11_misledBy 4 (some .int) 1 := ⟨gw_V mk_m_RX11_321 mk_im_X11_misledBy mk_sel_X11_misledBy mk_ini_OneBarrel mk_code_X11_misledBy, by decide +kernel, by decide +kernel, by decide +kernel, by decide +kernel⟩
theorem kv_RX11_274 : KV RX11 RX11 274 yX11_hoursOf cX11_hoursOf 5 (some .int) 1 := ⟨gw_V mk_m_RX11_274 mk_im_X11_hoursOf mk_sel_X11_hoursOf mk_ini_OneBarrel mk_code_X11_hoursOf, by decide +kernel, by decide +kernel, by decide +kernel, by decide +kernel⟩
theorem kv_RX11_232 : KS RX11 232 yJ6_bitCount_0f7a4 cJ6_bitCount_0f7a4 1 (some .int) 1 := ⟨gw_0 mk_code_J6_bitCount_0f7a4, mk_m_RX11_232, mk_st_J6_bitCount_0f7a4, mk_ini_java_lang_Integer, by decide +kernel, by decide +kernel, by decide +kernel⟩
theorem kv_RX12_158 : KV RX12 RX12 158 yX12_changes cX12_changes 5 none 3 := ⟨gw_V mk_m_RX12_158 mk_im_X12_changes mk_sel_X12_changes mk_ini_OneBarrelModel mk_code_X12_changes, by decide +kernel, by decide +kernel, by decide +kernel, by decide +kernel⟩
theorem kv_RJ0_335 : KV RJ0 RJ0 335 yJ0_coder_7d493 cJ0_coder_7d493 1 (some .byte) 0 := ⟨gw_V mk_m_RJ0_335 mk_im_J0_coder_7d493 mk_sel_J0_coder_7d493 mk_ini_java_lang_String mk_code_J0_coder_7d493, by decide +kernel, by decide +kernel, by decide +kernel, by decide +kernel⟩
theorem kv_RJ0_492 : KV RJ0 RJ0 492 yJ0_isLatin1_aae02 cJ0_isLatin1_aae02 1 (some .boolean) 0 := ⟨gw_V mk_m_RJ0_492 mk_im_J0_isLatin1_aae02 mk_sel_J0_isLatin1_aae02 mk_ini_java_lang_String mk_code_J0_isLatin1_aae02, by decide +kernel, by decide +kernel, by decide +kernel, by decide +kernel⟩
theorem kv_RJ0_505 : KV RJ0 RJ0 505 yJ0_length_8abf5 cJ0_length_8abf5 1 (some .int) 0 := ⟨gw_V mk_m_RJ0_505 mk_im_J0_length_8abf5 mk_sel_J0_length_8abf5 mk_ini_java_lang_String mk_code_J0_length_8abf5, by decide +kernel, by decide +kernel, by decide +kernel, by decide +kernel⟩
theorem kv_RJ0_1059 : KS RJ0 1059 yJ3_checkIndex_8e157 cJ3_checkIndex_8e157 3 (some .int) 3 := ⟨gw_0 mk_code_J3_checkIndex_8e157, mk_m_RJ0_1059, mk_st_J3_checkIndex_8e157, mk_ini_jdk_internal_util_Preconditions, by decide +kernel, by decide +kernel, by decide +kernel⟩
theorem kv_RJ1_9 : KS RJ1 9 yJ0_checkIndex_df160 cJ0_checkIndex_df160 2 none 2 := ⟨gw_0 mk_code_J0_checkIndex_df160, mk_m_RJ1_9, mk_st_J0_checkIndex_df160, mk_ini_java_lang_String, by decide +kernel, by decide +kernel, by decide +kernel⟩
theorem kv_RJ1_95 : KS RJ1 95 yJ1_indexOfChar_4cfef cJ1_indexOfChar_4cfef 6 (some .int) 4 := ⟨gw_0 mk_code_J1_indexOfChar_4cfef, mk_m_RJ1_95, mk_st_J1_indexOfChar_4cfef, mk_ini_java_lang_StringLatin1, by decide +kernel, by decide +kernel, by decide +kernel⟩
theorem kv_RX3_38 : KS RX3 38 yX6_measure cX6_measure 9 (some .int) 3 := ⟨gw_0 mk_code_X6_measure, mk_m_RX3_38, mk_st_X6_measure, mk_ini_OneBarrel_Slides, by decide +kernel, by decide +kernel, by decide +kernel⟩
theorem kv_RX3_45 : KS RX3 45 yX6_pieces cX6_pieces 6 (some .int) 4 := ⟨gw_0 mk_code_X6_pieces, mk_m_RX3_45, mk_st_X6_pieces, mk_ini_OneBarrel_Slides, by decide +kernel, by decide +kernel, by decide +kernel⟩
theorem kv_RX3_49 : KV RX3 RX3 49 yX3_measured cX3_measured 4 (some .int) 2 := ⟨gw_V mk_m_RX3_49 mk_im_X3_measured mk_sel_X3_measured mk_ini_OneBarrel_Looker mk_code_X3_measured, by decide +kernel, by decide +kernel, by decide +kernel, by decide +kernel⟩
theorem kv_RX3_53 : KS RX3 53 yX2_slide cX2_slide 1 (some .int) 1 := ⟨gw_0 mk_code_X2_slide, mk_m_RX3_53, mk_st_X2_slide, mk_ini_OneBarrel_Kept, by decide +kernel, by decide +kernel, by decide +kernel⟩
theorem kv_RX3_57 : KS RX3 57 yX6_runs cX6_runs 8 (some .int) 4 := ⟨gw_0 mk_code_X6_runs, mk_m_RX3_57, mk_st_X6_runs, mk_ini_OneBarrel_Slides, by decide +kernel, by decide +kernel, by decide +kernel⟩
theorem kv_RX3_70 : KS RX3 70 yX2_many cX2_many 1 (some .int) 1 := ⟨gw_0 mk_code_X2_many, mk_m_RX3_70, mk_st_X2_many, mk_ini_OneBarrel_Kept, by decide +kernel, by decide +kernel, by decide +kernel⟩
theorem kv_RX3_73 : KS RX3 73 yX2_longest cX2_longest 1 (some .int) 1 := ⟨gw_0 mk_code_X2_longest, mk_m_RX3_73, mk_st_X2_longest, mk_ini_OneBarrel_Kept, by decide +kernel, by decide +kernel, by decide +kernel⟩
theorem kv_RX3_84 : KV RX3 RX0 84 yX0_missing cX0_missing 3 (some .int) 0 := ⟨gw_V mk_m_RX3_84 mk_im_X0_missing mk_sel_X0_missing mk_ini_OneBarrel_Ball mk_code_X0_missing, by decide +kernel, by decide +kernel, by decide +kernel, by decide +kernel⟩
theorem kv_RX5_91 : KV RX5 RX5 91 yX5_readBoth cX5_readBoth 3 none 1 := ⟨gw_V mk_m_RX5_91 mk_im_X5_readBoth mk_sel_X5_readBoth mk_ini_OneBarrel_Reader mk_code_X5_readBoth, by decide +kernel, by decide +kernel, by decide +kernel, by decide +kernel⟩
theorem kv_RX5_76 : KV RX5 RX5 76 yX5_readEither cX5_readEither 3 none 1 := ⟨gw_V mk_m_RX5_76 mk_im_X5_readEither mk_sel_X5_readEither mk_ini_OneBarrel_Reader mk_code_X5_readEither, by decide +kernel, by decide +kernel, by decide +kernel, by decide +kernel⟩
theorem kv_RX5_85 : KV RX5 RX5 85 yX5_expect cX5_expect 2 none 1 := ⟨gw_V mk_m_RX5_85 mk_im_X5_expect mk_sel_X5_expect mk_ini_OneBarrel_Reader mk_code_X5_expect, by decide +kernel, by decide +kernel, by decide +kernel, by decide +kernel⟩
theorem kv_RX5_103 : KV RX5 RX5 103 yX5_readPart cX5_readPart 2 none 0 := ⟨gw_V mk_m_RX5_103 mk_im_X5_readPart mk_sel_X5_readPart mk_ini_OneBarrel_Reader mk_code_X5_readPart, by decide +kernel, by decide +kernel, by decide +kernel, by decide +kernel⟩
theorem kv_RX7_45 : KV RX7 RX7 45 yX7_value cX7_value 7 (some .int) 3 := ⟨gw_V mk_m_RX7_45 mk_im_X7_value mk_sel_X7_value mk_ini_OneBarrel_Text mk_code_X7_value, by decide +kernel, by decide +kernel, by decide +kernel, by decide +kernel⟩
theorem kv_RX7_72 : KV RX7 RX7 72 yX7_isSo cX7_isSo 3 (some .boolean) 2 := ⟨gw_V mk_m_RX7_72 mk_im_X7_isSo mk_sel_X7_isSo mk_ini_OneBarrel_Text mk_code_X7_isSo, by decide +kernel, by decide +kernel, by decide +kernel, by decide +kernel⟩
theorem kv_RX8_28 : KV RX8 RX8 28 yX8_isStart cX8_isStart 3 (some .boolean) 1 := ⟨gw_V mk_m_RX8_28 mk_im_X8_isStart mk_sel_X8_isStart mk_ini_OneBarrel_Tokens mk_code_X8_isStart, by decide +kernel, by decide +kernel, by decide +kernel, by decide +kernel⟩
theorem kv_RX8_58 : KV RX8 RJ0 58 yJ0_length_8abf5 cJ0_length_8abf5 1 (some .int) 0 := ⟨gw_V mk_m_RX8_58 mk_im_J0_length_8abf5 mk_sel_J0_length_8abf5 mk_ini_java_lang_String mk_code_J0_length_8abf5, by decide +kernel, by decide +kernel, by decide +kernel, by decide +kernel⟩
theorem kv_RX11_199 : KV RX11 RX3 199 yX3_measured cX3_measured 4 (some .int) 2 := ⟨gw_V mk_m_RX11_199 mk_im_X3_measured mk_sel_X3_measured mk_ini_OneBarrel_Looker mk_code_X3_measured, by decide +kernel, by decide +kernel, by decide +kernel, by decide +kernel⟩
theorem kv_RX11_203 : KS RX11 203 yX2_many cX2_many 1 (some .int) 1 := ⟨gw_0 mk_code_X2_many, mk_m_RX11_203, mk_st_X2_many, mk_ini_OneBarrel_Kept, by decide +kernel, by decide +kernel, by decide +kernel⟩
theorem kv_RX11_209 : KS RX11 209 yX2_slide cX2_slide 1 (some .int) 1 := ⟨gw_0 mk_code_X2_slide, mk_m_RX11_209, mk_st_X2_slide, mk_ini_OneBarrel_Kept, by decide +kernel, by decide +kernel, by decide +kernel⟩
theorem kv_RX11_212 : KS RX11 212 yX2_longest cX2_longest 1 (some .int) 1 := ⟨gw_0 mk_code_X2_longest, mk_m_RX11_212, mk_st_X2_longest, mk_ini_OneBarrel_Kept, by decide +kernel, by decide +kernel, by decide +kernel⟩
theorem kv_RX11_215 : KV RX11 RX3 215 yX3_piecesOf cX3_piecesOf 6 (some .int) 3 := ⟨gw_V mk_m_RX11_215 mk_im_X3_piecesOf mk_sel_X3_piecesOf mk_ini_OneBarrel_Looker mk_code_X3_piecesOf, by decide +kernel, by decide +kernel, by decide +kernel, by decide +kernel⟩
theorem kv_RX11_226 : KS RX11 226 yX6_runs cX6_runs 8 (some .int) 4 := ⟨gw_0 mk_code_X6_runs, mk_m_RX11_226, mk_st_X6_runs, mk_ini_OneBarrel_Slides, by decide +kernel, by decide +kernel, by decide +kernel⟩
theorem kv_RX11_247 : KV RX11 RX3 247 yX3_runsUnderBest cX3_runsUnderBest 3 (some .int) 2 := ⟨gw_V mk_m_RX11_247 mk_im_X3_runsUnderBest mk_sel_X3_runsUnderBest mk_ini_OneBarrel_Looker mk_code_X3_runsUnderBest, by decide +kernel, by decide +kernel, by decide +kernel, by decide +kernel⟩
theorem kv_RX11_314 : KS RX11 314 yX2_likeness cX2_likeness 2 (some .int) 2 := ⟨gw_0 mk_code_X2_likeness, mk_m_RX11_314, mk_st_X2_likeness, mk_ini_OneBarrel_Kept, by decide +kernel, by decide +kernel, by decide +kernel⟩
theorem kv_RX11_324 : KV RX11 RX11 324 yX11_isCheaper cX11_isCheaper 5 (some .boolean) 2 := ⟨gw_V mk_m_RX11_324 mk_im_X11_isCheaper mk_sel_X11_isCheaper mk_ini_OneBarrel mk_code_X11_isCheaper, by decide +kernel, by decide +kernel, by decide +kernel, by decide +kernel⟩
theorem kv_RJ0_495 : KS RJ0 495 yJ1_charAt_3b067 cJ1_charAt_3b067 2 (some .char) 2 := ⟨gw_0 mk_code_J1_charAt_3b067, mk_m_RJ0_495, mk_st_J1_charAt_3b067, mk_ini_java_lang_StringLatin1, by decide +kernel, by decide +kernel, by decide +kernel⟩
theorem kv_RJ0_637 : KS RJ0 637 yJ1_indexOf_4cfef cJ1_indexOf_4cfef 4 (some .int) 4 := ⟨gw_0 mk_code_J1_indexOf_4cfef, mk_m_RJ0_637, mk_st_J1_indexOf_4cfef, mk_ini_java_lang_StringLatin1, by decide +kernel, by decide +kernel, by decide +kernel⟩
theorem kv_RX3_91 : KV RX3 RX7 91 yX7_isSo cX7_isSo 3 (some .boolean) 2 := ⟨gw_V mk_m_RX3_91 mk_im_X7_isSo mk_sel_X7_isSo mk_ini_OneBarrel_Text mk_code_X7_isSo, by decide +kernel, by decide +kernel, by decide +kernel, by decide +kernel⟩
theorem kv_RX3_80 : KV RX3 RX3 80 yX3_piecesOf cX3_piecesOf 6 (some .int) 3 := ⟨gw_V mk_m_RX3_80 mk_im_X3_piecesOf mk_sel_X3_piecesOf mk_ini_OneBarrel_Looker mk_code_X3_piecesOf, by decide +kernel, by decide +kernel, by decide +kernel, by decide +kernel⟩
theorem kv_RX5_100 : KV RX5 RX5 100 yX5_readProduct cX5_readProduct 3 none 0 := ⟨gw_V mk_m_RX5_100 mk_im_X5_readProduct mk_sel_X5_readProduct mk_ini_OneBarrel_Reader mk_code_X5_readProduct, by decide +kernel, by decide +kernel, by decide +kernel, by decide +kernel⟩
theorem kv_RX7_69 : KV RX7 RX7 69 yX7_newHeight cX7_newHeight 5 (some .int) 3 := ⟨gw_V mk_m_RX7_69 mk_im_X7_newHeight mk_sel_X7_newHeight mk_ini_OneBarrel_Text mk_code_X7_newHeight, by decide +kernel, by decide +kernel, by decide +kernel, by decide +kernel⟩
theorem kv_RX8_61 : KV RX8 RJ0 61 yJ0_charAt_5068e cJ0_charAt_5068e 2 (some .char) 1 := ⟨gw_V mk_m_RX8_61 mk_im_J0_charAt_5068e mk_sel_J0_charAt_5068e mk_ini_java_lang_String mk_code_J0_charAt_5068e, by decide +kernel, by decide +kernel, by decide +kernel, by decide +kernel⟩
theorem kv_RX11_111 : KV RX11 RX7 111 yX7_change cX7_change 7 (some .int) 4 := ⟨gw_V mk_m_RX11_111 mk_im_X7_change mk_sel_X7_change mk_ini_OneBarrel_Text mk_code_X7_change, by decide +kernel, by decide +kernel, by decide +kernel, by decide +kernel⟩
theorem kv_RX11_251 : KV RX11 RX11 251 yX11_nextLikeness cX11_nextLikeness 8 (some .int) 3 := ⟨gw_V mk_m_RX11_251 mk_im_X11_nextLikeness mk_sel_X11_nextLikeness mk_ini_OneBarrel mk_code_X11_nextLikeness, by decide +kernel, by decide +kernel, by decide +kernel, by decide +kernel⟩
theorem kv_RX11_255 : KS RX11 255 yX2_likenessBall cX2_likenessBall 1 (some .int) 1 := ⟨gw_0 mk_code_X2_likenessBall, mk_m_RX11_255, mk_st_X2_likenessBall, mk_ini_OneBarrel_Kept, by decide +kernel, by decide +kernel, by decide +kernel⟩
theorem kv_RJ0_633 : KV RJ0 RJ0 633 yJ0_indexOf_7cf53 cJ0_indexOf_7cf53 3 (some .int) 2 := ⟨gw_V mk_m_RJ0_633 mk_im_J0_indexOf_7cf53 mk_sel_J0_indexOf_7cf53 mk_ini_java_lang_String mk_code_J0_indexOf_7cf53, by decide +kernel, by decide +kernel, by decide +kernel, by decide +kernel⟩
theorem kv_RX3_61 : KV RX3 RX3 61 yX3_judge cX3_judge 7 (some .int) 4 := ⟨gw_V mk_m_RX3_61 mk_im_X3_judge mk_sel_X3_judge mk_ini_OneBarrel_Looker mk_code_X3_judge, by decide +kernel, by decide +kernel, by decide +kernel, by decide +kernel⟩
theorem kv_RX5_79 : KV RX5 RX5 79 yX5_readSum cX5_readSum 3 none 0 := ⟨gw_V mk_m_RX5_79 mk_im_X5_readSum mk_sel_X5_readSum mk_ini_OneBarrel_Reader mk_code_X5_readSum, by decide +kernel, by decide +kernel, by decide +kernel, by decide +kernel⟩
theorem kv_RX5_82 : KV RX5 RX7 82 yX7_beginClaim cX7_beginClaim 1 none 0 := ⟨gw_V mk_m_RX5_82 mk_im_X7_beginClaim mk_sel_X7_beginClaim mk_ini_OneBarrel_Text mk_code_X7_beginClaim, by decide +kernel, by decide +kernel, by decide +kernel, by decide +kernel⟩
theorem kv_RX5_88 : KV RX5 RX7 88 yX7_finishLine cX7_finishLine 1 none 0 := ⟨gw_V mk_m_RX5_88 mk_im_X7_finishLine mk_sel_X7_finishLine mk_ini_OneBarrel_Text mk_code_X7_finishLine, by decide +kernel, by decide +kernel, by decide +kernel, by decide +kernel⟩
theorem kv_RX8_51 : KV RX8 RJ0 51 yJ0_indexOf_0f7a4 cJ0_indexOf_0f7a4 2 (some .int) 1 := ⟨gw_V mk_m_RX8_51 mk_im_J0_indexOf_0f7a4 mk_sel_J0_indexOf_0f7a4 mk_ini_java_lang_String mk_code_J0_indexOf_0f7a4, by decide +kernel, by decide +kernel, by decide +kernel, by decide +kernel⟩
theorem kv_RX8_39 : KV RX8 RX8 39 yX8_runFrom cX8_runFrom 5 (some .int) 1 := ⟨gw_V mk_m_RX8_39 mk_im_X8_runFrom mk_sel_X8_runFrom mk_ini_OneBarrel_Tokens mk_code_X8_runFrom, by decide +kernel, by decide +kernel, by decide +kernel, by decide +kernel⟩
theorem kv_RX8_46 : KV RX8 RX8 46 yX8_numberKind cX8_numberKind 5 (some .int) 2 := ⟨gw_V mk_m_RX8_46 mk_im_X8_numberKind mk_sel_X8_numberKind mk_ini_OneBarrel_Tokens mk_code_X8_numberKind, by decide +kernel, by decide +kernel, by decide +kernel, by decide +kernel⟩
theorem kv_RX8_65 : KV RX8 RX8 65 yX8_isWord cX8_isWord 5 (some .boolean) 3 := ⟨gw_V mk_m_RX8_65 mk_im_X8_isWord mk_sel_X8_isWord mk_ini_OneBarrel_Tokens mk_code_X8_isWord, by decide +kernel, by decide +kernel, by decide +kernel, by decide +kernel⟩
theorem kv_RX11_237 : KV RX11 RX3 237 yX3_sayingOf cX3_sayingOf 8 (some .int) 4 := ⟨gw_V mk_m_RX11_237 mk_im_X3_sayingOf mk_sel_X3_sayingOf mk_ini_OneBarrel_Looker mk_code_X3_sayingOf, by decide +kernel, by decide +kernel, by decide +kernel, by decide +kernel⟩
theorem kv_RX11_264 : KV RX11 RX11 264 yX11_gradeOf cX11_gradeOf 6 (some .int) 3 := ⟨gw_V mk_m_RX11_264 mk_im_X11_gradeOf mk_sel_X11_gradeOf mk_ini_OneBarrel mk_code_X11_gradeOf, by decide +kernel, by decide +kernel, by decide +kernel, by decide +kernel⟩
theorem kv_RX11_335 : KV RX11 RX11 335 yX11_strengthOf cX11_strengthOf 9 (some .int) 3 := ⟨gw_V mk_m_RX11_335 mk_im_X11_strengthOf mk_sel_X11_strengthOf mk_ini_OneBarrel mk_code_X11_strengthOf, by decide +kernel, by decide +kernel, by decide +kernel, by decide +kernel⟩
theorem kv_RX11_339 : KV RX11 RX10 339 yX10_uniteGroups cX10_uniteGroups 5 none 2 := ⟨gw_V mk_m_RX11_339 mk_im_X10_uniteGroups mk_sel_X10_uniteGroups mk_ini_OneBarrel_Work mk_code_X10_uniteGroups, by decide +kernel, by decide +kernel, by decide +kernel, by decide +kernel⟩
theorem kv_RX8_42 : KV RX8 RX8 42 yX8_wordKind cX8_wordKind 6 (some .int) 2 := ⟨gw_V mk_m_RX8_42 mk_im_X8_wordKind mk_sel_X8_wordKind mk_ini_OneBarrel_Tokens mk_code_X8_wordKind, by decide +kernel, by decide +kernel, by decide +kernel, by decide +kernel⟩
theorem kv_RX11_268 : KV RX11 RX11 268 yX11_markMisled cX11_markMisled 5 none 0 := ⟨gw_V mk_m_RX11_268 mk_im_X11_markMisled mk_sel_X11_markMisled mk_ini_OneBarrel mk_code_X11_markMisled, by decide +kernel, by decide +kernel, by decide +kernel, by decide +kernel⟩
theorem kv_RX11_271 : KV RX11 RX11 271 yX11_cheapestRound cX11_cheapestRound 4 (some .int) 1 := ⟨gw_V mk_m_RX11_271 mk_im_X11_cheapestRound mk_sel_X11_cheapestRound mk_ini_OneBarrel mk_code_X11_cheapestRound, by decide +kernel, by decide +kernel, by decide +kernel, by decide +kernel⟩
theorem kv_RX11_288 : KV RX11 RX11 288 yX11_weakest cX11_weakest 7 (some .int) 1 := ⟨gw_V mk_m_RX11_288 mk_im_X11_weakest mk_sel_X11_weakest mk_ini_OneBarrel mk_code_X11_weakest, by decide +kernel, by decide +kernel, by decide +kernel, by decide +kernel⟩
theorem kv_RX11_292 : KV RX11 RX11 292 yX11_makeGroups cX11_makeGroups 4 none 1 := ⟨gw_V mk_m_RX11_292 mk_im_X11_makeGroups mk_sel_X11_makeGroups mk_ini_OneBarrel mk_code_X11_makeGroups, by decide +kernel, by decide +kernel, by decide +kernel, by decide +kernel⟩
theorem kv_RX11_296 : KV RX11 RX11 296 yX11_groupCount cX11_groupCount 3 (some .int) 0 := ⟨gw_V mk_m_RX11_296 mk_im_X11_groupCount mk_sel_X11_groupCount mk_ini_OneBarrel mk_code_X11_groupCount, by decide +kernel, by decide +kernel, by decide +kernel, by decide +kernel⟩
theorem kv_RX8_32 : KV RX8 RX8 32 yX8_kindAt cX8_kindAt 3 (some .int) 1 := ⟨gw_V mk_m_RX8_32 mk_im_X8_kindAt mk_sel_X8_kindAt mk_ini_OneBarrel_Tokens mk_code_X8_kindAt, by decide +kernel, by decide +kernel, by decide +kernel, by decide +kernel⟩
theorem kv_RX5_36 : KV RX5 RX8 36 yX8_scan cX8_scan 2 none 0 := ⟨gw_V mk_m_RX5_36 mk_im_X8_scan mk_sel_X8_scan mk_ini_OneBarrel_Tokens mk_code_X8_scan, by decide +kernel, by decide +kernel, by decide +kernel, by decide +kernel⟩
theorem kv_RX5_41 : KV RX5 RX7 41 yX7_clear cX7_clear 1 none 0 := ⟨gw_V mk_m_RX5_41 mk_im_X7_clear mk_sel_X7_clear mk_ini_OneBarrel_Text mk_code_X7_clear, by decide +kernel, by decide +kernel, by decide +kernel, by decide +kernel⟩
theorem kv_RX5_48 : KV RX5 RX5 48 yX5_readLine cX5_readLine 2 none 0 := ⟨gw_V mk_m_RX5_48 mk_im_X5_readLine mk_sel_X5_readLine mk_ini_OneBarrel_Reader mk_code_X5_readLine, by decide +kernel, by decide +kernel, by decide +kernel, by decide +kernel⟩
theorem kv_RX11_169 : KV RX11 RX5 169 yX5_read cX5_read 3 (some .boolean) 1 := ⟨gw_V mk_m_RX11_169 mk_im_X5_read mk_sel_X5_read mk_ini_OneBarrel_Reader mk_code_X5_read, by decide +kernel, by decide +kernel, by decide +kernel, by decide +kernel⟩
theorem kv_RX11_173 : KV RX11 RX5 173 yX5_exchange cX5_exchange 3 (some (.object "OneBarrel$Text")) 1 := ⟨gw_V mk_m_RX11_173 mk_im_X5_exchange mk_sel_X5_exchange mk_ini_OneBarrel_Reader mk_code_X5_exchange, by decide +kernel, by decide +kernel, by decide +kernel, by decide +kernel⟩
theorem kv_RX11_186 : KV RX11 RX3 186 yX3_forgetSaid cX3_forgetSaid 2 none 0 := ⟨gw_V mk_m_RX11_186 mk_im_X3_forgetSaid mk_sel_X3_forgetSaid mk_ini_OneBarrel_Looker mk_code_X3_forgetSaid, by decide +kernel, by decide +kernel, by decide +kernel, by decide +kernel⟩
theorem kv_RX11_180 : KV RX11 RX5 180 yX5_pass cX5_pass 1 none 0 := ⟨gw_V mk_m_RX11_180 mk_im_X5_pass mk_sel_X5_pass mk_ini_OneBarrel_Reader mk_code_X5_pass, by decide +kernel, by decide +kernel, by decide +kernel, by decide +kernel⟩
