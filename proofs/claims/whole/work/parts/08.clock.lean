theorem kd_X0_add : yX0_add.cls = RX0 ∧ yX0_add.cls ≠ "java/lang/invoke/MethodHandle" ∧ yX0_add.cls ≠ "java/lang/invoke/VarHandle" ∧ (parseMethodDescriptor yX0_add.desc).map (fun d => d.parameters.length) = some 2 := by decide +kernel
theorem kd_X0_clear : yX0_clear.cls = RX0 ∧ yX0_clear.cls ≠ "java/lang/invoke/MethodHandle" ∧ yX0_clear.cls ≠ "java/lang/invoke/VarHandle" ∧ (parseMethodDescriptor yX0_clear.desc).map (fun d => d.parameters.length) = some 0 := by decide +kernel
theorem kd_X0_count : yX0_count.cls = RX0 ∧ yX0_count.cls ≠ "java/lang/invoke/MethodHandle" ∧ yX0_count.cls ≠ "java/lang/invoke/VarHandle" ∧ (parseMethodDescriptor yX0_count.desc).map (fun d => d.parameters.length) = some 0 := by decide +kernel
theorem kd_X0_delaysAbove : yX0_delaysAbove.cls = RX0 ∧ yX0_delaysAbove.cls ≠ "java/lang/invoke/MethodHandle" ∧ yX0_delaysAbove.cls ≠ "java/lang/invoke/VarHandle" ∧ (parseMethodDescriptor yX0_delaysAbove.desc).map (fun d => d.parameters.length) = some 2 := by decide +kernel
theorem kd_X0_latestWhen : yX0_latestWhen.cls = RX0 ∧ yX0_latestWhen.cls ≠ "java/lang/invoke/MethodHandle" ∧ yX0_latestWhen.cls ≠ "java/lang/invoke/VarHandle" ∧ (parseMethodDescriptor yX0_latestWhen.desc).map (fun d => d.parameters.length) = some 0 := by decide +kernel
theorem kd_X0_playedAt : yX0_playedAt.cls = RX0 ∧ yX0_playedAt.cls ≠ "java/lang/invoke/MethodHandle" ∧ yX0_playedAt.cls ≠ "java/lang/invoke/VarHandle" ∧ (parseMethodDescriptor yX0_playedAt.desc).map (fun d => d.parameters.length) = some 1 := by decide +kernel
theorem kd_X0_settle : yX0_settle.cls = RX0 ∧ yX0_settle.cls ≠ "java/lang/invoke/MethodHandle" ∧ yX0_settle.cls ≠ "java/lang/invoke/VarHandle" ∧ (parseMethodDescriptor yX0_settle.desc).map (fun d => d.parameters.length) = some 3 := by decide +kernel
theorem kd_X0_spurtAt : yX0_spurtAt.cls = RX0 ∧ yX0_spurtAt.cls ≠ "java/lang/invoke/MethodHandle" ∧ yX0_spurtAt.cls ≠ "java/lang/invoke/VarHandle" ∧ (parseMethodDescriptor yX0_spurtAt.desc).map (fun d => d.parameters.length) = some 1 := by decide +kernel
theorem kd_X0_whenAt : yX0_whenAt.cls = RX0 ∧ yX0_whenAt.cls ≠ "java/lang/invoke/MethodHandle" ∧ yX0_whenAt.cls ≠ "java/lang/invoke/VarHandle" ∧ (parseMethodDescriptor yX0_whenAt.desc).map (fun d => d.parameters.length) = some 1 := by decide +kernel
theorem kd_X1_fitUnder : yX1_fitUnder.cls = RX1 ∧ yX1_fitUnder.cls ≠ "java/lang/invoke/MethodHandle" ∧ yX1_fitUnder.cls ≠ "java/lang/invoke/VarHandle" ∧ (parseMethodDescriptor yX1_fitUnder.desc).map (fun d => d.parameters.length) = some 1 := by decide +kernel
theorem kd_X1_lower : yX1_lower.cls = RX1 ∧ yX1_lower.cls ≠ "java/lang/invoke/MethodHandle" ∧ yX1_lower.cls ≠ "java/lang/invoke/VarHandle" ∧ (parseMethodDescriptor yX1_lower.desc).map (fun d => d.parameters.length) = some 0 := by decide +kernel
theorem kd_X1_upper : yX1_upper.cls = RX1 ∧ yX1_upper.cls ≠ "java/lang/invoke/MethodHandle" ∧ yX1_upper.cls ≠ "java/lang/invoke/VarHandle" ∧ (parseMethodDescriptor yX1_upper.desc).map (fun d => d.parameters.length) = some 0 := by decide +kernel
theorem kd_X3_clear : yX3_clear.cls = RX3 ∧ yX3_clear.cls ≠ "java/lang/invoke/MethodHandle" ∧ yX3_clear.cls ≠ "java/lang/invoke/VarHandle" ∧ (parseMethodDescriptor yX3_clear.desc).map (fun d => d.parameters.length) = some 0 := by decide +kernel
theorem kd_X3_codeAt : yX3_codeAt.cls = RX3 ∧ yX3_codeAt.cls ≠ "java/lang/invoke/MethodHandle" ∧ yX3_codeAt.cls ≠ "java/lang/invoke/VarHandle" ∧ (parseMethodDescriptor yX3_codeAt.desc).map (fun d => d.parameters.length) = some 1 := by decide +kernel
theorem kd_X3_putNumber : yX3_putNumber.cls = RX3 ∧ yX3_putNumber.cls ≠ "java/lang/invoke/MethodHandle" ∧ yX3_putNumber.cls ≠ "java/lang/invoke/VarHandle" ∧ (parseMethodDescriptor yX3_putNumber.desc).map (fun d => d.parameters.length) = some 1 := by decide +kernel
theorem kd_X3_putWord : yX3_putWord.cls = RX3 ∧ yX3_putWord.cls ≠ "java/lang/invoke/MethodHandle" ∧ yX3_putWord.cls ≠ "java/lang/invoke/VarHandle" ∧ (parseMethodDescriptor yX3_putWord.desc).map (fun d => d.parameters.length) = some 1 := by decide +kernel
theorem kd_X3_size : yX3_size.cls = RX3 ∧ yX3_size.cls ≠ "java/lang/invoke/MethodHandle" ∧ yX3_size.cls ≠ "java/lang/invoke/VarHandle" ∧ (parseMethodDescriptor yX3_size.desc).map (fun d => d.parameters.length) = some 0 := by decide +kernel
theorem kd_X4_add : yX4_add.cls = RX4 ∧ yX4_add.cls ≠ "java/lang/invoke/MethodHandle" ∧ yX4_add.cls ≠ "java/lang/invoke/VarHandle" ∧ (parseMethodDescriptor yX4_add.desc).map (fun d => d.parameters.length) = some 4 := by decide +kernel
theorem kd_X4_atRank : yX4_atRank.cls = RX4 ∧ yX4_atRank.cls ≠ "java/lang/invoke/MethodHandle" ∧ yX4_atRank.cls ≠ "java/lang/invoke/VarHandle" ∧ (parseMethodDescriptor yX4_atRank.desc).map (fun d => d.parameters.length) = some 1 := by decide +kernel
theorem kd_X4_bar : yX4_bar.cls = RX4 ∧ yX4_bar.cls ≠ "java/lang/invoke/MethodHandle" ∧ yX4_bar.cls ≠ "java/lang/invoke/VarHandle" ∧ (parseMethodDescriptor yX4_bar.desc).map (fun d => d.parameters.length) = some 3 := by decide +kernel
theorem kd_X4_cameOf : yX4_cameOf.cls = RX4 ∧ yX4_cameOf.cls ≠ "java/lang/invoke/MethodHandle" ∧ yX4_cameOf.cls ≠ "java/lang/invoke/VarHandle" ∧ (parseMethodDescriptor yX4_cameOf.desc).map (fun d => d.parameters.length) = some 1 := by decide +kernel
theorem kd_X4_clear : yX4_clear.cls = RX4 ∧ yX4_clear.cls ≠ "java/lang/invoke/MethodHandle" ∧ yX4_clear.cls ≠ "java/lang/invoke/VarHandle" ∧ (parseMethodDescriptor yX4_clear.desc).map (fun d => d.parameters.length) = some 0 := by decide +kernel
theorem kd_X4_count : yX4_count.cls = RX4 ∧ yX4_count.cls ≠ "java/lang/invoke/MethodHandle" ∧ yX4_count.cls ≠ "java/lang/invoke/VarHandle" ∧ (parseMethodDescriptor yX4_count.desc).map (fun d => d.parameters.length) = some 0 := by decide +kernel
theorem kd_X4_countFrame : yX4_countFrame.cls = RX4 ∧ yX4_countFrame.cls ≠ "java/lang/invoke/MethodHandle" ∧ yX4_countFrame.cls ≠ "java/lang/invoke/VarHandle" ∧ (parseMethodDescriptor yX4_countFrame.desc).map (fun d => d.parameters.length) = some 3 := by decide +kernel
theorem kd_X4_greatestOf : yX4_greatestOf.cls = RX4 ∧ yX4_greatestOf.cls ≠ "java/lang/invoke/MethodHandle" ∧ yX4_greatestOf.cls ≠ "java/lang/invoke/VarHandle" ∧ (parseMethodDescriptor yX4_greatestOf.desc).map (fun d => d.parameters.length) = some 1 := by decide +kernel
theorem kd_X4_headOf : yX4_headOf.cls = RX4 ∧ yX4_headOf.cls ≠ "java/lang/invoke/MethodHandle" ∧ yX4_headOf.cls ≠ "java/lang/invoke/VarHandle" ∧ (parseMethodDescriptor yX4_headOf.desc).map (fun d => d.parameters.length) = some 1 := by decide +kernel
theorem kd_X4_mannerOf : yX4_mannerOf.cls = RX4 ∧ yX4_mannerOf.cls ≠ "java/lang/invoke/MethodHandle" ∧ yX4_mannerOf.cls ≠ "java/lang/invoke/VarHandle" ∧ (parseMethodDescriptor yX4_mannerOf.desc).map (fun d => d.parameters.length) = some 1 := by decide +kernel
theorem kd_X4_missingOfAll : yX4_missingOfAll.cls = RX4 ∧ yX4_missingOfAll.cls ≠ "java/lang/invoke/MethodHandle" ∧ yX4_missingOfAll.cls ≠ "java/lang/invoke/VarHandle" ∧ (parseMethodDescriptor yX4_missingOfAll.desc).map (fun d => d.parameters.length) = some 0 := by decide +kernel
theorem kd_X4_pauseOf : yX4_pauseOf.cls = RX4 ∧ yX4_pauseOf.cls ≠ "java/lang/invoke/MethodHandle" ∧ yX4_pauseOf.cls ≠ "java/lang/invoke/VarHandle" ∧ (parseMethodDescriptor yX4_pauseOf.desc).map (fun d => d.parameters.length) = some 1 := by decide +kernel
theorem kd_X4_playedOfAll : yX4_playedOfAll.cls = RX4 ∧ yX4_playedOfAll.cls ≠ "java/lang/invoke/MethodHandle" ∧ yX4_playedOfAll.cls ≠ "java/lang/invoke/VarHandle" ∧ (parseMethodDescriptor yX4_playedOfAll.desc).map (fun d => d.parameters.length) = some 0 := by decide +kernel
theorem kd_X4_timeInTurn : yX4_timeInTurn.cls = RX4 ∧ yX4_timeInTurn.cls ≠ "java/lang/invoke/MethodHandle" ∧ yX4_timeInTurn.cls ≠ "java/lang/invoke/VarHandle" ∧ (parseMethodDescriptor yX4_timeInTurn.desc).map (fun d => d.parameters.length) = some 3 := by decide +kernel
theorem kd_X4_timeOf : yX4_timeOf.cls = RX4 ∧ yX4_timeOf.cls ≠ "java/lang/invoke/MethodHandle" ∧ yX4_timeOf.cls ≠ "java/lang/invoke/VarHandle" ∧ (parseMethodDescriptor yX4_timeOf.desc).map (fun d => d.parameters.length) = some 1 := by decide +kernel
theorem kd_X4_withHead : yX4_withHead.cls = RX4 ∧ yX4_withHead.cls ≠ "java/lang/invoke/MethodHandle" ∧ yX4_withHead.cls ≠ "java/lang/invoke/VarHandle" ∧ (parseMethodDescriptor yX4_withHead.desc).map (fun d => d.parameters.length) = some 1 := by decide +kernel
theorem kd_X5_base : yX5_base.cls = RX5 ∧ yX5_base.cls ≠ "java/lang/invoke/MethodHandle" ∧ yX5_base.cls ≠ "java/lang/invoke/VarHandle" ∧ (parseMethodDescriptor yX5_base.desc).map (fun d => d.parameters.length) = some 0 := by decide +kernel
theorem kd_X5_begun : yX5_begun.cls = RX5 ∧ yX5_begun.cls ≠ "java/lang/invoke/MethodHandle" ∧ yX5_begun.cls ≠ "java/lang/invoke/VarHandle" ∧ (parseMethodDescriptor yX5_begun.desc).map (fun d => d.parameters.length) = some 0 := by decide +kernel
theorem kd_X5_clear : yX5_clear.cls = RX5 ∧ yX5_clear.cls ≠ "java/lang/invoke/MethodHandle" ∧ yX5_clear.cls ≠ "java/lang/invoke/VarHandle" ∧ (parseMethodDescriptor yX5_clear.desc).map (fun d => d.parameters.length) = some 0 := by decide +kernel
theorem kd_X5_follow : yX5_follow.cls = RX5 ∧ yX5_follow.cls ≠ "java/lang/invoke/MethodHandle" ∧ yX5_follow.cls ≠ "java/lang/invoke/VarHandle" ∧ (parseMethodDescriptor yX5_follow.desc).map (fun d => d.parameters.length) = some 3 := by decide +kernel
theorem kd_X5_isOn : yX5_isOn.cls = RX5 ∧ yX5_isOn.cls ≠ "java/lang/invoke/MethodHandle" ∧ yX5_isOn.cls ≠ "java/lang/invoke/VarHandle" ∧ (parseMethodDescriptor yX5_isOn.desc).map (fun d => d.parameters.length) = some 0 := by decide +kernel
theorem kd_X6_add : yX6_add.cls = RX6 ∧ yX6_add.cls ≠ "java/lang/invoke/MethodHandle" ∧ yX6_add.cls ≠ "java/lang/invoke/VarHandle" ∧ (parseMethodDescriptor yX6_add.desc).map (fun d => d.parameters.length) = some 1 := by decide +kernel
theorem kd_X6_clear : yX6_clear.cls = RX6 ∧ yX6_clear.cls ≠ "java/lang/invoke/MethodHandle" ∧ yX6_clear.cls ≠ "java/lang/invoke/VarHandle" ∧ (parseMethodDescriptor yX6_clear.desc).map (fun d => d.parameters.length) = some 0 := by decide +kernel
theorem kd_X6_size : yX6_size.cls = RX6 ∧ yX6_size.cls ≠ "java/lang/invoke/MethodHandle" ∧ yX6_size.cls ≠ "java/lang/invoke/VarHandle" ∧ (parseMethodDescriptor yX6_size.desc).map (fun d => d.parameters.length) = some 0 := by decide +kernel
theorem kd_X6_spells : yX6_spells.cls = RX6 ∧ yX6_spells.cls ≠ "java/lang/invoke/MethodHandle" ∧ yX6_spells.cls ≠ "java/lang/invoke/VarHandle" ∧ (parseMethodDescriptor yX6_spells.desc).map (fun d => d.parameters.length) = some 1 := by decide +kernel
theorem kd_X7_byMean : yX7_byMean.cls = RX7 ∧ yX7_byMean.cls ≠ "java/lang/invoke/MethodHandle" ∧ yX7_byMean.cls ≠ "java/lang/invoke/VarHandle" ∧ (parseMethodDescriptor yX7_byMean.desc).map (fun d => d.parameters.length) = some 1 := by decide +kernel
theorem kd_X7_byShare : yX7_byShare.cls = RX7 ∧ yX7_byShare.cls ≠ "java/lang/invoke/MethodHandle" ∧ yX7_byShare.cls ≠ "java/lang/invoke/VarHandle" ∧ (parseMethodDescriptor yX7_byShare.desc).map (fun d => d.parameters.length) = some 1 := by decide +kernel
theorem kd_X7_carryAlong : yX7_carryAlong.cls = RX7 ∧ yX7_carryAlong.cls ≠ "java/lang/invoke/MethodHandle" ∧ yX7_carryAlong.cls ≠ "java/lang/invoke/VarHandle" ∧ (parseMethodDescriptor yX7_carryAlong.desc).map (fun d => d.parameters.length) = some 3 := by decide +kernel
theorem kd_X7_gather : yX7_gather.cls = RX7 ∧ yX7_gather.cls ≠ "java/lang/invoke/MethodHandle" ∧ yX7_gather.cls ≠ "java/lang/invoke/VarHandle" ∧ (parseMethodDescriptor yX7_gather.desc).map (fun d => d.parameters.length) = some 1 := by decide +kernel
theorem kd_X7_greatestOfLastThree : yX7_greatestOfLastThree.cls = RX7 ∧ yX7_greatestOfLastThree.cls ≠ "java/lang/invoke/MethodHandle" ∧ yX7_greatestOfLastThree.cls ≠ "java/lang/invoke/VarHandle" ∧ (parseMethodDescriptor yX7_greatestOfLastThree.desc).map (fun d => d.parameters.length) = some 0 := by decide +kernel
theorem kd_X8_greatestNumber : yX8_greatestNumber.cls = RX8 ∧ yX8_greatestNumber.cls ≠ "java/lang/invoke/MethodHandle" ∧ yX8_greatestNumber.cls ≠ "java/lang/invoke/VarHandle" ∧ (parseMethodDescriptor yX8_greatestNumber.desc).map (fun d => d.parameters.length) = some 1 := by decide +kernel
theorem kd_X8_isOutside : yX8_isOutside.cls = RX8 ∧ yX8_isOutside.cls ≠ "java/lang/invoke/MethodHandle" ∧ yX8_isOutside.cls ≠ "java/lang/invoke/VarHandle" ∧ (parseMethodDescriptor yX8_isOutside.desc).map (fun d => d.parameters.length) = some 3 := by decide +kernel
theorem kd_X8_leastNumber : yX8_leastNumber.cls = RX8 ∧ yX8_leastNumber.cls ≠ "java/lang/invoke/MethodHandle" ∧ yX8_leastNumber.cls ≠ "java/lang/invoke/VarHandle" ∧ (parseMethodDescriptor yX8_leastNumber.desc).map (fun d => d.parameters.length) = some 1 := by decide +kernel
theorem kd_X8_mannerOnTape : yX8_mannerOnTape.cls = RX8 ∧ yX8_mannerOnTape.cls ≠ "java/lang/invoke/MethodHandle" ∧ yX8_mannerOnTape.cls ≠ "java/lang/invoke/VarHandle" ∧ (parseMethodDescriptor yX8_mannerOnTape.desc).map (fun d => d.parameters.length) = some 0 := by decide +kernel
theorem kd_X8_openSpurt : yX8_openSpurt.cls = RX8 ∧ yX8_openSpurt.cls ≠ "java/lang/invoke/MethodHandle" ∧ yX8_openSpurt.cls ≠ "java/lang/invoke/VarHandle" ∧ (parseMethodDescriptor yX8_openSpurt.desc).map (fun d => d.parameters.length) = some 2 := by decide +kernel
theorem kd_X8_refusalOf : yX8_refusalOf.cls = RX8 ∧ yX8_refusalOf.cls ≠ "java/lang/invoke/MethodHandle" ∧ yX8_refusalOf.cls ≠ "java/lang/invoke/VarHandle" ∧ (parseMethodDescriptor yX8_refusalOf.desc).map (fun d => d.parameters.length) = some 4 := by decide +kernel
theorem kd_X8_settle : yX8_settle.cls = RX8 ∧ yX8_settle.cls ≠ "java/lang/invoke/MethodHandle" ∧ yX8_settle.cls ≠ "java/lang/invoke/VarHandle" ∧ (parseMethodDescriptor yX8_settle.desc).map (fun d => d.parameters.length) = some 4 := by decide +kernel
theorem kd_X8_signOfFrame : yX8_signOfFrame.cls = RX8 ∧ yX8_signOfFrame.cls ≠ "java/lang/invoke/MethodHandle" ∧ yX8_signOfFrame.cls ≠ "java/lang/invoke/VarHandle" ∧ (parseMethodDescriptor yX8_signOfFrame.desc).map (fun d => d.parameters.length) = some 1 := by decide +kernel
theorem kd_X8_wishFor : yX8_wishFor.cls = RX8 ∧ yX8_wishFor.cls ≠ "java/lang/invoke/MethodHandle" ∧ yX8_wishFor.cls ≠ "java/lang/invoke/VarHandle" ∧ (parseMethodDescriptor yX8_wishFor.desc).map (fun d => d.parameters.length) = some 1 := by decide +kernel
theorem kd_X8_wordOf : yX8_wordOf.cls = RX8 ∧ yX8_wordOf.cls ≠ "java/lang/invoke/MethodHandle" ∧ yX8_wordOf.cls ≠ "java/lang/invoke/VarHandle" ∧ (parseMethodDescriptor yX8_wordOf.desc).map (fun d => d.parameters.length) = some 1 := by decide +kernel
theorem kd_X8_writeOpening : yX8_writeOpening.cls = RX8 ∧ yX8_writeOpening.cls ≠ "java/lang/invoke/MethodHandle" ∧ yX8_writeOpening.cls ≠ "java/lang/invoke/VarHandle" ∧ (parseMethodDescriptor yX8_writeOpening.desc).map (fun d => d.parameters.length) = some 1 := by decide +kernel
set_option maxHeartbeats 4000000 in
set_option maxRecDepth 100000 in
theorem c_X8_isOutside (l : Launch) (E : xE) (v : Int32) (a : Int32) (b : Int32) : mI l yX8_isOutside wsX8_isOutside (xrm 0 0) E [.int v, .int a, .int b] (([] : List va_W)) (iout v a b) (([] : List va_W)) := by
  intro sz
  refine Met.ofW (cc := cX8_isOutside) (maxL := 3) (ret := (some .boolean)) (by decide +kernel) rfl ?_
  intro vp ve s vm args below meth vc s₁ B hml hv
  obtain ⟨rfl, S, hr, hlk, hnm, A, hA, hE, M⟩ := genter B hml hv
  rw [hA]
  obtain ⟨ls, hfr, hl⟩ := gst (m := vm) (as := [.int v, .int a, .int b]) (n := 3) (Nat.le_of_ble_eq_true rfl)
  rw [hfr]
  clear hfr hA
  have hl : lv_has ls 3 [(0, .int v), (1, .int a), (2, .int b)] := hl
  have M : gM E A s.heap [] s.heap [] := M
  refine lv_iload_n S.1 S.2.1 dX8_isOutside_0 rfl (lv_at hl 0 rfl) ?_
  refine lv_iload_n S.1 S.2.1 dX8_isOutside_1 rfl (lv_at hl 1 rfl) ?_
  refine lv_icmp_lt (tgt := 10) S.1 S.2.1 dX8_isOutside_2 (by decide) (fun c2 => ?_) (fun c2 => ?_)
  ·
    refine lv_iconst (v := 1) S.1 S.2.1 dX8_isOutside_10 (by decide) ?_
    refine lv_goto (tgt := 15) S.1 S.2.1 dX8_isOutside_11 (by decide) ?_
    exact gzret S hr hlk M (rfl) (by unfold iout; rw [if_pos c2]) (rfl) dX8_isOutside_15
  ·
    refine lv_iload_n S.1 S.2.1 dX8_isOutside_5 rfl (lv_at hl 0 rfl) ?_
    refine lv_iload_n S.1 S.2.1 dX8_isOutside_6 rfl (lv_at hl 2 rfl) ?_
    refine lv_icmp_le (tgt := 14) S.1 S.2.1 dX8_isOutside_7 (by decide) (fun c7 => ?_) (fun c7 => ?_)
    ·
      refine lv_iconst (v := 0) S.1 S.2.1 dX8_isOutside_14 (by decide) ?_
      exact gzret S hr hlk M (rfl) (by unfold iout; rw [if_neg c2, if_pos c7]) (rfl) dX8_isOutside_15
    ·
      refine lv_iconst (v := 1) S.1 S.2.1 dX8_isOutside_10 (by decide) ?_
      refine lv_goto (tgt := 15) S.1 S.2.1 dX8_isOutside_11 (by decide) ?_
      exact gzret S hr hlk M (rfl) (by unfold iout; rw [if_neg c2, if_neg c7]) (rfl) dX8_isOutside_15

set_option maxHeartbeats 4000000 in
set_option maxRecDepth 100000 in
theorem c_X8_wordOf (l : Launch) (E : xE) (m : Int32) : mR l yX8_wordOf wsX8_wordOf (xrm 0 0) E [.int m] (([] : List va_W)) (xK E (mOf m)) (([] : List va_W)) := by
  intro sz
  refine Met.ofW (cc := cX8_wordOf) (maxL := 1) (ret := (some (.object "java/lang/String"))) (by decide +kernel) rfl ?_
  intro vp ve s vm args below meth vc s₁ B hml hv
  obtain ⟨rfl, S, hr, hlk, hnm, A, hA, hE, M⟩ := genter B hml hv
  rw [hA]
  obtain ⟨ls, hfr, hl⟩ := gst (m := vm) (as := [.int m]) (n := 1) (Nat.le_of_ble_eq_true rfl)
  rw [hfr]
  clear hfr hA
  have hl : lv_has ls 1 [(0, .int m)] := hl
  have M : gM E A s.heap [] s.heap [] := M
  refine lv_iload_n S.1 S.2.1 dX8_wordOf_0 rfl (lv_at hl 0 rfl) ?_
  by_cases c1_1 : m = 1
  ·
    refine gtop (x' := 1) c1_1 ?_
    refine lv_tableIn (off := 31) (tgt := 32) S.1 S.2.1 dX8_wordOf_1 (by decide) (by decide) rfl (by decide) ?_
    refine va_ldcS S.1 S.2.1 S.2.2.2.1 (hE.2.2.1 1 (by decide)) dX8_wordOf_32 ?_
    exact garet S hr (Or.inl ⟨_, rfl⟩) hlk M (by unfold mOf; rw [if_pos c1_1]) (rfl) dX8_wordOf_34
  by_cases c1_2 : m = 2
  ·
    refine gtop (x' := 2) c1_2 ?_
    refine lv_tableIn (off := 34) (tgt := 35) S.1 S.2.1 dX8_wordOf_1 (by decide) (by decide) rfl (by decide) ?_
    refine va_ldcS S.1 S.2.1 S.2.2.2.1 (hE.2.2.1 2 (by decide)) dX8_wordOf_35 ?_
    exact garet S hr (Or.inl ⟨_, rfl⟩) hlk M (by unfold mOf; rw [if_neg c1_1, if_pos c1_2]) (rfl) dX8_wordOf_37
  by_cases c1_3 : m = 3
  ·
    refine gtop (x' := 3) c1_3 ?_
    refine lv_tableIn (off := 37) (tgt := 38) S.1 S.2.1 dX8_wordOf_1 (by decide) (by decide) rfl (by decide) ?_
    refine va_ldcS S.1 S.2.1 S.2.2.2.1 (hE.2.2.1 3 (by decide)) dX8_wordOf_38 ?_
    exact garet S hr (Or.inl ⟨_, rfl⟩) hlk M (by unfold mOf; rw [if_neg c1_1, if_neg c1_2, if_pos c1_3]) (rfl) dX8_wordOf_40
  by_cases c1_4 : m = 4
  ·
    refine gtop (x' := 4) c1_4 ?_
    refine lv_tableIn (off := 40) (tgt := 41) S.1 S.2.1 dX8_wordOf_1 (by decide) (by decide) rfl (by decide) ?_
    refine va_ldcS S.1 S.2.1 S.2.2.2.1 (hE.2.2.1 4 (by decide)) dX8_wordOf_41 ?_
    exact garet S hr (Or.inl ⟨_, rfl⟩) hlk M (by unfold mOf; rw [if_neg c1_1, if_neg c1_2, if_neg c1_3, if_pos c1_4]) (rfl) dX8_wordOf_43
  refine lv_tableOut (tgt := 44) S.1 S.2.1 dX8_wordOf_1 (by have hc1_1 := lv_neT c1_1 (a := 1) rfl; have hc1_2 := lv_neT c1_2 (a := 2) rfl; have hc1_3 := lv_neT c1_3 (a := 3) rfl; have hc1_4 := lv_neT c1_4 (a := 4) rfl; omega) (by decide) ?_
  refine va_ldcS S.1 S.2.1 S.2.2.2.1 (hE.2.2.1 0 (by decide)) dX8_wordOf_44 ?_
  exact garet S hr (Or.inl ⟨_, rfl⟩) hlk M (by unfold mOf; rw [if_neg c1_1, if_neg c1_2, if_neg c1_3, if_neg c1_4]) (rfl) dX8_wordOf_46

set_option maxHeartbeats 4000000 in
set_option maxRecDepth 100000 in
theorem c_X8_leastNumber (l : Launch) (E : xE) (m : Int32) : mI l yX8_leastNumber wsX8_leastNumber (xrm 0 0) E [.int m] (([] : List va_W)) (leastN m) (([] : List va_W)) := by
  intro sz
  refine Met.ofW (cc := cX8_leastNumber) (maxL := 1) (ret := (some .int)) (by decide +kernel) rfl ?_
  intro vp ve s vm args below meth vc s₁ B hml hv
  obtain ⟨rfl, S, hr, hlk, hnm, A, hA, hE, M⟩ := genter B hml hv
  rw [hA]
  obtain ⟨ls, hfr, hl⟩ := gst (m := vm) (as := [.int m]) (n := 1) (Nat.le_of_ble_eq_true rfl)
  rw [hfr]
  clear hfr hA
  have hl : lv_has ls 1 [(0, .int m)] := hl
  have M : gM E A s.heap [] s.heap [] := M
  refine lv_iload_n S.1 S.2.1 dX8_leastNumber_0 rfl (lv_at hl 0 rfl) ?_
  refine lv_if_ne (tgt := 10) S.1 S.2.1 dX8_leastNumber_1 (by decide) (fun c1 => ?_) (fun c1 => ?_)
  ·
    refine lv_iconst (v := 0) S.1 S.2.1 dX8_leastNumber_10 (by decide) ?_
    exact giret S hr hlk M (by unfold leastN; rw [if_neg c1]) (rfl) dX8_leastNumber_11
  ·
    refine lv_sipush (v := (-500)) S.1 S.2.1 dX8_leastNumber_4 (by decide) ?_
    refine lv_goto (tgt := 11) S.1 S.2.1 dX8_leastNumber_7 (by decide) ?_
    exact giret S hr hlk M (by unfold leastN; rw [if_pos c1]) (rfl) dX8_leastNumber_11

set_option maxHeartbeats 4000000 in
set_option maxRecDepth 100000 in
theorem c_X8_greatestNumber (l : Launch) (E : xE) (m : Int32) : mI l yX8_greatestNumber wsX8_greatestNumber (xrm 0 0) E [.int m] (([] : List va_W)) (greatN m) (([] : List va_W)) := by
  intro sz
  refine Met.ofW (cc := cX8_greatestNumber) (maxL := 1) (ret := (some .int)) (by decide +kernel) rfl ?_
  intro vp ve s vm args below meth vc s₁ B hml hv
  obtain ⟨rfl, S, hr, hlk, hnm, A, hA, hE, M⟩ := genter B hml hv
  rw [hA]
  obtain ⟨ls, hfr, hl⟩ := gst (m := vm) (as := [.int m]) (n := 1) (Nat.le_of_ble_eq_true rfl)
  rw [hfr]
  clear hfr hA
  have hl : lv_has ls 1 [(0, .int m)] := hl
  have M : gM E A s.heap [] s.heap [] := M
  refine lv_iload_n S.1 S.2.1 dX8_greatestNumber_0 rfl (lv_at hl 0 rfl) ?_
  by_cases c1_0 : m = 0
  ·
    refine gtop (x' := 0) c1_0 ?_
    refine lv_lookup (off := 27) (tgt := 28) S.1 S.2.1 dX8_greatestNumber_1 (by decide) (by decide) (by decide) ?_
    refine lv_sipush (v := 2000) S.1 S.2.1 dX8_greatestNumber_28 (by decide) ?_
    exact giret S hr hlk M (by unfold greatN; rw [if_pos c1_0]) (rfl) dX8_greatestNumber_31
  by_cases c1_4 : m = 4
  ·
    refine gtop (x' := 4) c1_4 ?_
    refine lv_lookup (off := 31) (tgt := 32) S.1 S.2.1 dX8_greatestNumber_1 (by decide) (by decide) (by decide) ?_
    refine lv_bipush (v := 8) S.1 S.2.1 dX8_greatestNumber_32 (by decide) ?_
    exact giret S hr hlk M (by unfold greatN; rw [if_neg c1_0, if_pos c1_4]) (rfl) dX8_greatestNumber_34
  refine lv_lookup (off := 34) (tgt := 35) S.1 S.2.1 dX8_greatestNumber_1 (by decide) (by show Op.lookupswitch.offset ((0, 27) :: (4, 31) :: []) 34 _ = _; rw [lv_osw (a := 0) c1_0 rfl, lv_osw (a := 4) c1_4 rfl]; rfl) (by decide) ?_
  refine lv_sipush (v := 256) S.1 S.2.1 dX8_greatestNumber_35 (by decide) ?_
  exact giret S hr hlk M (by unfold greatN; rw [if_neg c1_0, if_neg c1_4]) (rfl) dX8_greatestNumber_38

set_option maxHeartbeats 4000000 in
set_option maxRecDepth 100000 in
theorem c_X8_key (l : Launch) (E : xE) (ad : Nat → Nat) (z : SpcS) (x : Int32) : mI l yX8_key wsX8_key (xrm 2 43) E [.ref (ad 0), .int x] (spcGs E ad z) ((SpcS.key z x).1) (spcGs E ad ((SpcS.key z x).2)) := by
  intro sz
  refine Met.ofW (cc := cX8_key) (maxL := 2) (ret := (some .int)) (by decide +kernel) rfl ?_
  intro vp ve s vm args below meth vc s₁ B hml hv
  obtain ⟨rfl, S, hr, hlk, hnm, A, hA, hE, M⟩ := genter B hml hv
  rw [hA]
  obtain ⟨ls, hfr, hl⟩ := gst (m := vm) (as := [.ref (ad 0), .int x]) (n := 2) (Nat.le_of_ble_eq_true rfl)
  rw [hfr]
  clear hfr hA
  have hl : lv_has ls 2 [(0, .ref (ad 0)), (1, .int x)] := hl
  have M : gM E A s.heap [[(ad 0, .inr (8, [.ref (ad 1), .ref (ad 4), .ref (ad 15), .ref (ad 32), .ref (ad 33), .ref (ad 38), .ref (ad 41), .int z.mn, .int z.mk, .int z.mg, .int z.jp]))], tapW E ad z.tp, spuW E ad z.sp, surW E ad z.sg, sheW E ad z.sh, wisW E ad z.wi, linW E ad z.ln, arrW E ad z.ar] s.heap [] := M
  have hwi : ∀ w ∈ u_ws RX8 TX8 11, w ∈ wsX8_key := by decide +kernel
  refine lv_iload_n S.1 S.2.1 dX8_key_0 rfl (lv_at hl 1 rfl) ?_
  refine lv_iconst (v := 0) S.1 S.2.1 dX8_key_1 (by decide) ?_
  refine lv_bipush (v := 127) S.1 S.2.1 dX8_key_2 (by decide) ?_
  refine gcalli (L := []) (Mid := []) (Rr := [[(ad 0, .inr (8, [.ref (ad 1), .ref (ad 4), .ref (ad 15), .ref (ad 32), .ref (ad 33), .ref (ad 38), .ref (ad 41), .int z.mn, .int z.mk, .int z.mg, .int z.jp]))], tapW E ad z.tp, spuW E ad z.sp, surW E ad z.sg, sheW E ad z.sh, wisW E ad z.wi, linW E ad z.ln, arrW E ad z.ar]) (Mid' := []) hE M rfl (rfl) (rfl) (fun hp => va_runS (As := [.int x, .int 0, .int 127]) (rest := []) S (c_X8_isOutside l E x 0 127 _) (va_cwS 3 S.2.2.2.2 gX8_key_X8_isOutside rfl rfl rfl kd_X8_isOutside.2 ⟨Nat.le_of_ble_eq_true rfl, Nat.le_of_ble_eq_true rfl⟩) hp.S rfl rfl hl.1 rfl (lv_room (Nat.le_of_ble_eq_true rfl)) dX8_key_4 ⟨Nat.zero_le _, Nat.zero_le _⟩) (fun H locs M => ?_)
  have M : gM E A s.heap [[(ad 0, .inr (8, [.ref (ad 1), .ref (ad 4), .ref (ad 15), .ref (ad 32), .ref (ad 33), .ref (ad 38), .ref (ad 41), .int z.mn, .int z.mk, .int z.mg, .int z.jp]))], tapW E ad z.tp, spuW E ad z.sp, surW E ad z.sg, sheW E ad z.sh, wisW E ad z.wi, linW E ad z.ln, arrW E ad z.ar] H locs := M
  refine lv_if_eq (tgt := 13) S.1 S.2.1 dX8_key_7 (by decide) (fun c7 => ?_) (fun c7 => ?_)
  ·
    refine lv_aload_n S.1 S.2.1 dX8_key_13 rfl (lv_at hl 0 rfl) ?_
    refine gget S hE M (C := RX8) (T := TX8) (N := 11) (ci := 8) (index := 12) hwi 0 rfl rfl 0 (by decide) (by decide +kernel) rfl dX8_key_14 ?_
    refine gcalli (L := [[(ad 0, .inr (8, [.ref (ad 1), .ref (ad 4), .ref (ad 15), .ref (ad 32), .ref (ad 33), .ref (ad 38), .ref (ad 41), .int z.mn, .int z.mk, .int z.mg, .int z.jp]))]]) (Mid := [tapW E ad z.tp]) (Rr := [spuW E ad z.sp, surW E ad z.sg, sheW E ad z.sh, wisW E ad z.wi, linW E ad z.ln, arrW E ad z.ar]) (Mid' := [tapW E ad z.tp]) hE M rfl (List.append_nil _) (List.append_nil _) (fun hp => va_runV (As := []) (rest := []) S (c_X6_size l E ad z.tp   _) (cwV 0 S.2.2.2.2 gX8_key_X6_size rfl rfl rfl kd_X6_size ⟨Nat.le_of_ble_eq_true rfl, Nat.le_of_ble_eq_true rfl⟩) (hp.V hE (show vwCl[6]? = some (RX6, TX6, 2) from rfl) rfl) rfl rfl hl.1 rfl (lv_room (Nat.le_of_ble_eq_true rfl)) dX8_key_17 ⟨Nat.zero_le _, Nat.zero_le _⟩) (fun H locs M => ?_)
    have M : gM E A s.heap [[(ad 0, .inr (8, [.ref (ad 1), .ref (ad 4), .ref (ad 15), .ref (ad 32), .ref (ad 33), .ref (ad 38), .ref (ad 41), .int z.mn, .int z.mk, .int z.mg, .int z.jp]))], tapW E ad z.tp, spuW E ad z.sp, surW E ad z.sg, sheW E ad z.sh, wisW E ad z.wi, linW E ad z.ln, arrW E ad z.ar] H locs := M
    refine lv_bipush (v := 8) S.1 S.2.1 dX8_key_20 (by decide) ?_
    refine lv_icmp_lt (tgt := 28) S.1 S.2.1 dX8_key_22 (by decide) (fun c22 => ?_) (fun c22 => ?_)
    ·
      refine lv_aload_n S.1 S.2.1 dX8_key_28 rfl (lv_at hl 0 rfl) ?_
      refine gget S hE M (C := RX8) (T := TX8) (N := 11) (ci := 8) (index := 12) hwi 0 rfl rfl 0 (by decide) (by decide +kernel) rfl dX8_key_29 ?_
      refine lv_iload_n S.1 S.2.1 dX8_key_32 rfl (lv_at hl 1 rfl) ?_
      refine gcallv (L := [[(ad 0, .inr (8, [.ref (ad 1), .ref (ad 4), .ref (ad 15), .ref (ad 32), .ref (ad 33), .ref (ad 38), .ref (ad 41), .int z.mn, .int z.mk, .int z.mg, .int z.jp]))]]) (Mid := [tapW E ad z.tp]) (Rr := [spuW E ad z.sp, surW E ad z.sg, sheW E ad z.sh, wisW E ad z.wi, linW E ad z.ln, arrW E ad z.ar]) (Mid' := [tapW E ad (TapS.add z.tp x)]) hE M rfl (List.append_nil _) (List.append_nil _) (fun hp => va_runV (As := [.int x]) (rest := []) S (c_X6_add l E ad z.tp x  _) (cwV 1 S.2.2.2.2 gX8_key_X6_add rfl rfl rfl kd_X6_add ⟨Nat.le_of_ble_eq_true rfl, Nat.le_of_ble_eq_true rfl⟩) (hp.V hE (show vwCl[6]? = some (RX6, TX6, 2) from rfl) rfl) rfl rfl hl.1 rfl (lv_room (Nat.le_of_ble_eq_true rfl)) dX8_key_33 ⟨Nat.zero_le _, Nat.zero_le _⟩) (fun H locs M => ?_)
      have M : gM E A s.heap [[(ad 0, .inr (8, [.ref (ad 1), .ref (ad 4), .ref (ad 15), .ref (ad 32), .ref (ad 33), .ref (ad 38), .ref (ad 41), .int z.mn, .int z.mk, .int z.mg, .int z.jp]))], tapW E ad (TapS.add z.tp x), spuW E ad z.sp, surW E ad z.sg, sheW E ad z.sh, wisW E ad z.wi, linW E ad z.ln, arrW E ad z.ar] H locs := M
      refine lv_aload_n S.1 S.2.1 dX8_key_36 rfl (lv_at hl 0 rfl) ?_
      refine gget S hE M (C := RX8) (T := TX8) (N := 11) (ci := 8) (index := 12) hwi 0 rfl rfl 0 (by decide) (by decide +kernel) rfl dX8_key_37 ?_
      refine gcalli (L := [[(ad 0, .inr (8, [.ref (ad 1), .ref (ad 4), .ref (ad 15), .ref (ad 32), .ref (ad 33), .ref (ad 38), .ref (ad 41), .int z.mn, .int z.mk, .int z.mg, .int z.jp]))]]) (Mid := [tapW E ad (TapS.add z.tp x)]) (Rr := [spuW E ad z.sp, surW E ad z.sg, sheW E ad z.sh, wisW E ad z.wi, linW E ad z.ln, arrW E ad z.ar]) (Mid' := [tapW E ad (TapS.add z.tp x)]) hE M rfl (List.append_nil _) (List.append_nil _) (fun hp => va_runV (As := []) (rest := []) S (c_X6_size l E ad (TapS.add z.tp x)   _) (cwV 0 S.2.2.2.2 gX8_key_X6_size rfl rfl rfl kd_X6_size ⟨Nat.le_of_ble_eq_true rfl, Nat.le_of_ble_eq_true rfl⟩) (hp.V hE (show vwCl[6]? = some (RX6, TX6, 2) from rfl) rfl) rfl rfl hl.1 rfl (lv_room (Nat.le_of_ble_eq_true rfl)) dX8_key_40 ⟨Nat.zero_le _, Nat.zero_le _⟩) (fun H locs M => ?_)
      have M : gM E A s.heap [[(ad 0, .inr (8, [.ref (ad 1), .ref (ad 4), .ref (ad 15), .ref (ad 32), .ref (ad 33), .ref (ad 38), .ref (ad 41), .int z.mn, .int z.mk, .int z.mg, .int z.jp]))], tapW E ad (TapS.add z.tp x), spuW E ad z.sp, surW E ad z.sg, sheW E ad z.sh, wisW E ad z.wi, linW E ad z.ln, arrW E ad z.ar] H locs := M
      have he : SpcS.key z x = (nI (TapS.add z.tp x).sz, ((TapS.add z.tp x, z.ar, z.sp, z.sg, z.ln, z.wi, z.sh, z.mn, z.mk, z.mg, z.jp) : SpcS)) := by unfold SpcS.key; rw [if_pos c7, if_pos c22] <;> rfl
      exact giret S hr hlk M (by rw [he]) (by rw [he]; rfl) dX8_key_43
    ·
      refine lv_bipush (v := (-4)) S.1 S.2.1 dX8_key_25 (by decide) ?_
      have he : SpcS.key z x = ((-4), z) := by unfold SpcS.key; rw [if_pos c7, if_neg c22] <;> rfl
      exact giret S hr hlk M (by rw [he]) (by rw [he]; rfl) dX8_key_27
  ·
    refine lv_bipush (v := (-2)) S.1 S.2.1 dX8_key_10 (by decide) ?_
    have he : SpcS.key z x = ((-2), z) := by unfold SpcS.key; rw [if_neg c7] <;> rfl
    exact giret S hr hlk M (by rw [he]) (by rw [he]; rfl) dX8_key_12

set_option maxHeartbeats 4000000 in
set_option maxRecDepth 100000 in
theorem c_X8_wipe (l : Launch) (E : xE) (ad : Nat → Nat) (z : SpcS) : mI l yX8_wipe wsX8_wipe (xrm 1 20) E [.ref (ad 0)] (spcGs E ad z) ((SpcS.wipe z).1) (spcGs E ad ((SpcS.wipe z).2)) := by
  intro sz
  refine Met.ofW (cc := cX8_wipe) (maxL := 2) (ret := (some .int)) (by decide +kernel) rfl ?_
  intro vp ve s vm args below meth vc s₁ B hml hv
  obtain ⟨rfl, S, hr, hlk, hnm, A, hA, hE, M⟩ := genter B hml hv
  rw [hA]
  obtain ⟨ls, hfr, hl⟩ := gst (m := vm) (as := [.ref (ad 0)]) (n := 2) (Nat.le_of_ble_eq_true rfl)
  rw [hfr]
  clear hfr hA
  have hl : lv_has ls 2 [(0, .ref (ad 0))] := hl
  have M : gM E A s.heap [[(ad 0, .inr (8, [.ref (ad 1), .ref (ad 4), .ref (ad 15), .ref (ad 32), .ref (ad 33), .ref (ad 38), .ref (ad 41), .int z.mn, .int z.mk, .int z.mg, .int z.jp]))], tapW E ad z.tp, spuW E ad z.sp, surW E ad z.sg, sheW E ad z.sh, wisW E ad z.wi, linW E ad z.ln, arrW E ad z.ar] s.heap [] := M
  have hwi : ∀ w ∈ u_ws RX8 TX8 11, w ∈ wsX8_wipe := by decide +kernel
  refine lv_aload_n S.1 S.2.1 dX8_wipe_0 rfl (lv_at hl 0 rfl) ?_
  refine gget S hE M (C := RX8) (T := TX8) (N := 11) (ci := 8) (index := 12) hwi 0 rfl rfl 0 (by decide) (by decide +kernel) rfl dX8_wipe_1 ?_
  refine gcalli (L := [[(ad 0, .inr (8, [.ref (ad 1), .ref (ad 4), .ref (ad 15), .ref (ad 32), .ref (ad 33), .ref (ad 38), .ref (ad 41), .int z.mn, .int z.mk, .int z.mg, .int z.jp]))]]) (Mid := [tapW E ad z.tp]) (Rr := [spuW E ad z.sp, surW E ad z.sg, sheW E ad z.sh, wisW E ad z.wi, linW E ad z.ln, arrW E ad z.ar]) (Mid' := [tapW E ad z.tp]) hE M rfl (List.append_nil _) (List.append_nil _) (fun hp => va_runV (As := []) (rest := []) S (c_X6_size l E ad z.tp   _) (cwV 0 S.2.2.2.2 gX8_wipe_X6_size rfl rfl rfl kd_X6_size ⟨Nat.le_of_ble_eq_true rfl, Nat.le_of_ble_eq_true rfl⟩) (hp.V hE (show vwCl[6]? = some (RX6, TX6, 2) from rfl) rfl) rfl rfl hl.1 rfl (lv_room (Nat.le_of_ble_eq_true rfl)) dX8_wipe_4 ⟨Nat.zero_le _, Nat.zero_le _⟩) (fun H locs M => ?_)
  have M : gM E A s.heap [[(ad 0, .inr (8, [.ref (ad 1), .ref (ad 4), .ref (ad 15), .ref (ad 32), .ref (ad 33), .ref (ad 38), .ref (ad 41), .int z.mn, .int z.mk, .int z.mg, .int z.jp]))], tapW E ad z.tp, spuW E ad z.sp, surW E ad z.sg, sheW E ad z.sh, wisW E ad z.wi, linW E ad z.ln, arrW E ad z.ar] H locs := M
  refine lv_istore_n (lv' := [(1, .int (nI z.tp.sz)), (0, .ref (ad 0))]) S.1 S.2.1 dX8_wipe_7 rfl hl (by decide) rfl (fun ls hl => ?_)
  refine lv_aload_n S.1 S.2.1 dX8_wipe_8 rfl (lv_at hl 1 rfl) ?_
  refine gget S hE M (C := RX8) (T := TX8) (N := 11) (ci := 8) (index := 12) hwi 0 rfl rfl 0 (by decide) (by decide +kernel) rfl dX8_wipe_9 ?_
  refine gcallv (L := [[(ad 0, .inr (8, [.ref (ad 1), .ref (ad 4), .ref (ad 15), .ref (ad 32), .ref (ad 33), .ref (ad 38), .ref (ad 41), .int z.mn, .int z.mk, .int z.mg, .int z.jp]))]]) (Mid := [tapW E ad z.tp]) (Rr := [spuW E ad z.sp, surW E ad z.sg, sheW E ad z.sh, wisW E ad z.wi, linW E ad z.ln, arrW E ad z.ar]) (Mid' := [tapW E ad (z.tp.cs, 0)]) hE M rfl (List.append_nil _) (List.append_nil _) (fun hp => va_runV (As := []) (rest := []) S (c_X6_clear l E ad z.tp   _) (cwV 0 S.2.2.2.2 gX8_wipe_X6_clear rfl rfl rfl kd_X6_clear ⟨Nat.le_of_ble_eq_true rfl, Nat.le_of_ble_eq_true rfl⟩) (hp.V hE (show vwCl[6]? = some (RX6, TX6, 2) from rfl) rfl) rfl rfl hl.1 rfl (lv_room (Nat.le_of_ble_eq_true rfl)) dX8_wipe_12 ⟨Nat.zero_le _, Nat.zero_le _⟩) (fun H locs M => ?_)
  have M : gM E A s.heap [[(ad 0, .inr (8, [.ref (ad 1), .ref (ad 4), .ref (ad 15), .ref (ad 32), .ref (ad 33), .ref (ad 38), .ref (ad 41), .int z.mn, .int z.mk, .int z.mg, .int z.jp]))], tapW E ad (z.tp.cs, 0), spuW E ad z.sp, surW E ad z.sg, sheW E ad z.sh, wisW E ad z.wi, linW E ad z.ln, arrW E ad z.ar] H locs := M
  refine lv_iload_n S.1 S.2.1 dX8_wipe_15 rfl (lv_at hl 0 rfl) ?_
  have he : SpcS.wipe z = (nI z.tp.sz, (((z.tp.cs, 0), z.ar, z.sp, z.sg, z.ln, z.wi, z.sh, z.mn, z.mk, z.mg, z.jp) : SpcS)) := by rfl
  exact giret S hr hlk M (by rw [he]) (by rw [he]; rfl) dX8_wipe_16

set_option maxHeartbeats 4000000 in
set_option maxRecDepth 100000 in
theorem c_X8_mannerOnTape (l : Launch) (E : xE) (ad : Nat → Nat) (z : SpcS) : mI l yX8_mannerOnTape wsX8_mannerOnTape (xrm 5 107) E [.ref (ad 0)] (spcGs E ad z) z.told (spcGs E ad z) := by
  intro sz
  refine Met.ofW (cc := cX8_mannerOnTape) (maxL := 2) (ret := (some .int)) (by decide +kernel) rfl ?_
  intro vp ve s vm args below meth vc s₁ B hml hv
  obtain ⟨rfl, S, hr, hlk, hnm, A, hA, hE, M⟩ := genter B hml hv
  rw [hA]
  obtain ⟨ls, hfr, hl⟩ := gst (m := vm) (as := [.ref (ad 0)]) (n := 2) (Nat.le_of_ble_eq_true rfl)
  rw [hfr]
  clear hfr hA
  have hl : lv_has ls 2 [(0, .ref (ad 0))] := hl
  have M : gM E A s.heap [[(ad 0, .inr (8, [.ref (ad 1), .ref (ad 4), .ref (ad 15), .ref (ad 32), .ref (ad 33), .ref (ad 38), .ref (ad 41), .int z.mn, .int z.mk, .int z.mg, .int z.jp]))], tapW E ad z.tp, spuW E ad z.sp, surW E ad z.sg, sheW E ad z.sh, wisW E ad z.wi, linW E ad z.ln, arrW E ad z.ar] s.heap [] := M
  have hwi : ∀ w ∈ u_ws RX8 TX8 11, w ∈ wsX8_mannerOnTape := by decide +kernel
  obtain ⟨Q, hQ⟩ : ∃ Q : State → Prop, MQ below (va_Qi (fun x (_ : Unit) => x = z.told) (fun _ => kQ E A (spcGs E ad z)) A) ([.ref (ad 0)] : List Value).toArray s 0 0 A = Q := ⟨_, rfl⟩
  rw [hQ]
  have hL : ∀ (n : Nat), ∀ (i : Nat), i + n = 5 → z.told = motl z.tp n i → ∀ (H : Heap) (locs : List Loc), gM E A s.heap [[(ad 0, .inr (8, [.ref (ad 1), .ref (ad 4), .ref (ad 15), .ref (ad 32), .ref (ad 33), .ref (ad 38), .ref (ad 41), .int z.mn, .int z.mk, .int z.mg, .int z.jp]))], tapW E ad z.tp, spuW E ad z.sp, surW E ad z.sg, sheW E ad z.sh, wisW E ad z.wi, linW E ad z.ln, arrW E ad z.ar] H locs → ∀ ls : Array Slot, lv_has ls 2 [(0, .ref (ad 0)), (1, .int (nI i))] → W vp l ve (headSpec wsX8_mannerOnTape (xrm 5 107)).room s vm ([.ref (ad 0)] : List Value).toArray below meth vc H locs 0 0 Q (F0 vm 2 ls []) := by
    intro n
    induction n with
    | zero =>
      intro i hi hI H locs M ls hl
      refine lv_iload_n S.1 S.2.1 dX8_mannerOnTape_2 rfl (lv_at hl 1 rfl) ?_
      refine lv_iconst (v := 5) S.1 S.2.1 dX8_mannerOnTape_3 (by decide) ?_
      refine lv_icmp_ge (tgt := 29) S.1 S.2.1 dX8_mannerOnTape_4 (by decide) (fun _ => ?_) (fun c_ => absurd (nI_le (a := 5) (by omega) (by omega)) c_)
      refine lv_iconst (v := (-1)) S.1 S.2.1 dX8_mannerOnTape_29 (by decide) ?_
      rw [← hQ]
      exact giret S hr hlk M (by rw [hI, motl]) (rfl) dX8_mannerOnTape_30
    | succ n ih =>
      intro i hi hI H locs M ls hl
      refine lv_iload_n S.1 S.2.1 dX8_mannerOnTape_2 rfl (lv_at hl 1 rfl) ?_
      refine lv_iconst (v := 5) S.1 S.2.1 dX8_mannerOnTape_3 (by decide) ?_
      refine lv_icmp_ge (tgt := 29) S.1 S.2.1 dX8_mannerOnTape_4 (by decide) (fun c_ => absurd c_ (nI_ge (b := 5) (by omega) (by omega))) (fun _ => ?_)
      refine lv_aload_n S.1 S.2.1 dX8_mannerOnTape_7 rfl (lv_at hl 0 rfl) ?_
      refine gget S hE M (C := RX8) (T := TX8) (N := 11) (ci := 8) (index := 12) hwi 0 rfl rfl 0 (by decide) (by decide +kernel) rfl dX8_mannerOnTape_8 ?_
      refine lv_iload_n S.1 S.2.1 dX8_mannerOnTape_11 rfl (lv_at hl 1 rfl) ?_
      refine gcallr (L := []) (Mid := []) (Rr := [[(ad 0, .inr (8, [.ref (ad 1), .ref (ad 4), .ref (ad 15), .ref (ad 32), .ref (ad 33), .ref (ad 38), .ref (ad 41), .int z.mn, .int z.mk, .int z.mg, .int z.jp]))], tapW E ad z.tp, spuW E ad z.sp, surW E ad z.sg, sheW E ad z.sh, wisW E ad z.wi, linW E ad z.ln, arrW E ad z.ar]) (Mid' := []) hE M rfl (rfl) (rfl) (fun hp => va_runS (As := [.int (nI i)]) (rest := [.ref (ad 1)]) S (c_X8_wordOf l E (nI i) _) (va_cwS 1 S.2.2.2.2 gX8_mannerOnTape_X8_wordOf rfl rfl rfl kd_X8_wordOf.2 ⟨Nat.le_of_ble_eq_true rfl, Nat.le_of_ble_eq_true rfl⟩) hp.S rfl rfl hl.1 rfl (lv_room (Nat.le_of_ble_eq_true rfl)) dX8_mannerOnTape_12 ⟨Nat.zero_le _, Nat.zero_le _⟩) (fun H locs M => ?_)
      have M : gM E A s.heap [[(ad 0, .inr (8, [.ref (ad 1), .ref (ad 4), .ref (ad 15), .ref (ad 32), .ref (ad 33), .ref (ad 38), .ref (ad 41), .int z.mn, .int z.mk, .int z.mg, .int z.jp]))], tapW E ad z.tp, spuW E ad z.sp, surW E ad z.sg, sheW E ad z.sh, wisW E ad z.wi, linW E ad z.ln, arrW E ad z.ar] H locs := M
      refine gcalli (L := [[(ad 0, .inr (8, [.ref (ad 1), .ref (ad 4), .ref (ad 15), .ref (ad 32), .ref (ad 33), .ref (ad 38), .ref (ad 41), .int z.mn, .int z.mk, .int z.mg, .int z.jp]))]]) (Mid := [tapW E ad z.tp]) (Rr := [spuW E ad z.sp, surW E ad z.sg, sheW E ad z.sh, wisW E ad z.wi, linW E ad z.ln, arrW E ad z.ar]) (Mid' := [tapW E ad z.tp]) hE M rfl (List.append_nil _) (List.append_nil _) (fun hp => va_runV (As := [.ref (xK E (mOf (nI i)))]) (rest := []) S (c_X6_spells l E ad z.tp (mOf (nI i))  (mOf_lt _) _) (cwV 1 S.2.2.2.2 gX8_mannerOnTape_X6_spells rfl rfl rfl kd_X6_spells ⟨Nat.le_of_ble_eq_true rfl, Nat.le_of_ble_eq_true rfl⟩) (hp.V hE (show vwCl[6]? = some (RX6, TX6, 2) from rfl) rfl) rfl rfl hl.1 rfl (lv_room (Nat.le_of_ble_eq_true rfl)) dX8_mannerOnTape_15 ⟨Nat.zero_le _, Nat.zero_le _⟩) (fun H locs M => ?_)
      have M : gM E A s.heap [[(ad 0, .inr (8, [.ref (ad 1), .ref (ad 4), .ref (ad 15), .ref (ad 32), .ref (ad 33), .ref (ad 38), .ref (ad 41), .int z.mn, .int z.mk, .int z.mg, .int z.jp]))], tapW E ad z.tp, spuW E ad z.sp, surW E ad z.sg, sheW E ad z.sh, wisW E ad z.wi, linW E ad z.ln, arrW E ad z.ar] H locs := M
      refine lv_if_eq (tgt := 23) S.1 S.2.1 dX8_mannerOnTape_18 (by decide) (fun c18 => ?_) (fun c18 => ?_)
      ·
        refine lv_iinc (v := nI (i + 1)) (lv' := [(1, .int (nI (i + 1))), (0, .ref (ad 0))]) S.1 S.2.1 dX8_mannerOnTape_23 hl (k := 1) rfl (nI_1 _) (by decide) rfl (fun ls hl => ?_)
        refine lv_goto (tgt := 2) S.1 S.2.1 dX8_mannerOnTape_26 (by decide) ?_
        exact ih (i + 1) (by omega) (by rw [hI, motl, if_pos c18]) _ _ M ls (lv_sub hl [1, 0] rfl)
      ·
        refine lv_iload_n S.1 S.2.1 dX8_mannerOnTape_21 rfl (lv_at hl 1 rfl) ?_
        rw [← hQ]
        exact giret S hr hlk M (by rw [hI, motl, if_neg c18]) (rfl) dX8_mannerOnTape_22
  refine lv_iconst (v := 0) S.1 S.2.1 dX8_mannerOnTape_0 (by decide) ?_
  refine lv_istore_n (lv' := [(1, .int 0), (0, .ref (ad 0))]) S.1 S.2.1 dX8_mannerOnTape_1 rfl hl (by decide) rfl (fun ls hl => ?_)
  exact hL 5 0 (by omega) rfl _ _ M ls (lv_sub hl [1, 0] rfl)

set_option maxHeartbeats 4000000 in
set_option maxRecDepth 100000 in
theorem c_X8_manner (l : Launch) (E : xE) (ad : Nat → Nat) (z : SpcS) (k : Int32) : mI l yX8_manner wsX8_manner (xrm 6 128) E [.ref (ad 0), .int k] (spcGs E ad z) ((SpcS.manner z k).1) (spcGs E ad ((SpcS.manner z k).2)) := by
  intro sz
  refine Met.ofW (cc := cX8_manner) (maxL := 3) (ret := (some .int)) (by decide +kernel) rfl ?_
  intro vp ve s vm args below meth vc s₁ B hml hv
  obtain ⟨rfl, S, hr, hlk, hnm, A, hA, hE, M⟩ := genter B hml hv
  rw [hA]
  obtain ⟨ls, hfr, hl⟩ := gst (m := vm) (as := [.ref (ad 0), .int k]) (n := 3) (Nat.le_of_ble_eq_true rfl)
  rw [hfr]
  clear hfr hA
  have hl : lv_has ls 3 [(0, .ref (ad 0)), (1, .int k)] := hl
  have M : gM E A s.heap [[(ad 0, .inr (8, [.ref (ad 1), .ref (ad 4), .ref (ad 15), .ref (ad 32), .ref (ad 33), .ref (ad 38), .ref (ad 41), .int z.mn, .int z.mk, .int z.mg, .int z.jp]))], tapW E ad z.tp, spuW E ad z.sp, surW E ad z.sg, sheW E ad z.sh, wisW E ad z.wi, linW E ad z.ln, arrW E ad z.ar] s.heap [] := M
  have hwi : ∀ w ∈ u_ws RX8 TX8 11, w ∈ wsX8_manner := by decide +kernel
  refine lv_aload_n S.1 S.2.1 dX8_manner_0 rfl (lv_at hl 0 rfl) ?_
  refine gcalli (L := []) (Mid := spcGs E ad z) (Rr := []) (Mid' := spcGs E ad z) hE M rfl (rfl) (rfl) (fun hp => va_runV (As := []) (rest := []) S (c_X8_mannerOnTape l E ad z   _) (cwV 0 S.2.2.2.2 gX8_manner_X8_mannerOnTape rfl rfl rfl kd_X8_mannerOnTape ⟨Nat.le_of_ble_eq_true rfl, Nat.le_of_ble_eq_true rfl⟩) (hp.V hE (show vwCl[8]? = some (RX8, TX8, 11) from rfl) rfl) rfl rfl hl.1 rfl (lv_room (Nat.le_of_ble_eq_true rfl)) dX8_manner_1 ⟨Nat.zero_le _, Nat.zero_le _⟩) (fun H locs M => ?_)
  have M : gM E A s.heap [[(ad 0, .inr (8, [.ref (ad 1), .ref (ad 4), .ref (ad 15), .ref (ad 32), .ref (ad 33), .ref (ad 38), .ref (ad 41), .int z.mn, .int z.mk, .int z.mg, .int z.jp]))], tapW E ad z.tp, spuW E ad z.sp, surW E ad z.sg, sheW E ad z.sh, wisW E ad z.wi, linW E ad z.ln, arrW E ad z.ar] H locs := M
  refine lv_istore_n (lv' := [(2, .int z.told), (0, .ref (ad 0)), (1, .int k)]) S.1 S.2.1 dX8_manner_4 rfl hl (by decide) rfl (fun ls hl => ?_)
  refine lv_iload_n S.1 S.2.1 dX8_manner_5 rfl (lv_at hl 0 rfl) ?_
  refine lv_iconst (v := (-1)) S.1 S.2.1 dX8_manner_6 (by decide) ?_
  refine lv_icmp_ne (tgt := 12) S.1 S.2.1 dX8_manner_7 (by decide) (fun c7 => ?_) (fun c7 => ?_)
  ·
    refine lv_iload_n S.1 S.2.1 dX8_manner_12 rfl (lv_at hl 2 rfl) ?_
    refine lv_iload_n S.1 S.2.1 dX8_manner_13 rfl (lv_at hl 0 rfl) ?_
    refine gcalli (L := []) (Mid := []) (Rr := [[(ad 0, .inr (8, [.ref (ad 1), .ref (ad 4), .ref (ad 15), .ref (ad 32), .ref (ad 33), .ref (ad 38), .ref (ad 41), .int z.mn, .int z.mk, .int z.mg, .int z.jp]))], tapW E ad z.tp, spuW E ad z.sp, surW E ad z.sg, sheW E ad z.sh, wisW E ad z.wi, linW E ad z.ln, arrW E ad z.ar]) (Mid' := []) hE M rfl (rfl) (rfl) (fun hp => va_runS (As := [.int z.told]) (rest := [.int k]) S (c_X8_leastNumber l E z.told _) (va_cwS 1 S.2.2.2.2 gX8_manner_X8_leastNumber rfl rfl rfl kd_X8_leastNumber.2 ⟨Nat.le_of_ble_eq_true rfl, Nat.le_of_ble_eq_true rfl⟩) hp.S rfl rfl hl.1 rfl (lv_room (Nat.le_of_ble_eq_true rfl)) dX8_manner_14 ⟨Nat.zero_le _, Nat.zero_le _⟩) (fun H locs M => ?_)
    have M : gM E A s.heap [[(ad 0, .inr (8, [.ref (ad 1), .ref (ad 4), .ref (ad 15), .ref (ad 32), .ref (ad 33), .ref (ad 38), .ref (ad 41), .int z.mn, .int z.mk, .int z.mg, .int z.jp]))], tapW E ad z.tp, spuW E ad z.sp, surW E ad z.sg, sheW E ad z.sh, wisW E ad z.wi, linW E ad z.ln, arrW E ad z.ar] H locs := M
    refine lv_iload_n S.1 S.2.1 dX8_manner_17 rfl (lv_at hl 0 rfl) ?_
    refine gcalli (L := []) (Mid := []) (Rr := [[(ad 0, .inr (8, [.ref (ad 1), .ref (ad 4), .ref (ad 15), .ref (ad 32), .ref (ad 33), .ref (ad 38), .ref (ad 41), .int z.mn, .int z.mk, .int z.mg, .int z.jp]))], tapW E ad z.tp, spuW E ad z.sp, surW E ad z.sg, sheW E ad z.sh, wisW E ad z.wi, linW E ad z.ln, arrW E ad z.ar]) (Mid' := []) hE M rfl (rfl) (rfl) (fun hp => va_runS (As := [.int z.told]) (rest := [.int (leastN z.told), .int k]) S (c_X8_greatestNumber l E z.told _) (va_cwS 1 S.2.2.2.2 gX8_manner_X8_greatestNumber rfl rfl rfl kd_X8_greatestNumber.2 ⟨Nat.le_of_ble_eq_true rfl, Nat.le_of_ble_eq_true rfl⟩) hp.S rfl rfl hl.1 rfl (lv_room (Nat.le_of_ble_eq_true rfl)) dX8_manner_18 ⟨Nat.zero_le _, Nat.zero_le _⟩) (fun H locs M => ?_)
    have M : gM E A s.heap [[(ad 0, .inr (8, [.ref (ad 1), .ref (ad 4), .ref (ad 15), .ref (ad 32), .ref (ad 33), .ref (ad 38), .ref (ad 41), .int z.mn, .int z.mk, .int z.mg, .int z.jp]))], tapW E ad z.tp, spuW E ad z.sp, surW E ad z.sg, sheW E ad z.sh, wisW E ad z.wi, linW E ad z.ln, arrW E ad z.ar] H locs := M
    refine gcalli (L := []) (Mid := []) (Rr := [[(ad 0, .inr (8, [.ref (ad 1), .ref (ad 4), .ref (ad 15), .ref (ad 32), .ref (ad 33), .ref (ad 38), .ref (ad 41), .int z.mn, .int z.mk, .int z.mg, .int z.jp]))], tapW E ad z.tp, spuW E ad z.sp, surW E ad z.sg, sheW E ad z.sh, wisW E ad z.wi, linW E ad z.ln, arrW E ad z.ar]) (Mid' := []) hE M rfl (rfl) (rfl) (fun hp => va_runS (As := [.int k, .int (leastN z.told), .int (greatN z.told)]) (rest := []) S (c_X8_isOutside l E k (leastN z.told) (greatN z.told) _) (va_cwS 3 S.2.2.2.2 gX8_manner_X8_isOutside rfl rfl rfl kd_X8_isOutside.2 ⟨Nat.le_of_ble_eq_true rfl, Nat.le_of_ble_eq_true rfl⟩) hp.S rfl rfl hl.1 rfl (lv_room (Nat.le_of_ble_eq_true rfl)) dX8_manner_21 ⟨Nat.zero_le _, Nat.zero_le _⟩) (fun H locs M => ?_)
    have M : gM E A s.heap [[(ad 0, .inr (8, [.ref (ad 1), .ref (ad 4), .ref (ad 15), .ref (ad 32), .ref (ad 33), .ref (ad 38), .ref (ad 41), .int z.mn, .int z.mk, .int z.mg, .int z.jp]))], tapW E ad z.tp, spuW E ad z.sp, surW E ad z.sg, sheW E ad z.sh, wisW E ad z.wi, linW E ad z.ln, arrW E ad z.ar] H locs := M
    refine lv_if_eq (tgt := 30) S.1 S.2.1 dX8_manner_24 (by decide) (fun c24 => ?_) (fun c24 => ?_)
    ·
      refine lv_aload_n S.1 S.2.1 dX8_manner_30 rfl (lv_at hl 1 rfl) ?_
      refine lv_iload_n S.1 S.2.1 dX8_manner_31 rfl (lv_at hl 0 rfl) ?_
      refine gput S hE M (C := RX8) (T := TX8) (N := 11) (ci := 8) (index := 60) (Gs' := [[(ad 0, .inr (8, [.ref (ad 1), .ref (ad 4), .ref (ad 15), .ref (ad 32), .ref (ad 33), .ref (ad 38), .ref (ad 41), .int z.told, .int z.mk, .int z.mg, .int z.jp]))], tapW E ad z.tp, spuW E ad z.sp, surW E ad z.sg, sheW E ad z.sh, wisW E ad z.wi, linW E ad z.ln, arrW E ad z.ar]) hwi tyX8 tyX8_ok nmX8 0 rfl rfl 7 (by decide) (by decide +kernel) rfl rfl rfl (Nat.le_of_ble_eq_true rfl) rfl dX8_manner_32 (fun H locs M => ?_)
      refine lv_aload_n S.1 S.2.1 dX8_manner_35 rfl (lv_at hl 1 rfl) ?_
      refine lv_iload_n S.1 S.2.1 dX8_manner_36 rfl (lv_at hl 2 rfl) ?_
      refine gput S hE M (C := RX8) (T := TX8) (N := 11) (ci := 8) (index := 64) (Gs' := [[(ad 0, .inr (8, [.ref (ad 1), .ref (ad 4), .ref (ad 15), .ref (ad 32), .ref (ad 33), .ref (ad 38), .ref (ad 41), .int z.told, .int k, .int z.mg, .int z.jp]))], tapW E ad z.tp, spuW E ad z.sp, surW E ad z.sg, sheW E ad z.sh, wisW E ad z.wi, linW E ad z.ln, arrW E ad z.ar]) hwi tyX8 tyX8_ok nmX8 0 rfl rfl 8 (by decide) (by decide +kernel) rfl rfl rfl (Nat.le_of_ble_eq_true rfl) rfl dX8_manner_37 (fun H locs M => ?_)
      refine lv_aload_n S.1 S.2.1 dX8_manner_40 rfl (lv_at hl 1 rfl) ?_
      refine gget S hE M (C := RX8) (T := TX8) (N := 11) (ci := 8) (index := 12) hwi 0 rfl rfl 0 (by decide) (by decide +kernel) rfl dX8_manner_41 ?_
      refine gcallv (L := [[(ad 0, .inr (8, [.ref (ad 1), .ref (ad 4), .ref (ad 15), .ref (ad 32), .ref (ad 33), .ref (ad 38), .ref (ad 41), .int z.told, .int k, .int z.mg, .int z.jp]))]]) (Mid := [tapW E ad z.tp]) (Rr := [spuW E ad z.sp, surW E ad z.sg, sheW E ad z.sh, wisW E ad z.wi, linW E ad z.ln, arrW E ad z.ar]) (Mid' := [tapW E ad (z.tp.cs, 0)]) hE M rfl (List.append_nil _) (List.append_nil _) (fun hp => va_runV (As := []) (rest := []) S (c_X6_clear l E ad z.tp   _) (cwV 0 S.2.2.2.2 gX8_manner_X6_clear rfl rfl rfl kd_X6_clear ⟨Nat.le_of_ble_eq_true rfl, Nat.le_of_ble_eq_true rfl⟩) (hp.V hE (show vwCl[6]? = some (RX6, TX6, 2) from rfl) rfl) rfl rfl hl.1 rfl (lv_room (Nat.le_of_ble_eq_true rfl)) dX8_manner_44 ⟨Nat.zero_le _, Nat.zero_le _⟩) (fun H locs M => ?_)
      have M : gM E A s.heap [[(ad 0, .inr (8, [.ref (ad 1), .ref (ad 4), .ref (ad 15), .ref (ad 32), .ref (ad 33), .ref (ad 38), .ref (ad 41), .int z.told, .int k, .int z.mg, .int z.jp]))], tapW E ad (z.tp.cs, 0), spuW E ad z.sp, surW E ad z.sg, sheW E ad z.sh, wisW E ad z.wi, linW E ad z.ln, arrW E ad z.ar] H locs := M
      refine lv_iload_n S.1 S.2.1 dX8_manner_47 rfl (lv_at hl 0 rfl) ?_
      have he : SpcS.manner z k = (z.told, (((z.tp.cs, 0), z.ar, z.sp, z.sg, z.ln, z.wi, z.sh, z.told, k, z.mg, z.jp) : SpcS)) := by unfold SpcS.manner; rw [if_neg c7, if_pos c24] <;> rfl
      exact giret S hr hlk M (by rw [he]) (by rw [he]; rfl) dX8_manner_48
    ·
      refine lv_bipush (v := (-2)) S.1 S.2.1 dX8_manner_27 (by decide) ?_
      have he : SpcS.manner z k = ((-2), z) := by unfold SpcS.manner; rw [if_neg c7, if_neg c24] <;> rfl
      exact giret S hr hlk M (by rw [he]) (by rw [he]; rfl) dX8_manner_29
  ·
    refine lv_iconst (v := (-1)) S.1 S.2.1 dX8_manner_10 (by decide) ?_
    have he : SpcS.manner z k = ((-1), z) := by unfold SpcS.manner; rw [if_pos c7] <;> rfl
    exact giret S hr hlk M (by rw [he]) (by rw [he]; rfl) dX8_manner_11

set_option maxHeartbeats 4000000 in
set_option maxRecDepth 100000 in
theorem c_X8_margin (l : Launch) (E : xE) (ad : Nat → Nat) (z : SpcS) (v : Int32) : mI l yX8_margin wsX8_margin (xrm 1 22) E [.ref (ad 0), .int v] (spcGs E ad z) ((SpcS.margin z v).1) (spcGs E ad ((SpcS.margin z v).2)) := by
  intro sz
  refine Met.ofW (cc := cX8_margin) (maxL := 3) (ret := (some .int)) (by decide +kernel) rfl ?_
  intro vp ve s vm args below meth vc s₁ B hml hv
  obtain ⟨rfl, S, hr, hlk, hnm, A, hA, hE, M⟩ := genter B hml hv
  rw [hA]
  obtain ⟨ls, hfr, hl⟩ := gst (m := vm) (as := [.ref (ad 0), .int v]) (n := 3) (Nat.le_of_ble_eq_true rfl)
  rw [hfr]
  clear hfr hA
  have hl : lv_has ls 3 [(0, .ref (ad 0)), (1, .int v)] := hl
  have M : gM E A s.heap [[(ad 0, .inr (8, [.ref (ad 1), .ref (ad 4), .ref (ad 15), .ref (ad 32), .ref (ad 33), .ref (ad 38), .ref (ad 41), .int z.mn, .int z.mk, .int z.mg, .int z.jp]))], tapW E ad z.tp, spuW E ad z.sp, surW E ad z.sg, sheW E ad z.sh, wisW E ad z.wi, linW E ad z.ln, arrW E ad z.ar] s.heap [] := M
  have hwi : ∀ w ∈ u_ws RX8 TX8 11, w ∈ wsX8_margin := by decide +kernel
  refine lv_iload_n S.1 S.2.1 dX8_margin_0 rfl (lv_at hl 1 rfl) ?_
  refine lv_iconst (v := 0) S.1 S.2.1 dX8_margin_1 (by decide) ?_
  refine lv_sipush (v := 200) S.1 S.2.1 dX8_margin_2 (by decide) ?_
  refine gcalli (L := []) (Mid := []) (Rr := [[(ad 0, .inr (8, [.ref (ad 1), .ref (ad 4), .ref (ad 15), .ref (ad 32), .ref (ad 33), .ref (ad 38), .ref (ad 41), .int z.mn, .int z.mk, .int z.mg, .int z.jp]))], tapW E ad z.tp, spuW E ad z.sp, surW E ad z.sg, sheW E ad z.sh, wisW E ad z.wi, linW E ad z.ln, arrW E ad z.ar]) (Mid' := []) hE M rfl (rfl) (rfl) (fun hp => va_runS (As := [.int v, .int 0, .int 200]) (rest := []) S (c_X8_isOutside l E v 0 200 _) (va_cwS 3 S.2.2.2.2 gX8_margin_X8_isOutside rfl rfl rfl kd_X8_isOutside.2 ⟨Nat.le_of_ble_eq_true rfl, Nat.le_of_ble_eq_true rfl⟩) hp.S rfl rfl hl.1 rfl (lv_room (Nat.le_of_ble_eq_true rfl)) dX8_margin_5 ⟨Nat.zero_le _, Nat.zero_le _⟩) (fun H locs M => ?_)
  have M : gM E A s.heap [[(ad 0, .inr (8, [.ref (ad 1), .ref (ad 4), .ref (ad 15), .ref (ad 32), .ref (ad 33), .ref (ad 38), .ref (ad 41), .int z.mn, .int z.mk, .int z.mg, .int z.jp]))], tapW E ad z.tp, spuW E ad z.sp, surW E ad z.sg, sheW E ad z.sh, wisW E ad z.wi, linW E ad z.ln, arrW E ad z.ar] H locs := M
  refine lv_if_eq (tgt := 14) S.1 S.2.1 dX8_margin_8 (by decide) (fun c8 => ?_) (fun c8 => ?_)
  ·
    refine lv_aload_n S.1 S.2.1 dX8_margin_14 rfl (lv_at hl 0 rfl) ?_
    refine gget S hE M (C := RX8) (T := TX8) (N := 11) (ci := 8) (index := 67) hwi 0 rfl rfl 9 (by decide) (by decide +kernel) rfl dX8_margin_15 ?_
    refine lv_istore_n (lv' := [(2, .int z.mg), (0, .ref (ad 0)), (1, .int v)]) S.1 S.2.1 dX8_margin_18 rfl hl (by decide) rfl (fun ls hl => ?_)
    refine lv_aload_n S.1 S.2.1 dX8_margin_19 rfl (lv_at hl 1 rfl) ?_
    refine lv_iload_n S.1 S.2.1 dX8_margin_20 rfl (lv_at hl 2 rfl) ?_
    refine gput S hE M (C := RX8) (T := TX8) (N := 11) (ci := 8) (index := 67) (Gs' := [[(ad 0, .inr (8, [.ref (ad 1), .ref (ad 4), .ref (ad 15), .ref (ad 32), .ref (ad 33), .ref (ad 38), .ref (ad 41), .int z.mn, .int z.mk, .int v, .int z.jp]))], tapW E ad z.tp, spuW E ad z.sp, surW E ad z.sg, sheW E ad z.sh, wisW E ad z.wi, linW E ad z.ln, arrW E ad z.ar]) hwi tyX8 tyX8_ok nmX8 0 rfl rfl 9 (by decide) (by decide +kernel) rfl rfl rfl (Nat.le_of_ble_eq_true rfl) rfl dX8_margin_21 (fun H locs M => ?_)
    refine lv_iload_n S.1 S.2.1 dX8_margin_24 rfl (lv_at hl 0 rfl) ?_
    have he : SpcS.margin z v = (z.mg, ((z.tp, z.ar, z.sp, z.sg, z.ln, z.wi, z.sh, z.mn, z.mk, v, z.jp) : SpcS)) := by unfold SpcS.margin; rw [if_pos c8] <;> rfl
    exact giret S hr hlk M (by rw [he]) (by rw [he]; rfl) dX8_margin_25
  ·
    refine lv_bipush (v := (-2)) S.1 S.2.1 dX8_margin_11 (by decide) ?_
    have he : SpcS.margin z v = ((-2), z) := by unfold SpcS.margin; rw [if_neg c8] <;> rfl
    exact giret S hr hlk M (by rw [he]) (by rw [he]; rfl) dX8_margin_13

set_option maxHeartbeats 4000000 in
set_option maxRecDepth 100000 in
theorem c_X8_jump (l : Launch) (E : xE) (ad : Nat → Nat) (z : SpcS) (v : Int32) : mI l yX8_jump wsX8_jump (xrm 1 22) E [.ref (ad 0), .int v] (spcGs E ad z) ((SpcS.jump z v).1) (spcGs E ad ((SpcS.jump z v).2)) := by
  intro sz
  refine Met.ofW (cc := cX8_jump) (maxL := 3) (ret := (some .int)) (by decide +kernel) rfl ?_
  intro vp ve s vm args below meth vc s₁ B hml hv
  obtain ⟨rfl, S, hr, hlk, hnm, A, hA, hE, M⟩ := genter B hml hv
  rw [hA]
  obtain ⟨ls, hfr, hl⟩ := gst (m := vm) (as := [.ref (ad 0), .int v]) (n := 3) (Nat.le_of_ble_eq_true rfl)
  rw [hfr]
  clear hfr hA
  have hl : lv_has ls 3 [(0, .ref (ad 0)), (1, .int v)] := hl
  have M : gM E A s.heap [[(ad 0, .inr (8, [.ref (ad 1), .ref (ad 4), .ref (ad 15), .ref (ad 32), .ref (ad 33), .ref (ad 38), .ref (ad 41), .int z.mn, .int z.mk, .int z.mg, .int z.jp]))], tapW E ad z.tp, spuW E ad z.sp, surW E ad z.sg, sheW E ad z.sh, wisW E ad z.wi, linW E ad z.ln, arrW E ad z.ar] s.heap [] := M
  have hwi : ∀ w ∈ u_ws RX8 TX8 11, w ∈ wsX8_jump := by decide +kernel
  refine lv_iload_n S.1 S.2.1 dX8_jump_0 rfl (lv_at hl 1 rfl) ?_
  refine lv_bipush (v := 10) S.1 S.2.1 dX8_jump_1 (by decide) ?_
  refine lv_sipush (v := 1000) S.1 S.2.1 dX8_jump_3 (by decide) ?_
  refine gcalli (L := []) (Mid := []) (Rr := [[(ad 0, .inr (8, [.ref (ad 1), .ref (ad 4), .ref (ad 15), .ref (ad 32), .ref (ad 33), .ref (ad 38), .ref (ad 41), .int z.mn, .int z.mk, .int z.mg, .int z.jp]))], tapW E ad z.tp, spuW E ad z.sp, surW E ad z.sg, sheW E ad z.sh, wisW E ad z.wi, linW E ad z.ln, arrW E ad z.ar]) (Mid' := []) hE M rfl (rfl) (rfl) (fun hp => va_runS (As := [.int v, .int 10, .int 1000]) (rest := []) S (c_X8_isOutside l E v 10 1000 _) (va_cwS 3 S.2.2.2.2 gX8_jump_X8_isOutside rfl rfl rfl kd_X8_isOutside.2 ⟨Nat.le_of_ble_eq_true rfl, Nat.le_of_ble_eq_true rfl⟩) hp.S rfl rfl hl.1 rfl (lv_room (Nat.le_of_ble_eq_true rfl)) dX8_jump_6 ⟨Nat.zero_le _, Nat.zero_le _⟩) (fun H locs M => ?_)
  have M : gM E A s.heap [[(ad 0, .inr (8, [.ref (ad 1), .ref (ad 4), .ref (ad 15), .ref (ad 32), .ref (ad 33), .ref (ad 38), .ref (ad 41), .int z.mn, .int z.mk, .int z.mg, .int z.jp]))], tapW E ad z.tp, spuW E ad z.sp, surW E ad z.sg, sheW E ad z.sh, wisW E ad z.wi, linW E ad z.ln, arrW E ad z.ar] H locs := M
  refine lv_if_eq (tgt := 15) S.1 S.2.1 dX8_jump_9 (by decide) (fun c9 => ?_) (fun c9 => ?_)
  ·
    refine lv_aload_n S.1 S.2.1 dX8_jump_15 rfl (lv_at hl 0 rfl) ?_
    refine gget S hE M (C := RX8) (T := TX8) (N := 11) (ci := 8) (index := 70) hwi 0 rfl rfl 10 (by decide) (by decide +kernel) rfl dX8_jump_16 ?_
    refine lv_istore_n (lv' := [(2, .int z.jp), (0, .ref (ad 0)), (1, .int v)]) S.1 S.2.1 dX8_jump_19 rfl hl (by decide) rfl (fun ls hl => ?_)
    refine lv_aload_n S.1 S.2.1 dX8_jump_20 rfl (lv_at hl 1 rfl) ?_
    refine lv_iload_n S.1 S.2.1 dX8_jump_21 rfl (lv_at hl 2 rfl) ?_
    refine gput S hE M (C := RX8) (T := TX8) (N := 11) (ci := 8) (index := 70) (Gs' := [[(ad 0, .inr (8, [.ref (ad 1), .ref (ad 4), .ref (ad 15), .ref (ad 32), .ref (ad 33), .ref (ad 38), .ref (ad 41), .int z.mn, .int z.mk, .int z.mg, .int v]))], tapW E ad z.tp, spuW E ad z.sp, surW E ad z.sg, sheW E ad z.sh, wisW E ad z.wi, linW E ad z.ln, arrW E ad z.ar]) hwi tyX8 tyX8_ok nmX8 0 rfl rfl 10 (by decide) (by decide +kernel) rfl rfl rfl (Nat.le_of_ble_eq_true rfl) rfl dX8_jump_22 (fun H locs M => ?_)
    refine lv_iload_n S.1 S.2.1 dX8_jump_25 rfl (lv_at hl 0 rfl) ?_
    have he : SpcS.jump z v = (z.jp, ((z.tp, z.ar, z.sp, z.sg, z.ln, z.wi, z.sh, z.mn, z.mk, z.mg, v) : SpcS)) := by unfold SpcS.jump; rw [if_pos c9] <;> rfl
    exact giret S hr hlk M (by rw [he]) (by rw [he]; rfl) dX8_jump_26
  ·
    refine lv_bipush (v := (-2)) S.1 S.2.1 dX8_jump_12 (by decide) ?_
    have he : SpcS.jump z v = ((-2), z) := by unfold SpcS.jump; rw [if_neg c9] <;> rfl
    exact giret S hr hlk M (by rw [he]) (by rw [he]; rfl) dX8_jump_14

set_option maxHeartbeats 4000000 in
set_option maxRecDepth 100000 in
theorem c_X8_refusalOf (l : Launch) (E : xE) (ad : Nat → Nat) (z : SpcS) (n : Int32) (h : Int32) (p : Int32) (t : Int32) (hA : z.ar.ct ≤ 120) (hS : z.sp.ct ≤ 120) : mI l yX8_refusalOf wsX8_refusalOf (xrm 3 71) E [.ref (ad 0), .int n, .int h, .int p, .int t] (spcGs E ad z) (z.refuse n h p t) (spcGs E ad z) := by
  intro sz
  refine Met.ofW (cc := cX8_refusalOf) (maxL := 5) (ret := (some .int)) (by decide +kernel) rfl ?_
  intro vp ve s vm args below meth vc s₁ B hml hv
  obtain ⟨rfl, S, hr, hlk, hnm, A, hA, hE, M⟩ := genter B hml hv
  rw [hA]
  obtain ⟨ls, hfr, hl⟩ := gst (m := vm) (as := [.ref (ad 0), .int n, .int h, .int p, .int t]) (n := 5) (Nat.le_of_ble_eq_true rfl)
  rw [hfr]
  clear hfr hA
  have hl : lv_has ls 5 [(0, .ref (ad 0)), (1, .int n), (2, .int h), (3, .int p), (4, .int t)] := hl
  have M : gM E A s.heap [[(ad 0, .inr (8, [.ref (ad 1), .ref (ad 4), .ref (ad 15), .ref (ad 32), .ref (ad 33), .ref (ad 38), .ref (ad 41), .int z.mn, .int z.mk, .int z.mg, .int z.jp]))], tapW E ad z.tp, spuW E ad z.sp, surW E ad z.sg, sheW E ad z.sh, wisW E ad z.wi, linW E ad z.ln, arrW E ad z.ar] s.heap [] := M
  have hwi : ∀ w ∈ u_ws RX8 TX8 11, w ∈ wsX8_refusalOf := by decide +kernel
  refine lv_iload_n S.1 S.2.1 dX8_refusalOf_0 rfl (lv_at hl 1 rfl) ?_
  refine lv_iconst (v := 0) S.1 S.2.1 dX8_refusalOf_1 (by decide) ?_
  refine lv_sipush (v := 299) S.1 S.2.1 dX8_refusalOf_2 (by decide) ?_
  refine gcalli (L := []) (Mid := []) (Rr := [[(ad 0, .inr (8, [.ref (ad 1), .ref (ad 4), .ref (ad 15), .ref (ad 32), .ref (ad 33), .ref (ad 38), .ref (ad 41), .int z.mn, .int z.mk, .int z.mg, .int z.jp]))], tapW E ad z.tp, spuW E ad z.sp, surW E ad z.sg, sheW E ad z.sh, wisW E ad z.wi, linW E ad z.ln, arrW E ad z.ar]) (Mid' := []) hE M rfl (rfl) (rfl) (fun hp => va_runS (As := [.int n, .int 0, .int 299]) (rest := []) S (c_X8_isOutside l E n 0 299 _) (va_cwS 3 S.2.2.2.2 gX8_refusalOf_X8_isOutside rfl rfl rfl kd_X8_isOutside.2 ⟨Nat.le_of_ble_eq_true rfl, Nat.le_of_ble_eq_true rfl⟩) hp.S rfl rfl hl.1 rfl (lv_room (Nat.le_of_ble_eq_true rfl)) dX8_refusalOf_5 ⟨Nat.zero_le _, Nat.zero_le _⟩) (fun H locs M => ?_)
  have M : gM E A s.heap [[(ad 0, .inr (8, [.ref (ad 1), .ref (ad 4), .ref (ad 15), .ref (ad 32), .ref (ad 33), .ref (ad 38), .ref (ad 41), .int z.mn, .int z.mk, .int z.mg, .int z.jp]))], tapW E ad z.tp, spuW E ad z.sp, surW E ad z.sg, sheW E ad z.sh, wisW E ad z.wi, linW E ad z.ln, arrW E ad z.ar] H locs := M
  refine lv_if_ne (tgt := 41) S.1 S.2.1 dX8_refusalOf_8 (by decide) (fun c8 => ?_) (fun c8 => ?_)
  ·
    refine lv_bipush (v := (-2)) S.1 S.2.1 dX8_refusalOf_41 (by decide) ?_
    exact giret S hr hlk M (by unfold SpcS.refuse; rw [if_neg c8]) (rfl) dX8_refusalOf_43
  ·
    refine lv_iload_n S.1 S.2.1 dX8_refusalOf_11 rfl (lv_at hl 2 rfl) ?_
    refine lv_iconst (v := 0) S.1 S.2.1 dX8_refusalOf_12 (by decide) ?_
    refine lv_iload_n S.1 S.2.1 dX8_refusalOf_13 rfl (lv_at hl 1 rfl) ?_
    refine gcalli (L := []) (Mid := []) (Rr := [[(ad 0, .inr (8, [.ref (ad 1), .ref (ad 4), .ref (ad 15), .ref (ad 32), .ref (ad 33), .ref (ad 38), .ref (ad 41), .int z.mn, .int z.mk, .int z.mg, .int z.jp]))], tapW E ad z.tp, spuW E ad z.sp, surW E ad z.sg, sheW E ad z.sh, wisW E ad z.wi, linW E ad z.ln, arrW E ad z.ar]) (Mid' := []) hE M rfl (rfl) (rfl) (fun hp => va_runS (As := [.int h, .int 0, .int n]) (rest := []) S (c_X8_isOutside l E h 0 n _) (va_cwS 3 S.2.2.2.2 gX8_refusalOf_X8_isOutside rfl rfl rfl kd_X8_isOutside.2 ⟨Nat.le_of_ble_eq_true rfl, Nat.le_of_ble_eq_true rfl⟩) hp.S rfl rfl hl.1 rfl (lv_room (Nat.le_of_ble_eq_true rfl)) dX8_refusalOf_14 ⟨Nat.zero_le _, Nat.zero_le _⟩) (fun H locs M => ?_)
    have M : gM E A s.heap [[(ad 0, .inr (8, [.ref (ad 1), .ref (ad 4), .ref (ad 15), .ref (ad 32), .ref (ad 33), .ref (ad 38), .ref (ad 41), .int z.mn, .int z.mk, .int z.mg, .int z.jp]))], tapW E ad z.tp, spuW E ad z.sp, surW E ad z.sg, sheW E ad z.sh, wisW E ad z.wi, linW E ad z.ln, arrW E ad z.ar] H locs := M
    refine lv_if_ne (tgt := 41) S.1 S.2.1 dX8_refusalOf_17 (by decide) (fun c17 => ?_) (fun c17 => ?_)
    ·
      refine lv_bipush (v := (-2)) S.1 S.2.1 dX8_refusalOf_41 (by decide) ?_
      exact giret S hr hlk M (by unfold SpcS.refuse; rw [if_pos c8, if_neg c17]) (rfl) dX8_refusalOf_43
    ·
      refine lv_iload_n S.1 S.2.1 dX8_refusalOf_20 rfl (lv_at hl 3 rfl) ?_
      refine lv_iconst (v := 0) S.1 S.2.1 dX8_refusalOf_21 (by decide) ?_
      refine lv_iload_n S.1 S.2.1 dX8_refusalOf_22 rfl (lv_at hl 2 rfl) ?_
      refine gcalli (L := []) (Mid := []) (Rr := [[(ad 0, .inr (8, [.ref (ad 1), .ref (ad 4), .ref (ad 15), .ref (ad 32), .ref (ad 33), .ref (ad 38), .ref (ad 41), .int z.mn, .int z.mk, .int z.mg, .int z.jp]))], tapW E ad z.tp, spuW E ad z.sp, surW E ad z.sg, sheW E ad z.sh, wisW E ad z.wi, linW E ad z.ln, arrW E ad z.ar]) (Mid' := []) hE M rfl (rfl) (rfl) (fun hp => va_runS (As := [.int p, .int 0, .int h]) (rest := []) S (c_X8_isOutside l E p 0 h _) (va_cwS 3 S.2.2.2.2 gX8_refusalOf_X8_isOutside rfl rfl rfl kd_X8_isOutside.2 ⟨Nat.le_of_ble_eq_true rfl, Nat.le_of_ble_eq_true rfl⟩) hp.S rfl rfl hl.1 rfl (lv_room (Nat.le_of_ble_eq_true rfl)) dX8_refusalOf_23 ⟨Nat.zero_le _, Nat.zero_le _⟩) (fun H locs M => ?_)
      have M : gM E A s.heap [[(ad 0, .inr (8, [.ref (ad 1), .ref (ad 4), .ref (ad 15), .ref (ad 32), .ref (ad 33), .ref (ad 38), .ref (ad 41), .int z.mn, .int z.mk, .int z.mg, .int z.jp]))], tapW E ad z.tp, spuW E ad z.sp, surW E ad z.sg, sheW E ad z.sh, wisW E ad z.wi, linW E ad z.ln, arrW E ad z.ar] H locs := M
      refine lv_if_ne (tgt := 41) S.1 S.2.1 dX8_refusalOf_26 (by decide) (fun c26 => ?_) (fun c26 => ?_)
      ·
        refine lv_bipush (v := (-2)) S.1 S.2.1 dX8_refusalOf_41 (by decide) ?_
        exact giret S hr hlk M (by unfold SpcS.refuse; rw [if_pos c8, if_pos c17, if_neg c26]) (rfl) dX8_refusalOf_43
      ·
        refine lv_iload S.1 S.2.1 dX8_refusalOf_29 (lv_at hl 4 rfl) ?_
        refine lv_iconst (v := 0) S.1 S.2.1 dX8_refusalOf_31 (by decide) ?_
        refine lv_sipush (v := 30000) S.1 S.2.1 dX8_refusalOf_32 (by decide) ?_
        refine gcalli (L := []) (Mid := []) (Rr := [[(ad 0, .inr (8, [.ref (ad 1), .ref (ad 4), .ref (ad 15), .ref (ad 32), .ref (ad 33), .ref (ad 38), .ref (ad 41), .int z.mn, .int z.mk, .int z.mg, .int z.jp]))], tapW E ad z.tp, spuW E ad z.sp, surW E ad z.sg, sheW E ad z.sh, wisW E ad z.wi, linW E ad z.ln, arrW E ad z.ar]) (Mid' := []) hE M rfl (rfl) (rfl) (fun hp => va_runS (As := [.int t, .int 0, .int 30000]) (rest := []) S (c_X8_isOutside l E t 0 30000 _) (va_cwS 3 S.2.2.2.2 gX8_refusalOf_X8_isOutside rfl rfl rfl kd_X8_isOutside.2 ⟨Nat.le_of_ble_eq_true rfl, Nat.le_of_ble_eq_true rfl⟩) hp.S rfl rfl hl.1 rfl (lv_room (Nat.le_of_ble_eq_true rfl)) dX8_refusalOf_35 ⟨Nat.zero_le _, Nat.zero_le _⟩) (fun H locs M => ?_)
        have M : gM E A s.heap [[(ad 0, .inr (8, [.ref (ad 1), .ref (ad 4), .ref (ad 15), .ref (ad 32), .ref (ad 33), .ref (ad 38), .ref (ad 41), .int z.mn, .int z.mk, .int z.mg, .int z.jp]))], tapW E ad z.tp, spuW E ad z.sp, surW E ad z.sg, sheW E ad z.sh, wisW E ad z.wi, linW E ad z.ln, arrW E ad z.ar] H locs := M
        refine lv_if_eq (tgt := 44) S.1 S.2.1 dX8_refusalOf_38 (by decide) (fun c38 => ?_) (fun c38 => ?_)
        ·
          refine lv_iload S.1 S.2.1 dX8_refusalOf_44 (lv_at hl 4 rfl) ?_
          refine lv_aload_n S.1 S.2.1 dX8_refusalOf_46 rfl (lv_at hl 0 rfl) ?_
          refine gget S hE M (C := RX8) (T := TX8) (N := 11) (ci := 8) (index := 21) hwi 0 rfl rfl 1 (by decide) (by decide +kernel) rfl dX8_refusalOf_47 ?_
          refine gcalli (L := [[(ad 0, .inr (8, [.ref (ad 1), .ref (ad 4), .ref (ad 15), .ref (ad 32), .ref (ad 33), .ref (ad 38), .ref (ad 41), .int z.mn, .int z.mk, .int z.mg, .int z.jp]))], tapW E ad z.tp, spuW E ad z.sp, surW E ad z.sg, sheW E ad z.sh, wisW E ad z.wi, linW E ad z.ln]) (Mid := [arrW E ad z.ar]) (Rr := []) (Mid' := [arrW E ad z.ar]) hE M rfl (List.append_nil _) (List.append_nil _) (fun hp => va_runV (As := []) (rest := [.int t]) S (c_X0_latestWhen l E ad z.ar   _) (cwV 0 S.2.2.2.2 gX8_refusalOf_X0_latestWhen rfl rfl rfl kd_X0_latestWhen ⟨Nat.le_of_ble_eq_true rfl, Nat.le_of_ble_eq_true rfl⟩) (hp.V hE (show vwCl[0]? = some (RX0, TX0, 6) from rfl) rfl) rfl rfl hl.1 rfl (lv_room (Nat.le_of_ble_eq_true rfl)) dX8_refusalOf_50 ⟨Nat.zero_le _, Nat.zero_le _⟩) (fun H locs M => ?_)
          have M : gM E A s.heap [[(ad 0, .inr (8, [.ref (ad 1), .ref (ad 4), .ref (ad 15), .ref (ad 32), .ref (ad 33), .ref (ad 38), .ref (ad 41), .int z.mn, .int z.mk, .int z.mg, .int z.jp]))], tapW E ad z.tp, spuW E ad z.sp, surW E ad z.sg, sheW E ad z.sh, wisW E ad z.wi, linW E ad z.ln, arrW E ad z.ar] H locs := M
          refine lv_icmp_lt (tgt := 81) S.1 S.2.1 dX8_refusalOf_53 (by decide) (fun c53 => ?_) (fun c53 => ?_)
          ·
            refine lv_bipush (v := (-3)) S.1 S.2.1 dX8_refusalOf_81 (by decide) ?_
            exact giret S hr hlk M (by unfold SpcS.refuse; rw [if_pos c8, if_pos c17, if_pos c26, if_pos c38, if_pos c53]) (rfl) dX8_refusalOf_83
          ·
            refine lv_aload_n S.1 S.2.1 dX8_refusalOf_56 rfl (lv_at hl 0 rfl) ?_
            refine gget S hE M (C := RX8) (T := TX8) (N := 11) (ci := 8) (index := 21) hwi 0 rfl rfl 1 (by decide) (by decide +kernel) rfl dX8_refusalOf_57 ?_
            refine lv_iload_n S.1 S.2.1 dX8_refusalOf_60 rfl (lv_at hl 1 rfl) ?_
            refine gcalli (L := [[(ad 0, .inr (8, [.ref (ad 1), .ref (ad 4), .ref (ad 15), .ref (ad 32), .ref (ad 33), .ref (ad 38), .ref (ad 41), .int z.mn, .int z.mk, .int z.mg, .int z.jp]))], tapW E ad z.tp, spuW E ad z.sp, surW E ad z.sg, sheW E ad z.sh, wisW E ad z.wi, linW E ad z.ln]) (Mid := [arrW E ad z.ar]) (Rr := []) (Mid' := [arrW E ad z.ar]) hE M rfl (List.append_nil _) (List.append_nil _) (fun hp => va_runV (As := [.int n]) (rest := []) S (c_X0_placeOf l E ad z.ar n  _) (cwV 1 S.2.2.2.2 gX8_refusalOf_X0_placeOf rfl rfl rfl kd_X0_placeOf ⟨Nat.le_of_ble_eq_true rfl, Nat.le_of_ble_eq_true rfl⟩) (hp.V hE (show vwCl[0]? = some (RX0, TX0, 6) from rfl) rfl) rfl rfl hl.1 rfl (lv_room (Nat.le_of_ble_eq_true rfl)) dX8_refusalOf_61 ⟨Nat.zero_le _, Nat.zero_le _⟩) (fun H locs M => ?_)
            have M : gM E A s.heap [[(ad 0, .inr (8, [.ref (ad 1), .ref (ad 4), .ref (ad 15), .ref (ad 32), .ref (ad 33), .ref (ad 38), .ref (ad 41), .int z.mn, .int z.mk, .int z.mg, .int z.jp]))], tapW E ad z.tp, spuW E ad z.sp, surW E ad z.sg, sheW E ad z.sh, wisW E ad z.wi, linW E ad z.ln, arrW E ad z.ar] H locs := M
            refine lv_iconst (v := (-1)) S.1 S.2.1 dX8_refusalOf_64 (by decide) ?_
            refine lv_icmp_ne (tgt := 81) S.1 S.2.1 dX8_refusalOf_65 (by decide) (fun c65 => ?_) (fun c65 => ?_)
            ·
              refine lv_bipush (v := (-3)) S.1 S.2.1 dX8_refusalOf_81 (by decide) ?_
              exact giret S hr hlk M (by unfold SpcS.refuse; rw [if_pos c8, if_pos c17, if_pos c26, if_pos c38, if_neg c53, if_neg c65]) (rfl) dX8_refusalOf_83
            ·
              refine lv_aload_n S.1 S.2.1 dX8_refusalOf_68 rfl (lv_at hl 0 rfl) ?_
              refine gget S hE M (C := RX8) (T := TX8) (N := 11) (ci := 8) (index := 28) hwi 0 rfl rfl 2 (by decide) (by decide +kernel) rfl dX8_refusalOf_69 ?_
              refine lv_iload_n S.1 S.2.1 dX8_refusalOf_72 rfl (lv_at hl 1 rfl) ?_
              refine lv_iload_n S.1 S.2.1 dX8_refusalOf_73 rfl (lv_at hl 2 rfl) ?_
              refine lv_iload_n S.1 S.2.1 dX8_refusalOf_74 rfl (lv_at hl 3 rfl) ?_
              refine gcalli (L := [[(ad 0, .inr (8, [.ref (ad 1), .ref (ad 4), .ref (ad 15), .ref (ad 32), .ref (ad 33), .ref (ad 38), .ref (ad 41), .int z.mn, .int z.mk, .int z.mg, .int z.jp]))], tapW E ad z.tp]) (Mid := [spuW E ad z.sp]) (Rr := [surW E ad z.sg, sheW E ad z.sh, wisW E ad z.wi, linW E ad z.ln, arrW E ad z.ar]) (Mid' := [spuW E ad z.sp]) hE M rfl (List.append_nil _) (List.append_nil _) (fun hp => va_runV (As := [.int n, .int h, .int p]) (rest := []) S (c_X4_bar l E ad z.sp n h p  hS _) (cwV 3 S.2.2.2.2 gX8_refusalOf_X4_bar rfl rfl rfl kd_X4_bar ⟨Nat.le_of_ble_eq_true rfl, Nat.le_of_ble_eq_true rfl⟩) (hp.V hE (show vwCl[4]? = some (RX4, TX4, 9) from rfl) rfl) rfl rfl hl.1 rfl (lv_room (Nat.le_of_ble_eq_true rfl)) dX8_refusalOf_75 ⟨Nat.zero_le _, Nat.zero_le _⟩) (fun H locs M => ?_)
              have M : gM E A s.heap [[(ad 0, .inr (8, [.ref (ad 1), .ref (ad 4), .ref (ad 15), .ref (ad 32), .ref (ad 33), .ref (ad 38), .ref (ad 41), .int z.mn, .int z.mk, .int z.mg, .int z.jp]))], tapW E ad z.tp, spuW E ad z.sp, surW E ad z.sg, sheW E ad z.sh, wisW E ad z.wi, linW E ad z.ln, arrW E ad z.ar] H locs := M
              refine lv_if_eq (tgt := 84) S.1 S.2.1 dX8_refusalOf_78 (by decide) (fun c78 => ?_) (fun c78 => ?_)
              ·
                refine lv_aload_n S.1 S.2.1 dX8_refusalOf_84 rfl (lv_at hl 0 rfl) ?_
                refine gget S hE M (C := RX8) (T := TX8) (N := 11) (ci := 8) (index := 21) hwi 0 rfl rfl 1 (by decide) (by decide +kernel) rfl dX8_refusalOf_85 ?_
                refine gcalli (L := [[(ad 0, .inr (8, [.ref (ad 1), .ref (ad 4), .ref (ad 15), .ref (ad 32), .ref (ad 33), .ref (ad 38), .ref (ad 41), .int z.mn, .int z.mk, .int z.mg, .int z.jp]))], tapW E ad z.tp, spuW E ad z.sp, surW E ad z.sg, sheW E ad z.sh, wisW E ad z.wi, linW E ad z.ln]) (Mid := [arrW E ad z.ar]) (Rr := []) (Mid' := [arrW E ad z.ar]) hE M rfl (List.append_nil _) (List.append_nil _) (fun hp => va_runV (As := []) (rest := []) S (c_X0_count l E ad z.ar   _) (cwV 0 S.2.2.2.2 gX8_refusalOf_X0_count rfl rfl rfl kd_X0_count ⟨Nat.le_of_ble_eq_true rfl, Nat.le_of_ble_eq_true rfl⟩) (hp.V hE (show vwCl[0]? = some (RX0, TX0, 6) from rfl) rfl) rfl rfl hl.1 rfl (lv_room (Nat.le_of_ble_eq_true rfl)) dX8_refusalOf_88 ⟨Nat.zero_le _, Nat.zero_le _⟩) (fun H locs M => ?_)
                have M : gM E A s.heap [[(ad 0, .inr (8, [.ref (ad 1), .ref (ad 4), .ref (ad 15), .ref (ad 32), .ref (ad 33), .ref (ad 38), .ref (ad 41), .int z.mn, .int z.mk, .int z.mg, .int z.jp]))], tapW E ad z.tp, spuW E ad z.sp, surW E ad z.sg, sheW E ad z.sh, wisW E ad z.wi, linW E ad z.ln, arrW E ad z.ar] H locs := M
                refine lv_bipush (v := 120) S.1 S.2.1 dX8_refusalOf_91 (by decide) ?_
                refine lv_icmp_lt (tgt := 101) S.1 S.2.1 dX8_refusalOf_93 (by decide) (fun c93 => ?_) (fun c93 => ?_)
                ·
                  refine lv_iconst (v := 0) S.1 S.2.1 dX8_refusalOf_101 (by decide) ?_
                  exact giret S hr hlk M (by unfold SpcS.refuse; rw [if_pos c8, if_pos c17, if_pos c26, if_pos c38, if_neg c53, if_pos c65, if_pos c78, if_pos c93]) (rfl) dX8_refusalOf_102
                ·
                  refine lv_bipush (v := (-4)) S.1 S.2.1 dX8_refusalOf_96 (by decide) ?_
                  refine lv_goto (tgt := 102) S.1 S.2.1 dX8_refusalOf_98 (by decide) ?_
                  exact giret S hr hlk M (by unfold SpcS.refuse; rw [if_pos c8, if_pos c17, if_pos c26, if_pos c38, if_neg c53, if_pos c65, if_pos c78, if_neg c93]) (rfl) dX8_refusalOf_102
              ·
                refine lv_bipush (v := (-3)) S.1 S.2.1 dX8_refusalOf_81 (by decide) ?_
                exact giret S hr hlk M (by unfold SpcS.refuse; rw [if_pos c8, if_pos c17, if_pos c26, if_pos c38, if_neg c53, if_pos c65, if_neg c78]) (rfl) dX8_refusalOf_83
        ·
          refine lv_bipush (v := (-2)) S.1 S.2.1 dX8_refusalOf_41 (by decide) ?_
          exact giret S hr hlk M (by unfold SpcS.refuse; rw [if_pos c8, if_pos c17, if_pos c26, if_neg c38]) (rfl) dX8_refusalOf_43

set_option maxHeartbeats 4000000 in
set_option maxRecDepth 100000 in
theorem c_X8_wishFor (l : Launch) (E : xE) (ad : Nat → Nat) (z : SpcS) (h : Int32) (hA : z.ar.ct ≤ 120) : mI l yX8_wishFor wsX8_wishFor (xrm 4 93) E [.ref (ad 0), .int h] (spcGs E ad z) (z.wishR h) (spcGs E ad (z.wished h)) := by
  intro sz
  refine Met.ofW (cc := cX8_wishFor) (maxL := 2) (ret := (some .int)) (by decide +kernel) rfl ?_
  intro vp ve s vm args below meth vc s₁ B hml hv
  obtain ⟨rfl, S, hr, hlk, hnm, A, hA, hE, M⟩ := genter B hml hv
  rw [hA]
  obtain ⟨ls, hfr, hl⟩ := gst (m := vm) (as := [.ref (ad 0), .int h]) (n := 2) (Nat.le_of_ble_eq_true rfl)
  rw [hfr]
  clear hfr hA
  have hl : lv_has ls 2 [(0, .ref (ad 0)), (1, .int h)] := hl
  have M : gM E A s.heap [[(ad 0, .inr (8, [.ref (ad 1), .ref (ad 4), .ref (ad 15), .ref (ad 32), .ref (ad 33), .ref (ad 38), .ref (ad 41), .int z.mn, .int z.mk, .int z.mg, .int z.jp]))], tapW E ad z.tp, spuW E ad z.sp, surW E ad z.sg, sheW E ad z.sh, wisW E ad z.wi, linW E ad z.ln, arrW E ad z.ar] s.heap [] := M
  have hwi : ∀ w ∈ u_ws RX8 TX8 11, w ∈ wsX8_wishFor := by decide +kernel
  refine lv_aload_n S.1 S.2.1 dX8_wishFor_0 rfl (lv_at hl 0 rfl) ?_
  refine gget S hE M (C := RX8) (T := TX8) (N := 11) (ci := 8) (index := 49) hwi 0 rfl rfl 5 (by decide) (by decide +kernel) rfl dX8_wishFor_1 ?_
  refine lv_aload_n S.1 S.2.1 dX8_wishFor_4 rfl (lv_at hl 0 rfl) ?_
  refine gget S hE M (C := RX8) (T := TX8) (N := 11) (ci := 8) (index := 21) hwi 0 rfl rfl 1 (by decide) (by decide +kernel) rfl dX8_wishFor_5 ?_
  refine gcallv (L := [[(ad 0, .inr (8, [.ref (ad 1), .ref (ad 4), .ref (ad 15), .ref (ad 32), .ref (ad 33), .ref (ad 38), .ref (ad 41), .int z.mn, .int z.mk, .int z.mg, .int z.jp]))], tapW E ad z.tp, spuW E ad z.sp, surW E ad z.sg, sheW E ad z.sh]) (Mid := [wisW E ad z.wi, linW E ad z.ln, arrW E ad z.ar]) (Rr := []) (Mid' := [wisW E ad (WisS.gather z.wi z.ar), linW E ad z.ln, arrW E ad z.ar]) hE M rfl (by simp only [wisW, List.flatten_append, List.flatten_cons, List.flatten_nil, List.append_nil, List.append_assoc]) (by simp only [wisW, List.flatten_append, List.flatten_cons, List.flatten_nil, List.append_nil, List.append_assoc]) (fun hp => va_runV (As := [.ref (ad 4)]) (rest := []) S (c_X7_gather l E ad z.wi z.ln z.ar   hA _) (cwV 1 S.2.2.2.2 gX8_wishFor_X7_gather rfl rfl rfl kd_X7_gather ⟨Nat.le_of_ble_eq_true rfl, Nat.le_of_ble_eq_true rfl⟩) (hp.V hE (show vwCl[7]? = some (RX7, TX7, 2) from rfl) rfl) rfl rfl hl.1 rfl (lv_room (Nat.le_of_ble_eq_true rfl)) dX8_wishFor_8 ⟨Nat.zero_le _, Nat.zero_le _⟩) (fun H locs M => ?_)
  have M : gM E A s.heap [[(ad 0, .inr (8, [.ref (ad 1), .ref (ad 4), .ref (ad 15), .ref (ad 32), .ref (ad 33), .ref (ad 38), .ref (ad 41), .int z.mn, .int z.mk, .int z.mg, .int z.jp]))], tapW E ad z.tp, spuW E ad z.sp, surW E ad z.sg, sheW E ad z.sh, wisW E ad (WisS.gather z.wi z.ar), linW E ad z.ln, arrW E ad z.ar] H locs := M
  refine lv_aload_n S.1 S.2.1 dX8_wishFor_11 rfl (lv_at hl 0 rfl) ?_
  refine gget S hE M (C := RX8) (T := TX8) (N := 11) (ci := 8) (index := 60) hwi 0 rfl rfl 7 (by decide) (by decide +kernel) rfl dX8_wishFor_12 ?_
  refine lv_iconst (v := 3) S.1 S.2.1 dX8_wishFor_15 (by decide) ?_
  refine lv_icmp_ne (tgt := 46) S.1 S.2.1 dX8_wishFor_16 (by decide) (fun c16 => ?_) (fun c16 => ?_)
  ·
    refine lv_aload_n S.1 S.2.1 dX8_wishFor_46 rfl (lv_at hl 0 rfl) ?_
    refine gget S hE M (C := RX8) (T := TX8) (N := 11) (ci := 8) (index := 60) hwi 0 rfl rfl 7 (by decide) (by decide +kernel) rfl dX8_wishFor_47 ?_
    by_cases c50_0 : z.mn = 0
    ·
      refine gtop (x' := 0) c50_0 ?_
      refine lv_tableIn (off := 34) (tgt := 84) S.1 S.2.1 dX8_wishFor_50 (by decide) (by decide) rfl (by decide) ?_
      refine lv_aload_n S.1 S.2.1 dX8_wishFor_84 rfl (lv_at hl 0 rfl) ?_
      refine gget S hE M (C := RX8) (T := TX8) (N := 11) (ci := 8) (index := 64) hwi 0 rfl rfl 8 (by decide) (by decide +kernel) rfl dX8_wishFor_85 ?_
      exact giret S hr hlk M (by unfold SpcS.wishR; rw [if_pos c50_0]) (by unfold SpcS.wished SpcS.wishL SpcS.wishW; rw [if_neg c16, if_neg c16]; rfl) dX8_wishFor_88
    by_cases c50_1 : z.mn = 1
    ·
      refine gtop (x' := 1) c50_1 ?_
      refine lv_tableIn (off := 83) (tgt := 133) S.1 S.2.1 dX8_wishFor_50 (by decide) (by decide) rfl (by decide) ?_
      refine lv_aload_n S.1 S.2.1 dX8_wishFor_133 rfl (lv_at hl 0 rfl) ?_
      refine gget S hE M (C := RX8) (T := TX8) (N := 11) (ci := 8) (index := 49) hwi 0 rfl rfl 5 (by decide) (by decide +kernel) rfl dX8_wishFor_134 ?_
      refine lv_aload_n S.1 S.2.1 dX8_wishFor_137 rfl (lv_at hl 0 rfl) ?_
      refine gget S hE M (C := RX8) (T := TX8) (N := 11) (ci := 8) (index := 64) hwi 0 rfl rfl 8 (by decide) (by decide +kernel) rfl dX8_wishFor_138 ?_
      refine gcalli (L := [[(ad 0, .inr (8, [.ref (ad 1), .ref (ad 4), .ref (ad 15), .ref (ad 32), .ref (ad 33), .ref (ad 38), .ref (ad 41), .int z.mn, .int z.mk, .int z.mg, .int z.jp]))], tapW E ad z.tp, spuW E ad z.sp, surW E ad z.sg, sheW E ad z.sh]) (Mid := [wisW E ad (WisS.gather z.wi z.ar)]) (Rr := [linW E ad z.ln, arrW E ad z.ar]) (Mid' := [wisW E ad (WisS.gather z.wi z.ar)]) hE M rfl (List.append_nil _) (List.append_nil _) (fun hp => va_runV (As := [.int z.mk]) (rest := []) S (c_X7_byShare l E ad (WisS.gather z.wi z.ar) z.mk  (Nat.min_le_right _ _) _) (cwV 1 S.2.2.2.2 gX8_wishFor_X7_byShare rfl rfl rfl kd_X7_byShare ⟨Nat.le_of_ble_eq_true rfl, Nat.le_of_ble_eq_true rfl⟩) (hp.V hE (show vwCl[7]? = some (RX7, TX7, 2) from rfl) rfl) rfl rfl hl.1 rfl (lv_room (Nat.le_of_ble_eq_true rfl)) dX8_wishFor_141 ⟨Nat.zero_le _, Nat.zero_le _⟩) (fun H locs M => ?_)
      have M : gM E A s.heap [[(ad 0, .inr (8, [.ref (ad 1), .ref (ad 4), .ref (ad 15), .ref (ad 32), .ref (ad 33), .ref (ad 38), .ref (ad 41), .int z.mn, .int z.mk, .int z.mg, .int z.jp]))], tapW E ad z.tp, spuW E ad z.sp, surW E ad z.sg, sheW E ad z.sh, wisW E ad (WisS.gather z.wi z.ar), linW E ad z.ln, arrW E ad z.ar] H locs := M
      exact giret S hr hlk M (by unfold SpcS.wishR SpcS.wishW; rw [if_neg c50_0, if_pos c50_1, if_neg c16]) (by unfold SpcS.wished SpcS.wishL SpcS.wishW; rw [if_neg c16, if_neg c16]; rfl) dX8_wishFor_144
    by_cases c50_2 : z.mn = 2
    ·
      refine gtop (x' := 2) c50_2 ?_
      refine lv_tableIn (off := 39) (tgt := 89) S.1 S.2.1 dX8_wishFor_50 (by decide) (by decide) rfl (by decide) ?_
      refine lv_aload_n S.1 S.2.1 dX8_wishFor_89 rfl (lv_at hl 0 rfl) ?_
      refine gget S hE M (C := RX8) (T := TX8) (N := 11) (ci := 8) (index := 35) hwi 0 rfl rfl 3 (by decide) (by decide +kernel) rfl dX8_wishFor_90 ?_
      refine gcalli (L := [[(ad 0, .inr (8, [.ref (ad 1), .ref (ad 4), .ref (ad 15), .ref (ad 32), .ref (ad 33), .ref (ad 38), .ref (ad 41), .int z.mn, .int z.mk, .int z.mg, .int z.jp]))], tapW E ad z.tp, spuW E ad z.sp]) (Mid := [surW E ad z.sg]) (Rr := [sheW E ad z.sh, wisW E ad (WisS.gather z.wi z.ar), linW E ad z.ln, arrW E ad z.ar]) (Mid' := [surW E ad z.sg]) hE M rfl (List.append_nil _) (List.append_nil _) (fun hp => va_runV (As := []) (rest := []) S (c_X5_isOn l E ad z.sg   _) (cwV 0 S.2.2.2.2 gX8_wishFor_X5_isOn rfl rfl rfl kd_X5_isOn ⟨Nat.le_of_ble_eq_true rfl, Nat.le_of_ble_eq_true rfl⟩) (hp.V hE (show vwCl[5]? = some (RX5, TX5, 3) from rfl) rfl) rfl rfl hl.1 rfl (lv_room (Nat.le_of_ble_eq_true rfl)) dX8_wishFor_93 ⟨Nat.zero_le _, Nat.zero_le _⟩) (fun H locs M => ?_)
      have M : gM E A s.heap [[(ad 0, .inr (8, [.ref (ad 1), .ref (ad 4), .ref (ad 15), .ref (ad 32), .ref (ad 33), .ref (ad 38), .ref (ad 41), .int z.mn, .int z.mk, .int z.mg, .int z.jp]))], tapW E ad z.tp, spuW E ad z.sp, surW E ad z.sg, sheW E ad z.sh, wisW E ad (WisS.gather z.wi z.ar), linW E ad z.ln, arrW E ad z.ar] H locs := M
      refine lv_if_eq (tgt := 109) S.1 S.2.1 dX8_wishFor_96 (by decide) (fun c96 => ?_) (fun c96 => ?_)
      ·
        refine lv_aload_n S.1 S.2.1 dX8_wishFor_109 rfl (lv_at hl 0 rfl) ?_
        refine gget S hE M (C := RX8) (T := TX8) (N := 11) (ci := 8) (index := 49) hwi 0 rfl rfl 5 (by decide) (by decide +kernel) rfl dX8_wishFor_110 ?_
        refine lv_aload_n S.1 S.2.1 dX8_wishFor_113 rfl (lv_at hl 0 rfl) ?_
        refine gget S hE M (C := RX8) (T := TX8) (N := 11) (ci := 8) (index := 64) hwi 0 rfl rfl 8 (by decide) (by decide +kernel) rfl dX8_wishFor_114 ?_
        refine gcalli (L := [[(ad 0, .inr (8, [.ref (ad 1), .ref (ad 4), .ref (ad 15), .ref (ad 32), .ref (ad 33), .ref (ad 38), .ref (ad 41), .int z.mn, .int z.mk, .int z.mg, .int z.jp]))], tapW E ad z.tp, spuW E ad z.sp, surW E ad z.sg, sheW E ad z.sh]) (Mid := [wisW E ad (WisS.gather z.wi z.ar)]) (Rr := [linW E ad z.ln, arrW E ad z.ar]) (Mid' := [wisW E ad (WisS.gather z.wi z.ar)]) hE M rfl (List.append_nil _) (List.append_nil _) (fun hp => va_runV (As := [.int z.mk]) (rest := []) S (c_X7_byShare l E ad (WisS.gather z.wi z.ar) z.mk  (Nat.min_le_right _ _) _) (cwV 1 S.2.2.2.2 gX8_wishFor_X7_byShare rfl rfl rfl kd_X7_byShare ⟨Nat.le_of_ble_eq_true rfl, Nat.le_of_ble_eq_true rfl⟩) (hp.V hE (show vwCl[7]? = some (RX7, TX7, 2) from rfl) rfl) rfl rfl hl.1 rfl (lv_room (Nat.le_of_ble_eq_true rfl)) dX8_wishFor_117 ⟨Nat.zero_le _, Nat.zero_le _⟩) (fun H locs M => ?_)
        have M : gM E A s.heap [[(ad 0, .inr (8, [.ref (ad 1), .ref (ad 4), .ref (ad 15), .ref (ad 32), .ref (ad 33), .ref (ad 38), .ref (ad 41), .int z.mn, .int z.mk, .int z.mg, .int z.jp]))], tapW E ad z.tp, spuW E ad z.sp, surW E ad z.sg, sheW E ad z.sh, wisW E ad (WisS.gather z.wi z.ar), linW E ad z.ln, arrW E ad z.ar] H locs := M
        exact giret S hr hlk M (by unfold SpcS.wishR SpcS.wishW; rw [if_neg c50_0, if_neg c50_1, if_pos c50_2, if_pos c96, if_neg c16]) (by unfold SpcS.wished SpcS.wishL SpcS.wishW; rw [if_neg c16, if_neg c16]; rfl) dX8_wishFor_120
      ·
        refine lv_aload_n S.1 S.2.1 dX8_wishFor_99 rfl (lv_at hl 0 rfl) ?_
        refine gget S hE M (C := RX8) (T := TX8) (N := 11) (ci := 8) (index := 49) hwi 0 rfl rfl 5 (by decide) (by decide +kernel) rfl dX8_wishFor_100 ?_
        refine gcalli (L := [[(ad 0, .inr (8, [.ref (ad 1), .ref (ad 4), .ref (ad 15), .ref (ad 32), .ref (ad 33), .ref (ad 38), .ref (ad 41), .int z.mn, .int z.mk, .int z.mg, .int z.jp]))], tapW E ad z.tp, spuW E ad z.sp, surW E ad z.sg, sheW E ad z.sh]) (Mid := [wisW E ad (WisS.gather z.wi z.ar)]) (Rr := [linW E ad z.ln, arrW E ad z.ar]) (Mid' := [wisW E ad (WisS.gather z.wi z.ar)]) hE M rfl (List.append_nil _) (List.append_nil _) (fun hp => va_runV (As := []) (rest := []) S (c_X7_greatestOfLastThree l E ad (WisS.gather z.wi z.ar)   (Nat.min_le_right _ _) _) (cwV 0 S.2.2.2.2 gX8_wishFor_X7_greatestOfLastThree rfl rfl rfl kd_X7_greatestOfLastThree ⟨Nat.le_of_ble_eq_true rfl, Nat.le_of_ble_eq_true rfl⟩) (hp.V hE (show vwCl[7]? = some (RX7, TX7, 2) from rfl) rfl) rfl rfl hl.1 rfl (lv_room (Nat.le_of_ble_eq_true rfl)) dX8_wishFor_103 ⟨Nat.zero_le _, Nat.zero_le _⟩) (fun H locs M => ?_)
        have M : gM E A s.heap [[(ad 0, .inr (8, [.ref (ad 1), .ref (ad 4), .ref (ad 15), .ref (ad 32), .ref (ad 33), .ref (ad 38), .ref (ad 41), .int z.mn, .int z.mk, .int z.mg, .int z.jp]))], tapW E ad z.tp, spuW E ad z.sp, surW E ad z.sg, sheW E ad z.sh, wisW E ad (WisS.gather z.wi z.ar), linW E ad z.ln, arrW E ad z.ar] H locs := M
        refine lv_goto (tgt := 120) S.1 S.2.1 dX8_wishFor_106 (by decide) ?_
        exact giret S hr hlk M (by unfold SpcS.wishR SpcS.wishW; rw [if_neg c50_0, if_neg c50_1, if_pos c50_2, if_neg c96, if_neg c16]) (by unfold SpcS.wished SpcS.wishL SpcS.wishW; rw [if_neg c16, if_neg c16]; rfl) dX8_wishFor_120
    by_cases c50_3 : z.mn = 3
    ·
      refine gtop (x' := 3) c50_3 ?_
      refine lv_tableIn (off := 83) (tgt := 133) S.1 S.2.1 dX8_wishFor_50 (by decide) (by decide) rfl (by decide) ?_
      exact absurd c50_3 c16
    by_cases c50_4 : z.mn = 4
    ·
      refine gtop (x' := 4) c50_4 ?_
      refine lv_tableIn (off := 71) (tgt := 121) S.1 S.2.1 dX8_wishFor_50 (by decide) (by decide) rfl (by decide) ?_
      refine lv_aload_n S.1 S.2.1 dX8_wishFor_121 rfl (lv_at hl 0 rfl) ?_
      refine gget S hE M (C := RX8) (T := TX8) (N := 11) (ci := 8) (index := 49) hwi 0 rfl rfl 5 (by decide) (by decide +kernel) rfl dX8_wishFor_122 ?_
      refine lv_aload_n S.1 S.2.1 dX8_wishFor_125 rfl (lv_at hl 0 rfl) ?_
      refine gget S hE M (C := RX8) (T := TX8) (N := 11) (ci := 8) (index := 64) hwi 0 rfl rfl 8 (by decide) (by decide +kernel) rfl dX8_wishFor_126 ?_
      refine gcalli (L := [[(ad 0, .inr (8, [.ref (ad 1), .ref (ad 4), .ref (ad 15), .ref (ad 32), .ref (ad 33), .ref (ad 38), .ref (ad 41), .int z.mn, .int z.mk, .int z.mg, .int z.jp]))], tapW E ad z.tp, spuW E ad z.sp, surW E ad z.sg, sheW E ad z.sh]) (Mid := [wisW E ad (WisS.gather z.wi z.ar)]) (Rr := [linW E ad z.ln, arrW E ad z.ar]) (Mid' := [wisW E ad (WisS.gather z.wi z.ar)]) hE M rfl (List.append_nil _) (List.append_nil _) (fun hp => va_runV (As := [.int z.mk]) (rest := []) S (c_X7_byMean l E ad (WisS.gather z.wi z.ar) z.mk  (Nat.min_le_right _ _) _) (cwV 1 S.2.2.2.2 gX8_wishFor_X7_byMean rfl rfl rfl kd_X7_byMean ⟨Nat.le_of_ble_eq_true rfl, Nat.le_of_ble_eq_true rfl⟩) (hp.V hE (show vwCl[7]? = some (RX7, TX7, 2) from rfl) rfl) rfl rfl hl.1 rfl (lv_room (Nat.le_of_ble_eq_true rfl)) dX8_wishFor_129 ⟨Nat.zero_le _, Nat.zero_le _⟩) (fun H locs M => ?_)
      have M : gM E A s.heap [[(ad 0, .inr (8, [.ref (ad 1), .ref (ad 4), .ref (ad 15), .ref (ad 32), .ref (ad 33), .ref (ad 38), .ref (ad 41), .int z.mn, .int z.mk, .int z.mg, .int z.jp]))], tapW E ad z.tp, spuW E ad z.sp, surW E ad z.sg, sheW E ad z.sh, wisW E ad (WisS.gather z.wi z.ar), linW E ad z.ln, arrW E ad z.ar] H locs := M
      exact giret S hr hlk M (by unfold SpcS.wishR SpcS.wishW; rw [if_neg c50_0, if_neg c50_1, if_neg c50_2, if_neg c50_3, if_pos c50_4, if_neg c16]) (by unfold SpcS.wished SpcS.wishL SpcS.wishW; rw [if_neg c16, if_neg c16]; rfl) dX8_wishFor_132
    refine lv_tableOut (tgt := 133) S.1 S.2.1 dX8_wishFor_50 (by have hc50_0 := lv_neT c50_0 (a := 0) rfl; have hc50_1 := lv_neT c50_1 (a := 1) rfl; have hc50_2 := lv_neT c50_2 (a := 2) rfl; have hc50_3 := lv_neT c50_3 (a := 3) rfl; have hc50_4 := lv_neT c50_4 (a := 4) rfl; omega) (by decide) ?_
    refine lv_aload_n S.1 S.2.1 dX8_wishFor_133 rfl (lv_at hl 0 rfl) ?_
    refine gget S hE M (C := RX8) (T := TX8) (N := 11) (ci := 8) (index := 49) hwi 0 rfl rfl 5 (by decide) (by decide +kernel) rfl dX8_wishFor_134 ?_
    refine lv_aload_n S.1 S.2.1 dX8_wishFor_137 rfl (lv_at hl 0 rfl) ?_
    refine gget S hE M (C := RX8) (T := TX8) (N := 11) (ci := 8) (index := 64) hwi 0 rfl rfl 8 (by decide) (by decide +kernel) rfl dX8_wishFor_138 ?_
    refine gcalli (L := [[(ad 0, .inr (8, [.ref (ad 1), .ref (ad 4), .ref (ad 15), .ref (ad 32), .ref (ad 33), .ref (ad 38), .ref (ad 41), .int z.mn, .int z.mk, .int z.mg, .int z.jp]))], tapW E ad z.tp, spuW E ad z.sp, surW E ad z.sg, sheW E ad z.sh]) (Mid := [wisW E ad (WisS.gather z.wi z.ar)]) (Rr := [linW E ad z.ln, arrW E ad z.ar]) (Mid' := [wisW E ad (WisS.gather z.wi z.ar)]) hE M rfl (List.append_nil _) (List.append_nil _) (fun hp => va_runV (As := [.int z.mk]) (rest := []) S (c_X7_byShare l E ad (WisS.gather z.wi z.ar) z.mk  (Nat.min_le_right _ _) _) (cwV 1 S.2.2.2.2 gX8_wishFor_X7_byShare rfl rfl rfl kd_X7_byShare ⟨Nat.le_of_ble_eq_true rfl, Nat.le_of_ble_eq_true rfl⟩) (hp.V hE (show vwCl[7]? = some (RX7, TX7, 2) from rfl) rfl) rfl rfl hl.1 rfl (lv_room (Nat.le_of_ble_eq_true rfl)) dX8_wishFor_141 ⟨Nat.zero_le _, Nat.zero_le _⟩) (fun H locs M => ?_)
    have M : gM E A s.heap [[(ad 0, .inr (8, [.ref (ad 1), .ref (ad 4), .ref (ad 15), .ref (ad 32), .ref (ad 33), .ref (ad 38), .ref (ad 41), .int z.mn, .int z.mk, .int z.mg, .int z.jp]))], tapW E ad z.tp, spuW E ad z.sp, surW E ad z.sg, sheW E ad z.sh, wisW E ad (WisS.gather z.wi z.ar), linW E ad z.ln, arrW E ad z.ar] H locs := M
    exact giret S hr hlk M (by unfold SpcS.wishR SpcS.wishW; rw [if_neg c50_0, if_neg c50_1, if_neg c50_2, if_neg c50_3, if_neg c50_4, if_neg c16]) (by unfold SpcS.wished SpcS.wishL SpcS.wishW; rw [if_neg c16, if_neg c16]; rfl) dX8_wishFor_144
  ·
    refine lv_aload_n S.1 S.2.1 dX8_wishFor_19 rfl (lv_at hl 0 rfl) ?_
    refine gget S hE M (C := RX8) (T := TX8) (N := 11) (ci := 8) (index := 42) hwi 0 rfl rfl 4 (by decide) (by decide +kernel) rfl dX8_wishFor_20 ?_
    refine lv_aload_n S.1 S.2.1 dX8_wishFor_23 rfl (lv_at hl 0 rfl) ?_
    refine gget S hE M (C := RX8) (T := TX8) (N := 11) (ci := 8) (index := 21) hwi 0 rfl rfl 1 (by decide) (by decide +kernel) rfl dX8_wishFor_24 ?_
    refine gcallv (L := [[(ad 0, .inr (8, [.ref (ad 1), .ref (ad 4), .ref (ad 15), .ref (ad 32), .ref (ad 33), .ref (ad 38), .ref (ad 41), .int z.mn, .int z.mk, .int z.mg, .int z.jp]))], tapW E ad z.tp, spuW E ad z.sp, surW E ad z.sg, sheW E ad z.sh, wisW E ad (WisS.gather z.wi z.ar)]) (Mid := [linW E ad z.ln, arrW E ad z.ar]) (Rr := []) (Mid' := [linW E ad (LinS.fit z.ln z.ar), arrW E ad z.ar]) hE M rfl (by simp only [linW, List.flatten_append, List.flatten_cons, List.flatten_nil, List.append_nil, List.append_assoc]) (by simp only [linW, List.flatten_append, List.flatten_cons, List.flatten_nil, List.append_nil, List.append_assoc]) (fun hp => va_runV (As := [.ref (ad 4)]) (rest := []) S (c_X1_fitUnder l E ad z.ln z.ar   _) (cwV 1 S.2.2.2.2 gX8_wishFor_X1_fitUnder rfl rfl rfl kd_X1_fitUnder ⟨Nat.le_of_ble_eq_true rfl, Nat.le_of_ble_eq_true rfl⟩) (hp.V hE (show vwCl[1]? = some (RX1, TX1, 5) from rfl) rfl) rfl rfl hl.1 rfl (lv_room (Nat.le_of_ble_eq_true rfl)) dX8_wishFor_27 ⟨Nat.zero_le _, Nat.zero_le _⟩) (fun H locs M => ?_)
    have M : gM E A s.heap [[(ad 0, .inr (8, [.ref (ad 1), .ref (ad 4), .ref (ad 15), .ref (ad 32), .ref (ad 33), .ref (ad 38), .ref (ad 41), .int z.mn, .int z.mk, .int z.mg, .int z.jp]))], tapW E ad z.tp, spuW E ad z.sp, surW E ad z.sg, sheW E ad z.sh, wisW E ad (WisS.gather z.wi z.ar), linW E ad (LinS.fit z.ln z.ar), arrW E ad z.ar] H locs := M
    refine lv_aload_n S.1 S.2.1 dX8_wishFor_30 rfl (lv_at hl 0 rfl) ?_
    refine gget S hE M (C := RX8) (T := TX8) (N := 11) (ci := 8) (index := 49) hwi 0 rfl rfl 5 (by decide) (by decide +kernel) rfl dX8_wishFor_31 ?_
    refine lv_aload_n S.1 S.2.1 dX8_wishFor_34 rfl (lv_at hl 0 rfl) ?_
    refine gget S hE M (C := RX8) (T := TX8) (N := 11) (ci := 8) (index := 42) hwi 0 rfl rfl 4 (by decide) (by decide +kernel) rfl dX8_wishFor_35 ?_
    refine lv_aload_n S.1 S.2.1 dX8_wishFor_38 rfl (lv_at hl 0 rfl) ?_
    refine gget S hE M (C := RX8) (T := TX8) (N := 11) (ci := 8) (index := 21) hwi 0 rfl rfl 1 (by decide) (by decide +kernel) rfl dX8_wishFor_39 ?_
    refine lv_iload_n S.1 S.2.1 dX8_wishFor_42 rfl (lv_at hl 1 rfl) ?_
    refine gcallv (L := [[(ad 0, .inr (8, [.ref (ad 1), .ref (ad 4), .ref (ad 15), .ref (ad 32), .ref (ad 33), .ref (ad 38), .ref (ad 41), .int z.mn, .int z.mk, .int z.mg, .int z.jp]))], tapW E ad z.tp, spuW E ad z.sp, surW E ad z.sg, sheW E ad z.sh]) (Mid := [wisW E ad (WisS.gather z.wi z.ar), linW E ad (LinS.fit z.ln z.ar), arrW E ad z.ar]) (Rr := []) (Mid' := [wisW E ad (WisS.carry (WisS.gather z.wi z.ar) (LinS.fit z.ln z.ar) z.ar h), linW E ad (LinS.fit z.ln z.ar), arrW E ad z.ar]) hE M rfl (by simp only [wisW, List.flatten_append, List.flatten_cons, List.flatten_nil, List.append_nil, List.append_assoc]) (by simp only [wisW, List.flatten_append, List.flatten_cons, List.flatten_nil, List.append_nil, List.append_assoc]) (fun hp => va_runV (As := [.ref (ad 33), .ref (ad 4), .int h]) (rest := []) S (c_X7_carryAlong l E ad (WisS.gather z.wi z.ar) (LinS.fit z.ln z.ar) z.ar h  (Nat.min_le_right _ _) _) (cwV 3 S.2.2.2.2 gX8_wishFor_X7_carryAlong rfl rfl rfl kd_X7_carryAlong ⟨Nat.le_of_ble_eq_true rfl, Nat.le_of_ble_eq_true rfl⟩) (hp.V hE (show vwCl[7]? = some (RX7, TX7, 2) from rfl) rfl) rfl rfl hl.1 rfl (lv_room (Nat.le_of_ble_eq_true rfl)) dX8_wishFor_43 ⟨Nat.zero_le _, Nat.zero_le _⟩) (fun H locs M => ?_)
    have M : gM E A s.heap [[(ad 0, .inr (8, [.ref (ad 1), .ref (ad 4), .ref (ad 15), .ref (ad 32), .ref (ad 33), .ref (ad 38), .ref (ad 41), .int z.mn, .int z.mk, .int z.mg, .int z.jp]))], tapW E ad z.tp, spuW E ad z.sp, surW E ad z.sg, sheW E ad z.sh, wisW E ad (WisS.carry (WisS.gather z.wi z.ar) (LinS.fit z.ln z.ar) z.ar h), linW E ad (LinS.fit z.ln z.ar), arrW E ad z.ar] H locs := M
    refine lv_aload_n S.1 S.2.1 dX8_wishFor_46 rfl (lv_at hl 0 rfl) ?_
    refine gget S hE M (C := RX8) (T := TX8) (N := 11) (ci := 8) (index := 60) hwi 0 rfl rfl 7 (by decide) (by decide +kernel) rfl dX8_wishFor_47 ?_
    refine gtop (x' := 3) (c16) ?_
    refine lv_tableIn (off := 83) (tgt := 133) S.1 S.2.1 dX8_wishFor_50 (by decide) (by decide) rfl (by decide) ?_
    refine lv_aload_n S.1 S.2.1 dX8_wishFor_133 rfl (lv_at hl 0 rfl) ?_
    refine gget S hE M (C := RX8) (T := TX8) (N := 11) (ci := 8) (index := 49) hwi 0 rfl rfl 5 (by decide) (by decide +kernel) rfl dX8_wishFor_134 ?_
    refine lv_aload_n S.1 S.2.1 dX8_wishFor_137 rfl (lv_at hl 0 rfl) ?_
    refine gget S hE M (C := RX8) (T := TX8) (N := 11) (ci := 8) (index := 64) hwi 0 rfl rfl 8 (by decide) (by decide +kernel) rfl dX8_wishFor_138 ?_
    refine gcalli (L := [[(ad 0, .inr (8, [.ref (ad 1), .ref (ad 4), .ref (ad 15), .ref (ad 32), .ref (ad 33), .ref (ad 38), .ref (ad 41), .int z.mn, .int z.mk, .int z.mg, .int z.jp]))], tapW E ad z.tp, spuW E ad z.sp, surW E ad z.sg, sheW E ad z.sh]) (Mid := [wisW E ad (WisS.carry (WisS.gather z.wi z.ar) (LinS.fit z.ln z.ar) z.ar h)]) (Rr := [linW E ad (LinS.fit z.ln z.ar), arrW E ad z.ar]) (Mid' := [wisW E ad (WisS.carry (WisS.gather z.wi z.ar) (LinS.fit z.ln z.ar) z.ar h)]) hE M rfl (List.append_nil _) (List.append_nil _) (fun hp => va_runV (As := [.int z.mk]) (rest := []) S (c_X7_byShare l E ad (WisS.carry (WisS.gather z.wi z.ar) (LinS.fit z.ln z.ar) z.ar h) z.mk  (Nat.min_le_right _ _) _) (cwV 1 S.2.2.2.2 gX8_wishFor_X7_byShare rfl rfl rfl kd_X7_byShare ⟨Nat.le_of_ble_eq_true rfl, Nat.le_of_ble_eq_true rfl⟩) (hp.V hE (show vwCl[7]? = some (RX7, TX7, 2) from rfl) rfl) rfl rfl hl.1 rfl (lv_room (Nat.le_of_ble_eq_true rfl)) dX8_wishFor_141 ⟨Nat.zero_le _, Nat.zero_le _⟩) (fun H locs M => ?_)
    have M : gM E A s.heap [[(ad 0, .inr (8, [.ref (ad 1), .ref (ad 4), .ref (ad 15), .ref (ad 32), .ref (ad 33), .ref (ad 38), .ref (ad 41), .int z.mn, .int z.mk, .int z.mg, .int z.jp]))], tapW E ad z.tp, spuW E ad z.sp, surW E ad z.sg, sheW E ad z.sh, wisW E ad (WisS.carry (WisS.gather z.wi z.ar) (LinS.fit z.ln z.ar) z.ar h), linW E ad (LinS.fit z.ln z.ar), arrW E ad z.ar] H locs := M
    exact giret S hr hlk M (by unfold SpcS.wishR SpcS.wishW; rw [c16]; rfl) (by unfold SpcS.wished SpcS.wishL SpcS.wishW; rw [c16]; rfl) dX8_wishFor_144

set_option maxHeartbeats 4000000 in
set_option maxRecDepth 100000 in
theorem c_X8_openSpurt (l : Launch) (E : xE) (ad : Nat → Nat) (z : SpcS) (h : Int32) (p : Int32) (hA : z.ar.ct ≤ 120) (hS : z.sp.ct ≤ 120) : mI l yX8_openSpurt wsX8_openSpurt (xrm 5 114) E [.ref (ad 0), .int h, .int p] (spcGs E ad z) (nI z.sp.ct) (spcGs E ad (SpcS.opened z h p)) := by
  intro sz
  refine Met.ofW (cc := cX8_openSpurt) (maxL := 4) (ret := (some .int)) (by decide +kernel) rfl ?_
  intro vp ve s vm args below meth vc s₁ B hml hv
  obtain ⟨rfl, S, hr, hlk, hnm, A, hA, hE, M⟩ := genter B hml hv
  rw [hA]
  obtain ⟨ls, hfr, hl⟩ := gst (m := vm) (as := [.ref (ad 0), .int h, .int p]) (n := 4) (Nat.le_of_ble_eq_true rfl)
  rw [hfr]
  clear hfr hA
  have hl : lv_has ls 4 [(0, .ref (ad 0)), (1, .int h), (2, .int p)] := hl
  have M : gM E A s.heap [[(ad 0, .inr (8, [.ref (ad 1), .ref (ad 4), .ref (ad 15), .ref (ad 32), .ref (ad 33), .ref (ad 38), .ref (ad 41), .int z.mn, .int z.mk, .int z.mg, .int z.jp]))], tapW E ad z.tp, spuW E ad z.sp, surW E ad z.sg, sheW E ad z.sh, wisW E ad z.wi, linW E ad z.ln, arrW E ad z.ar] s.heap [] := M
  have hwi : ∀ w ∈ u_ws RX8 TX8 11, w ∈ wsX8_openSpurt := by decide +kernel
  refine lv_aload_n S.1 S.2.1 dX8_openSpurt_0 rfl (lv_at hl 0 rfl) ?_
  refine gget S hE M (C := RX8) (T := TX8) (N := 11) (ci := 8) (index := 28) hwi 0 rfl rfl 2 (by decide) (by decide +kernel) rfl dX8_openSpurt_1 ?_
  refine lv_iload_n S.1 S.2.1 dX8_openSpurt_4 rfl (lv_at hl 1 rfl) ?_
  refine lv_iload_n S.1 S.2.1 dX8_openSpurt_5 rfl (lv_at hl 2 rfl) ?_
  refine lv_aload_n S.1 S.2.1 dX8_openSpurt_6 rfl (lv_at hl 0 rfl) ?_
  refine lv_iload_n S.1 S.2.1 dX8_openSpurt_7 rfl (lv_at hl 1 rfl) ?_
  refine gcalli (L := []) (Mid := spcGs E ad z) (Rr := []) (Mid' := spcGs E ad (z.wished h)) hE M rfl (rfl) (rfl) (fun hp => va_runV (As := [.int h]) (rest := [.int p, .int h, .ref (ad 15)]) S (c_X8_wishFor l E ad z h  hA _) (cwV 1 S.2.2.2.2 gX8_openSpurt_X8_wishFor rfl rfl rfl kd_X8_wishFor ⟨Nat.le_of_ble_eq_true rfl, Nat.le_of_ble_eq_true rfl⟩) (hp.V hE (show vwCl[8]? = some (RX8, TX8, 11) from rfl) rfl) rfl rfl hl.1 rfl (lv_room (Nat.le_of_ble_eq_true rfl)) dX8_openSpurt_8 ⟨Nat.zero_le _, Nat.zero_le _⟩) (fun H locs M => ?_)
  have M : gM E A s.heap [[(ad 0, .inr (8, [.ref (ad 1), .ref (ad 4), .ref (ad 15), .ref (ad 32), .ref (ad 33), .ref (ad 38), .ref (ad 41), .int ((z.wished h).mn), .int ((z.wished h).mk), .int ((z.wished h).mg), .int ((z.wished h).jp)]))], tapW E ad ((z.wished h).tp), spuW E ad ((z.wished h).sp), surW E ad ((z.wished h).sg), sheW E ad ((z.wished h).sh), wisW E ad ((z.wished h).wi), linW E ad ((z.wished h).ln), arrW E ad ((z.wished h).ar)] H locs := M
  refine lv_aload_n S.1 S.2.1 dX8_openSpurt_11 rfl (lv_at hl 0 rfl) ?_
  refine gget S hE M (C := RX8) (T := TX8) (N := 11) (ci := 8) (index := 67) hwi 0 rfl rfl 9 (by decide) (by decide +kernel) rfl dX8_openSpurt_12 ?_
  refine lv_iadd S.1 S.2.1 dX8_openSpurt_15 ?_
  refine gcalli (L := [[(ad 0, .inr (8, [.ref (ad 1), .ref (ad 4), .ref (ad 15), .ref (ad 32), .ref (ad 33), .ref (ad 38), .ref (ad 41), .int ((z.wished h).mn), .int ((z.wished h).mk), .int ((z.wished h).mg), .int ((z.wished h).jp)]))], tapW E ad ((z.wished h).tp)]) (Mid := [spuW E ad ((z.wished h).sp)]) (Rr := [surW E ad ((z.wished h).sg), sheW E ad ((z.wished h).sh), wisW E ad ((z.wished h).wi), linW E ad ((z.wished h).ln), arrW E ad ((z.wished h).ar)]) (Mid' := [spuW E ad ((z.wished h).sp)]) hE M rfl (List.append_nil _) (List.append_nil _) (fun hp => va_runV (As := [.int h, .int p, .int ((z.wishR h) + ((z.wished h).mg))]) (rest := []) S (c_X4_timeInTurn l E ad ((z.wished h).sp) h p ((z.wishR h) + ((z.wished h).mg))  hS _) (cwV 3 S.2.2.2.2 gX8_openSpurt_X4_timeInTurn rfl rfl rfl kd_X4_timeInTurn ⟨Nat.le_of_ble_eq_true rfl, Nat.le_of_ble_eq_true rfl⟩) (hp.V hE (show vwCl[4]? = some (RX4, TX4, 9) from rfl) rfl) rfl rfl hl.1 rfl (lv_room (Nat.le_of_ble_eq_true rfl)) dX8_openSpurt_16 ⟨Nat.zero_le _, Nat.zero_le _⟩) (fun H locs M => ?_)
  have M : gM E A s.heap [[(ad 0, .inr (8, [.ref (ad 1), .ref (ad 4), .ref (ad 15), .ref (ad 32), .ref (ad 33), .ref (ad 38), .ref (ad 41), .int ((z.wished h).mn), .int ((z.wished h).mk), .int ((z.wished h).mg), .int ((z.wished h).jp)]))], tapW E ad ((z.wished h).tp), spuW E ad ((z.wished h).sp), surW E ad ((z.wished h).sg), sheW E ad ((z.wished h).sh), wisW E ad ((z.wished h).wi), linW E ad ((z.wished h).ln), arrW E ad ((z.wished h).ar)] H locs := M
  refine lv_istore_n (lv' := [(3, .int (((z.wished h).sp).turn h p ((z.wishR h) + ((z.wished h).mg)))), (0, .ref (ad 0)), (1, .int h), (2, .int p)]) S.1 S.2.1 dX8_openSpurt_19 rfl hl (by decide) rfl (fun ls hl => ?_)
  refine lv_aload_n S.1 S.2.1 dX8_openSpurt_20 rfl (lv_at hl 1 rfl) ?_
  refine gget S hE M (C := RX8) (T := TX8) (N := 11) (ci := 8) (index := 28) hwi 0 rfl rfl 2 (by decide) (by decide +kernel) rfl dX8_openSpurt_21 ?_
  refine lv_iload_n S.1 S.2.1 dX8_openSpurt_24 rfl (lv_at hl 2 rfl) ?_
  refine lv_iload_n S.1 S.2.1 dX8_openSpurt_25 rfl (lv_at hl 3 rfl) ?_
  refine lv_iload_n S.1 S.2.1 dX8_openSpurt_26 rfl (lv_at hl 0 rfl) ?_
  refine lv_aload_n S.1 S.2.1 dX8_openSpurt_27 rfl (lv_at hl 1 rfl) ?_
  refine gget S hE M (C := RX8) (T := TX8) (N := 11) (ci := 8) (index := 60) hwi 0 rfl rfl 7 (by decide) (by decide +kernel) rfl dX8_openSpurt_28 ?_
  refine gcalli (L := [[(ad 0, .inr (8, [.ref (ad 1), .ref (ad 4), .ref (ad 15), .ref (ad 32), .ref (ad 33), .ref (ad 38), .ref (ad 41), .int ((z.wished h).mn), .int ((z.wished h).mk), .int ((z.wished h).mg), .int ((z.wished h).jp)]))], tapW E ad ((z.wished h).tp)]) (Mid := [spuW E ad ((z.wished h).sp)]) (Rr := [surW E ad ((z.wished h).sg), sheW E ad ((z.wished h).sh), wisW E ad ((z.wished h).wi), linW E ad ((z.wished h).ln), arrW E ad ((z.wished h).ar)]) (Mid' := [spuW E ad (SpuS.add ((z.wished h).sp) h p (((z.wished h).sp).turn h p ((z.wishR h) + ((z.wished h).mg))) ((z.wished h).mn))]) hE M rfl (List.append_nil _) (List.append_nil _) (fun hp => va_runV (As := [.int h, .int p, .int (((z.wished h).sp).turn h p ((z.wishR h) + ((z.wished h).mg))), .int ((z.wished h).mn)]) (rest := []) S (c_X4_add l E ad ((z.wished h).sp) h p (((z.wished h).sp).turn h p ((z.wishR h) + ((z.wished h).mg))) ((z.wished h).mn)  hS _) (cwV 4 S.2.2.2.2 gX8_openSpurt_X4_add rfl rfl rfl kd_X4_add ⟨Nat.le_of_ble_eq_true rfl, Nat.le_of_ble_eq_true rfl⟩) (hp.V hE (show vwCl[4]? = some (RX4, TX4, 9) from rfl) rfl) rfl rfl hl.1 rfl (lv_room (Nat.le_of_ble_eq_true rfl)) dX8_openSpurt_31 ⟨Nat.zero_le _, Nat.zero_le _⟩) (fun H locs M => ?_)
  have M : gM E A s.heap [[(ad 0, .inr (8, [.ref (ad 1), .ref (ad 4), .ref (ad 15), .ref (ad 32), .ref (ad 33), .ref (ad 38), .ref (ad 41), .int ((z.wished h).mn), .int ((z.wished h).mk), .int ((z.wished h).mg), .int ((z.wished h).jp)]))], tapW E ad ((z.wished h).tp), spuW E ad (SpuS.add ((z.wished h).sp) h p (((z.wished h).sp).turn h p ((z.wishR h) + ((z.wished h).mg))) ((z.wished h).mn)), surW E ad ((z.wished h).sg), sheW E ad ((z.wished h).sh), wisW E ad ((z.wished h).wi), linW E ad ((z.wished h).ln), arrW E ad ((z.wished h).ar)] H locs := M
  exact giret S hr hlk M (rfl) (rfl) dX8_openSpurt_34

set_option maxHeartbeats 4000000 in
set_option maxRecDepth 100000 in
theorem c_X8_settle (l : Launch) (E : xE) (ad : Nat → Nat) (z : SpcS) (i : Int32) (n : Int32) (t : Int32) (k : Int32) : mV l yX8_settle wsX8_settle (xrm 3 67) E [.ref (ad 0), .int i, .int n, .int t, .int k] (spcGs E ad z) (spcGs E ad (SpcS.settle z i n t k)) := by
  intro sz
  refine Met.ofW (cc := cX8_settle) (maxL := 7) (ret := none) (by decide +kernel) rfl ?_
  intro vp ve s vm args below meth vc s₁ B hml hv
  obtain ⟨rfl, S, hr, hlk, hnm, A, hA, hE, M⟩ := genter B hml hv
  rw [hA]
  obtain ⟨ls, hfr, hl⟩ := gst (m := vm) (as := [.ref (ad 0), .int i, .int n, .int t, .int k]) (n := 7) (Nat.le_of_ble_eq_true rfl)
  rw [hfr]
  clear hfr hA
  have hl : lv_has ls 7 [(0, .ref (ad 0)), (1, .int i), (2, .int n), (3, .int t), (4, .int k)] := hl
  have M : gM E A s.heap [[(ad 0, .inr (8, [.ref (ad 1), .ref (ad 4), .ref (ad 15), .ref (ad 32), .ref (ad 33), .ref (ad 38), .ref (ad 41), .int z.mn, .int z.mk, .int z.mg, .int z.jp]))], tapW E ad z.tp, spuW E ad z.sp, surW E ad z.sg, sheW E ad z.sh, wisW E ad z.wi, linW E ad z.ln, arrW E ad z.ar] s.heap [] := M
  have hwi : ∀ w ∈ u_ws RX8 TX8 11, w ∈ wsX8_settle := by decide +kernel
  refine lv_bipush (v := 20) S.1 S.2.1 dX8_settle_0 (by decide) ?_
  refine lv_iload_n S.1 S.2.1 dX8_settle_2 rfl (lv_at hl 2 rfl) ?_
  refine lv_imul S.1 S.2.1 dX8_settle_3 ?_
  refine lv_aload_n S.1 S.2.1 dX8_settle_4 rfl (lv_at hl 0 rfl) ?_
  refine gget S hE M (C := RX8) (T := TX8) (N := 11) (ci := 8) (index := 28) hwi 0 rfl rfl 2 (by decide) (by decide +kernel) rfl dX8_settle_5 ?_
  refine lv_iload S.1 S.2.1 dX8_settle_8 (lv_at hl 4 rfl) ?_
  refine gcalli (L := [[(ad 0, .inr (8, [.ref (ad 1), .ref (ad 4), .ref (ad 15), .ref (ad 32), .ref (ad 33), .ref (ad 38), .ref (ad 41), .int z.mn, .int z.mk, .int z.mg, .int z.jp]))], tapW E ad z.tp]) (Mid := [spuW E ad z.sp]) (Rr := [surW E ad z.sg, sheW E ad z.sh, wisW E ad z.wi, linW E ad z.ln, arrW E ad z.ar]) (Mid' := [spuW E ad z.sp]) hE M rfl (List.append_nil _) (List.append_nil _) (fun hp => va_runV (As := [.int k]) (rest := [.int (20 * n)]) S (c_X4_timeOf l E ad z.sp k  _) (cwV 1 S.2.2.2.2 gX8_settle_X4_timeOf rfl rfl rfl kd_X4_timeOf ⟨Nat.le_of_ble_eq_true rfl, Nat.le_of_ble_eq_true rfl⟩) (hp.V hE (show vwCl[4]? = some (RX4, TX4, 9) from rfl) rfl) rfl rfl hl.1 rfl (lv_room (Nat.le_of_ble_eq_true rfl)) dX8_settle_10 ⟨Nat.zero_le _, Nat.zero_le _⟩) (fun H locs M => ?_)
  have M : gM E A s.heap [[(ad 0, .inr (8, [.ref (ad 1), .ref (ad 4), .ref (ad 15), .ref (ad 32), .ref (ad 33), .ref (ad 38), .ref (ad 41), .int z.mn, .int z.mk, .int z.mg, .int z.jp]))], tapW E ad z.tp, spuW E ad z.sp, surW E ad z.sg, sheW E ad z.sh, wisW E ad z.wi, linW E ad z.ln, arrW E ad z.ar] H locs := M
  refine lv_iadd S.1 S.2.1 dX8_settle_13 ?_
  refine lv_istore (lv' := [(5, .int ((20 * n) + (rg 120 z.sp.tm k))), (0, .ref (ad 0)), (1, .int i), (2, .int n), (3, .int t), (4, .int k)]) S.1 S.2.1 dX8_settle_14 hl (by decide) rfl (fun ls hl => ?_)
  refine lv_iload_n S.1 S.2.1 dX8_settle_16 rfl (lv_at hl 4 rfl) ?_
  refine lv_iload S.1 S.2.1 dX8_settle_17 (lv_at hl 0 rfl) ?_
  refine lv_icmp_gt (tgt := 26) S.1 S.2.1 dX8_settle_19 (by decide) (fun c19 => ?_) (fun c19 => ?_)
  ·
    refine lv_iconst (v := 0) S.1 S.2.1 dX8_settle_26 (by decide) ?_
    refine lv_istore (lv' := [(6, .int 0), (5, .int ((20 * n) + (rg 120 z.sp.tm k))), (0, .ref (ad 0)), (1, .int i), (2, .int n), (3, .int t), (4, .int k)]) S.1 S.2.1 dX8_settle_27 hl (by decide) rfl (fun ls hl => ?_)
    refine lv_aload_n S.1 S.2.1 dX8_settle_29 rfl (lv_at hl 2 rfl) ?_
    refine gget S hE M (C := RX8) (T := TX8) (N := 11) (ci := 8) (index := 21) hwi 0 rfl rfl 1 (by decide) (by decide +kernel) rfl dX8_settle_30 ?_
    refine lv_iload_n S.1 S.2.1 dX8_settle_33 rfl (lv_at hl 3 rfl) ?_
    refine lv_iload S.1 S.2.1 dX8_settle_34 (lv_at hl 6 rfl) ?_
    refine lv_iload S.1 S.2.1 dX8_settle_36 (lv_at hl 0 rfl) ?_
    refine lv_if_eq (tgt := 46) S.1 S.2.1 dX8_settle_38 (by decide) (fun _ => ?_) (fun c_ => absurd (by decide) c_)
    refine lv_bipush (v := (-9)) S.1 S.2.1 dX8_settle_46 (by decide) ?_
    refine gcallv (L := [[(ad 0, .inr (8, [.ref (ad 1), .ref (ad 4), .ref (ad 15), .ref (ad 32), .ref (ad 33), .ref (ad 38), .ref (ad 41), .int z.mn, .int z.mk, .int z.mg, .int z.jp]))], tapW E ad z.tp, spuW E ad z.sp, surW E ad z.sg, sheW E ad z.sh, wisW E ad z.wi, linW E ad z.ln]) (Mid := [arrW E ad z.ar]) (Rr := []) (Mid' := [arrW E ad (ArrS.settle z.ar i k (-9))]) hE M rfl (List.append_nil _) (List.append_nil _) (fun hp => va_runV (As := [.int i, .int k, .int (-9)]) (rest := []) S (c_X0_settle l E ad z.ar i k (-9)  _) (cwV 3 S.2.2.2.2 gX8_settle_X0_settle rfl rfl rfl kd_X0_settle ⟨Nat.le_of_ble_eq_true rfl, Nat.le_of_ble_eq_true rfl⟩) (hp.V hE (show vwCl[0]? = some (RX0, TX0, 6) from rfl) rfl) rfl rfl hl.1 rfl (lv_room (Nat.le_of_ble_eq_true rfl)) dX8_settle_48 ⟨Nat.zero_le _, Nat.zero_le _⟩) (fun H locs M => ?_)
    have M : gM E A s.heap [[(ad 0, .inr (8, [.ref (ad 1), .ref (ad 4), .ref (ad 15), .ref (ad 32), .ref (ad 33), .ref (ad 38), .ref (ad 41), .int z.mn, .int z.mk, .int z.mg, .int z.jp]))], tapW E ad z.tp, spuW E ad z.sp, surW E ad z.sg, sheW E ad z.sh, wisW E ad z.wi, linW E ad z.ln, arrW E ad (ArrS.settle z.ar i k (-9))] H locs := M
    refine lv_aload_n S.1 S.2.1 dX8_settle_51 rfl (lv_at hl 2 rfl) ?_
    refine gget S hE M (C := RX8) (T := TX8) (N := 11) (ci := 8) (index := 28) hwi 0 rfl rfl 2 (by decide) (by decide +kernel) rfl dX8_settle_52 ?_
    refine lv_iload S.1 S.2.1 dX8_settle_55 (lv_at hl 6 rfl) ?_
    refine lv_iload_n S.1 S.2.1 dX8_settle_57 rfl (lv_at hl 4 rfl) ?_
    refine lv_iload S.1 S.2.1 dX8_settle_58 (lv_at hl 0 rfl) ?_
    refine gcallv (L := [[(ad 0, .inr (8, [.ref (ad 1), .ref (ad 4), .ref (ad 15), .ref (ad 32), .ref (ad 33), .ref (ad 38), .ref (ad 41), .int z.mn, .int z.mk, .int z.mg, .int z.jp]))], tapW E ad z.tp]) (Mid := [spuW E ad z.sp]) (Rr := [surW E ad z.sg, sheW E ad z.sh, wisW E ad z.wi, linW E ad z.ln, arrW E ad (ArrS.settle z.ar i k (-9))]) (Mid' := [spuW E ad (SpuS.frame z.sp k n false)]) hE M rfl (List.append_nil _) (List.append_nil _) (fun hp => va_runV (As := [.int k, .int n, .int 0]) (rest := []) S (c_X4_countFrame l E ad z.sp k n false  _) (cwV 3 S.2.2.2.2 gX8_settle_X4_countFrame rfl rfl rfl kd_X4_countFrame ⟨Nat.le_of_ble_eq_true rfl, Nat.le_of_ble_eq_true rfl⟩) (hp.V hE (show vwCl[4]? = some (RX4, TX4, 9) from rfl) rfl) rfl rfl hl.1 rfl (lv_room (Nat.le_of_ble_eq_true rfl)) dX8_settle_60 ⟨Nat.zero_le _, Nat.zero_le _⟩) (fun H locs M => ?_)
    have M : gM E A s.heap [[(ad 0, .inr (8, [.ref (ad 1), .ref (ad 4), .ref (ad 15), .ref (ad 32), .ref (ad 33), .ref (ad 38), .ref (ad 41), .int z.mn, .int z.mk, .int z.mg, .int z.jp]))], tapW E ad z.tp, spuW E ad (SpuS.frame z.sp k n false), surW E ad z.sg, sheW E ad z.sh, wisW E ad z.wi, linW E ad z.ln, arrW E ad (ArrS.settle z.ar i k (-9))] H locs := M
    exact gvret S hr hlk M (by unfold SpcS.settle; rw [if_pos c19]; rfl) dX8_settle_63
  ·
    refine lv_iconst (v := 1) S.1 S.2.1 dX8_settle_22 (by decide) ?_
    refine lv_goto (tgt := 27) S.1 S.2.1 dX8_settle_23 (by decide) ?_
    refine lv_istore (lv' := [(6, .int 1), (5, .int ((20 * n) + (rg 120 z.sp.tm k))), (0, .ref (ad 0)), (1, .int i), (2, .int n), (3, .int t), (4, .int k)]) S.1 S.2.1 dX8_settle_27 hl (by decide) rfl (fun ls hl => ?_)
    refine lv_aload_n S.1 S.2.1 dX8_settle_29 rfl (lv_at hl 2 rfl) ?_
    refine gget S hE M (C := RX8) (T := TX8) (N := 11) (ci := 8) (index := 21) hwi 0 rfl rfl 1 (by decide) (by decide +kernel) rfl dX8_settle_30 ?_
    refine lv_iload_n S.1 S.2.1 dX8_settle_33 rfl (lv_at hl 3 rfl) ?_
    refine lv_iload S.1 S.2.1 dX8_settle_34 (lv_at hl 6 rfl) ?_
    refine lv_iload S.1 S.2.1 dX8_settle_36 (lv_at hl 0 rfl) ?_
    refine lv_if_eq (tgt := 46) S.1 S.2.1 dX8_settle_38 (by decide) (fun c_ => absurd c_ (by decide)) (fun _ => ?_)
    refine lv_iload S.1 S.2.1 dX8_settle_41 (lv_at hl 1 rfl) ?_
    refine lv_goto (tgt := 48) S.1 S.2.1 dX8_settle_43 (by decide) ?_
    refine gcallv (L := [[(ad 0, .inr (8, [.ref (ad 1), .ref (ad 4), .ref (ad 15), .ref (ad 32), .ref (ad 33), .ref (ad 38), .ref (ad 41), .int z.mn, .int z.mk, .int z.mg, .int z.jp]))], tapW E ad z.tp, spuW E ad z.sp, surW E ad z.sg, sheW E ad z.sh, wisW E ad z.wi, linW E ad z.ln]) (Mid := [arrW E ad z.ar]) (Rr := []) (Mid' := [arrW E ad (ArrS.settle z.ar i k ((20 * n) + (rg 120 z.sp.tm k)))]) hE M rfl (List.append_nil _) (List.append_nil _) (fun hp => va_runV (As := [.int i, .int k, .int ((20 * n) + (rg 120 z.sp.tm k))]) (rest := []) S (c_X0_settle l E ad z.ar i k ((20 * n) + (rg 120 z.sp.tm k))  _) (cwV 3 S.2.2.2.2 gX8_settle_X0_settle rfl rfl rfl kd_X0_settle ⟨Nat.le_of_ble_eq_true rfl, Nat.le_of_ble_eq_true rfl⟩) (hp.V hE (show vwCl[0]? = some (RX0, TX0, 6) from rfl) rfl) rfl rfl hl.1 rfl (lv_room (Nat.le_of_ble_eq_true rfl)) dX8_settle_48 ⟨Nat.zero_le _, Nat.zero_le _⟩) (fun H locs M => ?_)
    have M : gM E A s.heap [[(ad 0, .inr (8, [.ref (ad 1), .ref (ad 4), .ref (ad 15), .ref (ad 32), .ref (ad 33), .ref (ad 38), .ref (ad 41), .int z.mn, .int z.mk, .int z.mg, .int z.jp]))], tapW E ad z.tp, spuW E ad z.sp, surW E ad z.sg, sheW E ad z.sh, wisW E ad z.wi, linW E ad z.ln, arrW E ad (ArrS.settle z.ar i k ((20 * n) + (rg 120 z.sp.tm k)))] H locs := M
    refine lv_aload_n S.1 S.2.1 dX8_settle_51 rfl (lv_at hl 2 rfl) ?_
    refine gget S hE M (C := RX8) (T := TX8) (N := 11) (ci := 8) (index := 28) hwi 0 rfl rfl 2 (by decide) (by decide +kernel) rfl dX8_settle_52 ?_
    refine lv_iload S.1 S.2.1 dX8_settle_55 (lv_at hl 6 rfl) ?_
    refine lv_iload_n S.1 S.2.1 dX8_settle_57 rfl (lv_at hl 4 rfl) ?_
    refine lv_iload S.1 S.2.1 dX8_settle_58 (lv_at hl 0 rfl) ?_
    refine gcallv (L := [[(ad 0, .inr (8, [.ref (ad 1), .ref (ad 4), .ref (ad 15), .ref (ad 32), .ref (ad 33), .ref (ad 38), .ref (ad 41), .int z.mn, .int z.mk, .int z.mg, .int z.jp]))], tapW E ad z.tp]) (Mid := [spuW E ad z.sp]) (Rr := [surW E ad z.sg, sheW E ad z.sh, wisW E ad z.wi, linW E ad z.ln, arrW E ad (ArrS.settle z.ar i k ((20 * n) + (rg 120 z.sp.tm k)))]) (Mid' := [spuW E ad (SpuS.frame z.sp k n true)]) hE M rfl (List.append_nil _) (List.append_nil _) (fun hp => va_runV (As := [.int k, .int n, .int 1]) (rest := []) S (c_X4_countFrame l E ad z.sp k n true  _) (cwV 3 S.2.2.2.2 gX8_settle_X4_countFrame rfl rfl rfl kd_X4_countFrame ⟨Nat.le_of_ble_eq_true rfl, Nat.le_of_ble_eq_true rfl⟩) (hp.V hE (show vwCl[4]? = some (RX4, TX4, 9) from rfl) rfl) rfl rfl hl.1 rfl (lv_room (Nat.le_of_ble_eq_true rfl)) dX8_settle_60 ⟨Nat.zero_le _, Nat.zero_le _⟩) (fun H locs M => ?_)
    have M : gM E A s.heap [[(ad 0, .inr (8, [.ref (ad 1), .ref (ad 4), .ref (ad 15), .ref (ad 32), .ref (ad 33), .ref (ad 38), .ref (ad 41), .int z.mn, .int z.mk, .int z.mg, .int z.jp]))], tapW E ad z.tp, spuW E ad (SpuS.frame z.sp k n true), surW E ad z.sg, sheW E ad z.sh, wisW E ad z.wi, linW E ad z.ln, arrW E ad (ArrS.settle z.ar i k ((20 * n) + (rg 120 z.sp.tm k)))] H locs := M
    exact gvret S hr hlk M (by unfold SpcS.settle; rw [if_neg c19]; rfl) dX8_settle_63

set_option maxHeartbeats 4000000 in
set_option maxRecDepth 100000 in
theorem c_X8_arrive (l : Launch) (E : xE) (ad : Nat → Nat) (z : SpcS) (n : Int32) (h : Int32) (p : Int32) (t : Int32) (hA : z.ar.ct ≤ 120) (hS : z.sp.ct ≤ 120) : mI l yX8_arrive wsX8_arrive (xrm 6 137) E [.ref (ad 0), .int n, .int h, .int p, .int t] (spcGs E ad z) ((SpcS.arrive z n h p t).1) (spcGs E ad ((SpcS.arrive z n h p t).2)) := by
  intro sz
  refine Met.ofW (cc := cX8_arrive) (maxL := 8) (ret := (some .int)) (by decide +kernel) rfl ?_
  intro vp ve s vm args below meth vc s₁ B hml hv
  obtain ⟨rfl, S, hr, hlk, hnm, A, hA, hE, M⟩ := genter B hml hv
  rw [hA]
  obtain ⟨ls, hfr, hl⟩ := gst (m := vm) (as := [.ref (ad 0), .int n, .int h, .int p, .int t]) (n := 8) (Nat.le_of_ble_eq_true rfl)
  rw [hfr]
  clear hfr hA
  have hl : lv_has ls 8 [(0, .ref (ad 0)), (1, .int n), (2, .int h), (3, .int p), (4, .int t)] := hl
  have M : gM E A s.heap [[(ad 0, .inr (8, [.ref (ad 1), .ref (ad 4), .ref (ad 15), .ref (ad 32), .ref (ad 33), .ref (ad 38), .ref (ad 41), .int z.mn, .int z.mk, .int z.mg, .int z.jp]))], tapW E ad z.tp, spuW E ad z.sp, surW E ad z.sg, sheW E ad z.sh, wisW E ad z.wi, linW E ad z.ln, arrW E ad z.ar] s.heap [] := M
  have hwi : ∀ w ∈ u_ws RX8 TX8 11, w ∈ wsX8_arrive := by decide +kernel
  refine lv_aload_n S.1 S.2.1 dX8_arrive_0 rfl (lv_at hl 0 rfl) ?_
  refine lv_iload_n S.1 S.2.1 dX8_arrive_1 rfl (lv_at hl 1 rfl) ?_
  refine lv_iload_n S.1 S.2.1 dX8_arrive_2 rfl (lv_at hl 2 rfl) ?_
  refine lv_iload_n S.1 S.2.1 dX8_arrive_3 rfl (lv_at hl 3 rfl) ?_
  refine lv_iload S.1 S.2.1 dX8_arrive_4 (lv_at hl 4 rfl) ?_
  refine gcalli (L := []) (Mid := spcGs E ad z) (Rr := []) (Mid' := spcGs E ad z) hE M rfl (rfl) (rfl) (fun hp => va_runV (As := [.int n, .int h, .int p, .int t]) (rest := []) S (c_X8_refusalOf l E ad z n h p t  hA hS _) (cwV 4 S.2.2.2.2 gX8_arrive_X8_refusalOf rfl rfl rfl kd_X8_refusalOf ⟨Nat.le_of_ble_eq_true rfl, Nat.le_of_ble_eq_true rfl⟩) (hp.V hE (show vwCl[8]? = some (RX8, TX8, 11) from rfl) rfl) rfl rfl hl.1 rfl (lv_room (Nat.le_of_ble_eq_true rfl)) dX8_arrive_6 ⟨Nat.zero_le _, Nat.zero_le _⟩) (fun H locs M => ?_)
  have M : gM E A s.heap [[(ad 0, .inr (8, [.ref (ad 1), .ref (ad 4), .ref (ad 15), .ref (ad 32), .ref (ad 33), .ref (ad 38), .ref (ad 41), .int z.mn, .int z.mk, .int z.mg, .int z.jp]))], tapW E ad z.tp, spuW E ad z.sp, surW E ad z.sg, sheW E ad z.sh, wisW E ad z.wi, linW E ad z.ln, arrW E ad z.ar] H locs := M
  refine lv_istore (lv' := [(5, .int (z.refuse n h p t)), (0, .ref (ad 0)), (1, .int n), (2, .int h), (3, .int p), (4, .int t)]) S.1 S.2.1 dX8_arrive_9 hl (by decide) rfl (fun ls hl => ?_)
  refine lv_iload S.1 S.2.1 dX8_arrive_11 (lv_at hl 0 rfl) ?_
  refine lv_if_eq (tgt := 19) S.1 S.2.1 dX8_arrive_13 (by decide) (fun c13 => ?_) (fun c13 => ?_)
  ·
    refine lv_aload_n S.1 S.2.1 dX8_arrive_19 rfl (lv_at hl 1 rfl) ?_
    refine gget S hE M (C := RX8) (T := TX8) (N := 11) (ci := 8) (index := 21) hwi 0 rfl rfl 1 (by decide) (by decide +kernel) rfl dX8_arrive_20 ?_
    refine lv_iload_n S.1 S.2.1 dX8_arrive_23 rfl (lv_at hl 2 rfl) ?_
    refine lv_iload S.1 S.2.1 dX8_arrive_24 (lv_at hl 5 rfl) ?_
    refine gcalli (L := [[(ad 0, .inr (8, [.ref (ad 1), .ref (ad 4), .ref (ad 15), .ref (ad 32), .ref (ad 33), .ref (ad 38), .ref (ad 41), .int z.mn, .int z.mk, .int z.mg, .int z.jp]))], tapW E ad z.tp, spuW E ad z.sp, surW E ad z.sg, sheW E ad z.sh, wisW E ad z.wi, linW E ad z.ln]) (Mid := [arrW E ad z.ar]) (Rr := []) (Mid' := [arrW E ad (ArrS.add z.ar n t)]) hE M rfl (List.append_nil _) (List.append_nil _) (fun hp => va_runV (As := [.int n, .int t]) (rest := []) S (c_X0_add l E ad z.ar n t  _) (cwV 2 S.2.2.2.2 gX8_arrive_X0_add rfl rfl rfl kd_X0_add ⟨Nat.le_of_ble_eq_true rfl, Nat.le_of_ble_eq_true rfl⟩) (hp.V hE (show vwCl[0]? = some (RX0, TX0, 6) from rfl) rfl) rfl rfl hl.1 rfl (lv_room (Nat.le_of_ble_eq_true rfl)) dX8_arrive_26 ⟨Nat.zero_le _, Nat.zero_le _⟩) (fun H locs M => ?_)
    have M : gM E A s.heap [[(ad 0, .inr (8, [.ref (ad 1), .ref (ad 4), .ref (ad 15), .ref (ad 32), .ref (ad 33), .ref (ad 38), .ref (ad 41), .int z.mn, .int z.mk, .int z.mg, .int z.jp]))], tapW E ad z.tp, spuW E ad z.sp, surW E ad z.sg, sheW E ad z.sh, wisW E ad z.wi, linW E ad z.ln, arrW E ad (ArrS.add z.ar n t)] H locs := M
    refine lv_istore (lv' := [(6, .int (nI z.ar.ct)), (5, .int (z.refuse n h p t)), (0, .ref (ad 0)), (1, .int n), (2, .int h), (3, .int p), (4, .int t)]) S.1 S.2.1 dX8_arrive_29 hl (by decide) rfl (fun ls hl => ?_)
    refine lv_iload S.1 S.2.1 dX8_arrive_31 (lv_at hl 0 rfl) ?_
    refine lv_if_le (tgt := 67) S.1 S.2.1 dX8_arrive_33 (by decide) (fun c33 => ?_) (fun c33 => ?_)
    ·
      refine lv_aload_n S.1 S.2.1 dX8_arrive_67 rfl (lv_at hl 2 rfl) ?_
      refine gget S hE M (C := RX8) (T := TX8) (N := 11) (ci := 8) (index := 28) hwi 0 rfl rfl 2 (by decide) (by decide +kernel) rfl dX8_arrive_68 ?_
      refine lv_iload_n S.1 S.2.1 dX8_arrive_71 rfl (lv_at hl 4 rfl) ?_
      refine gcalli (L := [[(ad 0, .inr (8, [.ref (ad 1), .ref (ad 4), .ref (ad 15), .ref (ad 32), .ref (ad 33), .ref (ad 38), .ref (ad 41), .int z.mn, .int z.mk, .int z.mg, .int z.jp]))], tapW E ad z.tp]) (Mid := [spuW E ad z.sp]) (Rr := [surW E ad z.sg, sheW E ad z.sh, wisW E ad z.wi, linW E ad z.ln, arrW E ad (ArrS.add z.ar n t)]) (Mid' := [spuW E ad z.sp]) hE M rfl (List.append_nil _) (List.append_nil _) (fun hp => va_runV (As := [.int h]) (rest := []) S (c_X4_withHead l E ad z.sp h  hS _) (cwV 1 S.2.2.2.2 gX8_arrive_X4_withHead rfl rfl rfl kd_X4_withHead ⟨Nat.le_of_ble_eq_true rfl, Nat.le_of_ble_eq_true rfl⟩) (hp.V hE (show vwCl[4]? = some (RX4, TX4, 9) from rfl) rfl) rfl rfl hl.1 rfl (lv_room (Nat.le_of_ble_eq_true rfl)) dX8_arrive_72 ⟨Nat.zero_le _, Nat.zero_le _⟩) (fun H locs M => ?_)
      have M : gM E A s.heap [[(ad 0, .inr (8, [.ref (ad 1), .ref (ad 4), .ref (ad 15), .ref (ad 32), .ref (ad 33), .ref (ad 38), .ref (ad 41), .int z.mn, .int z.mk, .int z.mg, .int z.jp]))], tapW E ad z.tp, spuW E ad z.sp, surW E ad z.sg, sheW E ad z.sh, wisW E ad z.wi, linW E ad z.ln, arrW E ad (ArrS.add z.ar n t)] H locs := M
      refine lv_istore (lv' := [(7, .int (z.sp.withHead h)), (6, .int (nI z.ar.ct)), (5, .int (z.refuse n h p t)), (0, .ref (ad 0)), (1, .int n), (2, .int h), (3, .int p), (4, .int t)]) S.1 S.2.1 dX8_arrive_75 hl (by decide) rfl (fun ls hl => ?_)
      refine lv_iload S.1 S.2.1 dX8_arrive_77 (lv_at hl 0 rfl) ?_
      refine lv_iconst (v := (-1)) S.1 S.2.1 dX8_arrive_79 (by decide) ?_
      refine lv_icmp_ne (tgt := 91) S.1 S.2.1 dX8_arrive_80 (by decide) (fun c80 => ?_) (fun c80 => ?_)
      ·
        refine lv_aload_n S.1 S.2.1 dX8_arrive_91 rfl (lv_at hl 3 rfl) ?_
        refine lv_iload S.1 S.2.1 dX8_arrive_92 (lv_at hl 1 rfl) ?_
        refine lv_iload_n S.1 S.2.1 dX8_arrive_94 rfl (lv_at hl 4 rfl) ?_
        refine lv_iload S.1 S.2.1 dX8_arrive_95 (lv_at hl 7 rfl) ?_
        refine lv_iload S.1 S.2.1 dX8_arrive_97 (lv_at hl 0 rfl) ?_
        refine gcallv (L := []) (Mid := spcGs E ad ((z.tp, ArrS.add z.ar n t, z.sp, z.sg, z.ln, z.wi, z.sh, z.mn, z.mk, z.mg, z.jp) : SpcS)) (Rr := []) (Mid' := spcGs E ad (SpcS.settle ((z.tp, ArrS.add z.ar n t, z.sp, z.sg, z.ln, z.wi, z.sh, z.mn, z.mk, z.mg, z.jp) : SpcS) (nI z.ar.ct) n t (z.sp.withHead h))) hE M rfl (rfl) (rfl) (fun hp => va_runV (As := [.int (nI z.ar.ct), .int n, .int t, .int (z.sp.withHead h)]) (rest := []) S (c_X8_settle l E ad ((z.tp, ArrS.add z.ar n t, z.sp, z.sg, z.ln, z.wi, z.sh, z.mn, z.mk, z.mg, z.jp) : SpcS) (nI z.ar.ct) n t (z.sp.withHead h)  _) (cwV 4 S.2.2.2.2 gX8_arrive_X8_settle rfl rfl rfl kd_X8_settle ⟨Nat.le_of_ble_eq_true rfl, Nat.le_of_ble_eq_true rfl⟩) (hp.V hE (show vwCl[8]? = some (RX8, TX8, 11) from rfl) rfl) rfl rfl hl.1 rfl (lv_room (Nat.le_of_ble_eq_true rfl)) dX8_arrive_99 ⟨Nat.zero_le _, Nat.zero_le _⟩) (fun H locs M => ?_)
        have M : gM E A s.heap [[(ad 0, .inr (8, [.ref (ad 1), .ref (ad 4), .ref (ad 15), .ref (ad 32), .ref (ad 33), .ref (ad 38), .ref (ad 41), .int ((SpcS.settle ((z.tp, ArrS.add z.ar n t, z.sp, z.sg, z.ln, z.wi, z.sh, z.mn, z.mk, z.mg, z.jp) : SpcS) (nI z.ar.ct) n t (z.sp.withHead h)).mn), .int ((SpcS.settle ((z.tp, ArrS.add z.ar n t, z.sp, z.sg, z.ln, z.wi, z.sh, z.mn, z.mk, z.mg, z.jp) : SpcS) (nI z.ar.ct) n t (z.sp.withHead h)).mk), .int ((SpcS.settle ((z.tp, ArrS.add z.ar n t, z.sp, z.sg, z.ln, z.wi, z.sh, z.mn, z.mk, z.mg, z.jp) : SpcS) (nI z.ar.ct) n t (z.sp.withHead h)).mg), .int ((SpcS.settle ((z.tp, ArrS.add z.ar n t, z.sp, z.sg, z.ln, z.wi, z.sh, z.mn, z.mk, z.mg, z.jp) : SpcS) (nI z.ar.ct) n t (z.sp.withHead h)).jp)]))], tapW E ad ((SpcS.settle ((z.tp, ArrS.add z.ar n t, z.sp, z.sg, z.ln, z.wi, z.sh, z.mn, z.mk, z.mg, z.jp) : SpcS) (nI z.ar.ct) n t (z.sp.withHead h)).tp), spuW E ad ((SpcS.settle ((z.tp, ArrS.add z.ar n t, z.sp, z.sg, z.ln, z.wi, z.sh, z.mn, z.mk, z.mg, z.jp) : SpcS) (nI z.ar.ct) n t (z.sp.withHead h)).sp), surW E ad ((SpcS.settle ((z.tp, ArrS.add z.ar n t, z.sp, z.sg, z.ln, z.wi, z.sh, z.mn, z.mk, z.mg, z.jp) : SpcS) (nI z.ar.ct) n t (z.sp.withHead h)).sg), sheW E ad ((SpcS.settle ((z.tp, ArrS.add z.ar n t, z.sp, z.sg, z.ln, z.wi, z.sh, z.mn, z.mk, z.mg, z.jp) : SpcS) (nI z.ar.ct) n t (z.sp.withHead h)).sh), wisW E ad ((SpcS.settle ((z.tp, ArrS.add z.ar n t, z.sp, z.sg, z.ln, z.wi, z.sh, z.mn, z.mk, z.mg, z.jp) : SpcS) (nI z.ar.ct) n t (z.sp.withHead h)).wi), linW E ad ((SpcS.settle ((z.tp, ArrS.add z.ar n t, z.sp, z.sg, z.ln, z.wi, z.sh, z.mn, z.mk, z.mg, z.jp) : SpcS) (nI z.ar.ct) n t (z.sp.withHead h)).ln), arrW E ad ((SpcS.settle ((z.tp, ArrS.add z.ar n t, z.sp, z.sg, z.ln, z.wi, z.sh, z.mn, z.mk, z.mg, z.jp) : SpcS) (nI z.ar.ct) n t (z.sp.withHead h)).ar)] H locs := M
        refine lv_iload S.1 S.2.1 dX8_arrive_102 (lv_at hl 0 rfl) ?_
        have he : SpcS.arrive z n h p t = (z.sp.withHead h, SpcS.settle ((z.tp, ArrS.add z.ar n t, z.sp, z.sg, z.ln, z.wi, z.sh, z.mn, z.mk, z.mg, z.jp) : SpcS) (nI z.ar.ct) n t (z.sp.withHead h)) := by unfold SpcS.arrive SpcS.came; rw [if_pos c13, if_neg c80, if_pos c33] <;> rfl
        exact giret S hr hlk M (by rw [he]) (by rw [he]; rfl) dX8_arrive_104
      ·
        refine lv_aload_n S.1 S.2.1 dX8_arrive_83 rfl (lv_at hl 3 rfl) ?_
        refine lv_iload_n S.1 S.2.1 dX8_arrive_84 rfl (lv_at hl 5 rfl) ?_
        refine lv_iload_n S.1 S.2.1 dX8_arrive_85 rfl (lv_at hl 6 rfl) ?_
        refine gcalli (L := []) (Mid := spcGs E ad ((z.tp, ArrS.add z.ar n t, z.sp, z.sg, z.ln, z.wi, z.sh, z.mn, z.mk, z.mg, z.jp) : SpcS)) (Rr := []) (Mid' := spcGs E ad (SpcS.opened ((z.tp, ArrS.add z.ar n t, z.sp, z.sg, z.ln, z.wi, z.sh, z.mn, z.mk, z.mg, z.jp) : SpcS) h p)) hE M rfl (rfl) (rfl) (fun hp => va_runV (As := [.int h, .int p]) (rest := []) S (c_X8_openSpurt l E ad ((z.tp, ArrS.add z.ar n t, z.sp, z.sg, z.ln, z.wi, z.sh, z.mn, z.mk, z.mg, z.jp) : SpcS) h p  (SpcS.refuse_ct hA c13) hS _) (cwV 2 S.2.2.2.2 gX8_arrive_X8_openSpurt rfl rfl rfl kd_X8_openSpurt ⟨Nat.le_of_ble_eq_true rfl, Nat.le_of_ble_eq_true rfl⟩) (hp.V hE (show vwCl[8]? = some (RX8, TX8, 11) from rfl) rfl) rfl rfl hl.1 rfl (lv_room (Nat.le_of_ble_eq_true rfl)) dX8_arrive_86 ⟨Nat.zero_le _, Nat.zero_le _⟩) (fun H locs M => ?_)
        have M : gM E A s.heap [[(ad 0, .inr (8, [.ref (ad 1), .ref (ad 4), .ref (ad 15), .ref (ad 32), .ref (ad 33), .ref (ad 38), .ref (ad 41), .int ((SpcS.opened ((z.tp, ArrS.add z.ar n t, z.sp, z.sg, z.ln, z.wi, z.sh, z.mn, z.mk, z.mg, z.jp) : SpcS) h p).mn), .int ((SpcS.opened ((z.tp, ArrS.add z.ar n t, z.sp, z.sg, z.ln, z.wi, z.sh, z.mn, z.mk, z.mg, z.jp) : SpcS) h p).mk), .int ((SpcS.opened ((z.tp, ArrS.add z.ar n t, z.sp, z.sg, z.ln, z.wi, z.sh, z.mn, z.mk, z.mg, z.jp) : SpcS) h p).mg), .int ((SpcS.opened ((z.tp, ArrS.add z.ar n t, z.sp, z.sg, z.ln, z.wi, z.sh, z.mn, z.mk, z.mg, z.jp) : SpcS) h p).jp)]))], tapW E ad ((SpcS.opened ((z.tp, ArrS.add z.ar n t, z.sp, z.sg, z.ln, z.wi, z.sh, z.mn, z.mk, z.mg, z.jp) : SpcS) h p).tp), spuW E ad ((SpcS.opened ((z.tp, ArrS.add z.ar n t, z.sp, z.sg, z.ln, z.wi, z.sh, z.mn, z.mk, z.mg, z.jp) : SpcS) h p).sp), surW E ad ((SpcS.opened ((z.tp, ArrS.add z.ar n t, z.sp, z.sg, z.ln, z.wi, z.sh, z.mn, z.mk, z.mg, z.jp) : SpcS) h p).sg), sheW E ad ((SpcS.opened ((z.tp, ArrS.add z.ar n t, z.sp, z.sg, z.ln, z.wi, z.sh, z.mn, z.mk, z.mg, z.jp) : SpcS) h p).sh), wisW E ad ((SpcS.opened ((z.tp, ArrS.add z.ar n t, z.sp, z.sg, z.ln, z.wi, z.sh, z.mn, z.mk, z.mg, z.jp) : SpcS) h p).wi), linW E ad ((SpcS.opened ((z.tp, ArrS.add z.ar n t, z.sp, z.sg, z.ln, z.wi, z.sh, z.mn, z.mk, z.mg, z.jp) : SpcS) h p).ln), arrW E ad ((SpcS.opened ((z.tp, ArrS.add z.ar n t, z.sp, z.sg, z.ln, z.wi, z.sh, z.mn, z.mk, z.mg, z.jp) : SpcS) h p).ar)] H locs := M
        refine lv_istore (lv' := [(7, .int (nI z.sp.ct)), (6, .int (nI z.ar.ct)), (5, .int (z.refuse n h p t)), (0, .ref (ad 0)), (1, .int n), (2, .int h), (3, .int p), (4, .int t)]) S.1 S.2.1 dX8_arrive_89 hl (by decide) rfl (fun ls hl => ?_)
        refine lv_aload_n S.1 S.2.1 dX8_arrive_91 rfl (lv_at hl 3 rfl) ?_
        refine lv_iload S.1 S.2.1 dX8_arrive_92 (lv_at hl 1 rfl) ?_
        refine lv_iload_n S.1 S.2.1 dX8_arrive_94 rfl (lv_at hl 4 rfl) ?_
        refine lv_iload S.1 S.2.1 dX8_arrive_95 (lv_at hl 7 rfl) ?_
        refine lv_iload S.1 S.2.1 dX8_arrive_97 (lv_at hl 0 rfl) ?_
        refine gcallv (L := []) (Mid := spcGs E ad (SpcS.opened ((z.tp, ArrS.add z.ar n t, z.sp, z.sg, z.ln, z.wi, z.sh, z.mn, z.mk, z.mg, z.jp) : SpcS) h p)) (Rr := []) (Mid' := spcGs E ad (SpcS.settle (SpcS.opened ((z.tp, ArrS.add z.ar n t, z.sp, z.sg, z.ln, z.wi, z.sh, z.mn, z.mk, z.mg, z.jp) : SpcS) h p) (nI z.ar.ct) n t (nI z.sp.ct))) hE M rfl (rfl) (rfl) (fun hp => va_runV (As := [.int (nI z.ar.ct), .int n, .int t, .int (nI z.sp.ct)]) (rest := []) S (c_X8_settle l E ad (SpcS.opened ((z.tp, ArrS.add z.ar n t, z.sp, z.sg, z.ln, z.wi, z.sh, z.mn, z.mk, z.mg, z.jp) : SpcS) h p) (nI z.ar.ct) n t (nI z.sp.ct)  _) (cwV 4 S.2.2.2.2 gX8_arrive_X8_settle rfl rfl rfl kd_X8_settle ⟨Nat.le_of_ble_eq_true rfl, Nat.le_of_ble_eq_true rfl⟩) (hp.V hE (show vwCl[8]? = some (RX8, TX8, 11) from rfl) rfl) rfl rfl hl.1 rfl (lv_room (Nat.le_of_ble_eq_true rfl)) dX8_arrive_99 ⟨Nat.zero_le _, Nat.zero_le _⟩) (fun H locs M => ?_)
        have M : gM E A s.heap [[(ad 0, .inr (8, [.ref (ad 1), .ref (ad 4), .ref (ad 15), .ref (ad 32), .ref (ad 33), .ref (ad 38), .ref (ad 41), .int ((SpcS.settle (SpcS.opened ((z.tp, ArrS.add z.ar n t, z.sp, z.sg, z.ln, z.wi, z.sh, z.mn, z.mk, z.mg, z.jp) : SpcS) h p) (nI z.ar.ct) n t (nI z.sp.ct)).mn), .int ((SpcS.settle (SpcS.opened ((z.tp, ArrS.add z.ar n t, z.sp, z.sg, z.ln, z.wi, z.sh, z.mn, z.mk, z.mg, z.jp) : SpcS) h p) (nI z.ar.ct) n t (nI z.sp.ct)).mk), .int ((SpcS.settle (SpcS.opened ((z.tp, ArrS.add z.ar n t, z.sp, z.sg, z.ln, z.wi, z.sh, z.mn, z.mk, z.mg, z.jp) : SpcS) h p) (nI z.ar.ct) n t (nI z.sp.ct)).mg), .int ((SpcS.settle (SpcS.opened ((z.tp, ArrS.add z.ar n t, z.sp, z.sg, z.ln, z.wi, z.sh, z.mn, z.mk, z.mg, z.jp) : SpcS) h p) (nI z.ar.ct) n t (nI z.sp.ct)).jp)]))], tapW E ad ((SpcS.settle (SpcS.opened ((z.tp, ArrS.add z.ar n t, z.sp, z.sg, z.ln, z.wi, z.sh, z.mn, z.mk, z.mg, z.jp) : SpcS) h p) (nI z.ar.ct) n t (nI z.sp.ct)).tp), spuW E ad ((SpcS.settle (SpcS.opened ((z.tp, ArrS.add z.ar n t, z.sp, z.sg, z.ln, z.wi, z.sh, z.mn, z.mk, z.mg, z.jp) : SpcS) h p) (nI z.ar.ct) n t (nI z.sp.ct)).sp), surW E ad ((SpcS.settle (SpcS.opened ((z.tp, ArrS.add z.ar n t, z.sp, z.sg, z.ln, z.wi, z.sh, z.mn, z.mk, z.mg, z.jp) : SpcS) h p) (nI z.ar.ct) n t (nI z.sp.ct)).sg), sheW E ad ((SpcS.settle (SpcS.opened ((z.tp, ArrS.add z.ar n t, z.sp, z.sg, z.ln, z.wi, z.sh, z.mn, z.mk, z.mg, z.jp) : SpcS) h p) (nI z.ar.ct) n t (nI z.sp.ct)).sh), wisW E ad ((SpcS.settle (SpcS.opened ((z.tp, ArrS.add z.ar n t, z.sp, z.sg, z.ln, z.wi, z.sh, z.mn, z.mk, z.mg, z.jp) : SpcS) h p) (nI z.ar.ct) n t (nI z.sp.ct)).wi), linW E ad ((SpcS.settle (SpcS.opened ((z.tp, ArrS.add z.ar n t, z.sp, z.sg, z.ln, z.wi, z.sh, z.mn, z.mk, z.mg, z.jp) : SpcS) h p) (nI z.ar.ct) n t (nI z.sp.ct)).ln), arrW E ad ((SpcS.settle (SpcS.opened ((z.tp, ArrS.add z.ar n t, z.sp, z.sg, z.ln, z.wi, z.sh, z.mn, z.mk, z.mg, z.jp) : SpcS) h p) (nI z.ar.ct) n t (nI z.sp.ct)).ar)] H locs := M
        refine lv_iload S.1 S.2.1 dX8_arrive_102 (lv_at hl 0 rfl) ?_
        have he : SpcS.arrive z n h p t = (nI z.sp.ct, SpcS.settle (SpcS.opened ((z.tp, ArrS.add z.ar n t, z.sp, z.sg, z.ln, z.wi, z.sh, z.mn, z.mk, z.mg, z.jp) : SpcS) h p) (nI z.ar.ct) n t (nI z.sp.ct)) := by unfold SpcS.arrive SpcS.came; rw [if_pos c13, if_pos c80, if_pos c33] <;> rfl
        exact giret S hr hlk M (by rw [he]) (by rw [he]; rfl) dX8_arrive_104
    ·
      refine lv_aload_n S.1 S.2.1 dX8_arrive_36 rfl (lv_at hl 2 rfl) ?_
      refine gget S hE M (C := RX8) (T := TX8) (N := 11) (ci := 8) (index := 35) hwi 0 rfl rfl 3 (by decide) (by decide +kernel) rfl dX8_arrive_37 ?_
      refine lv_aload_n S.1 S.2.1 dX8_arrive_40 rfl (lv_at hl 2 rfl) ?_
      refine gget S hE M (C := RX8) (T := TX8) (N := 11) (ci := 8) (index := 21) hwi 0 rfl rfl 1 (by decide) (by decide +kernel) rfl dX8_arrive_41 ?_
      refine lv_iload S.1 S.2.1 dX8_arrive_44 (lv_at hl 0 rfl) ?_
      refine lv_iconst (v := 1) S.1 S.2.1 dX8_arrive_46 (by decide) ?_
      refine lv_isub S.1 S.2.1 dX8_arrive_47 ?_
      refine gcalli (L := [[(ad 0, .inr (8, [.ref (ad 1), .ref (ad 4), .ref (ad 15), .ref (ad 32), .ref (ad 33), .ref (ad 38), .ref (ad 41), .int z.mn, .int z.mk, .int z.mg, .int z.jp]))], tapW E ad z.tp, spuW E ad z.sp, surW E ad z.sg, sheW E ad z.sh, wisW E ad z.wi, linW E ad z.ln]) (Mid := [arrW E ad (ArrS.add z.ar n t)]) (Rr := []) (Mid' := [arrW E ad (ArrS.add z.ar n t)]) hE M rfl (List.append_nil _) (List.append_nil _) (fun hp => va_runV (As := [.int ((nI z.ar.ct) - 1)]) (rest := [.ref (ad 32)]) S (c_X0_delayAt l E ad (ArrS.add z.ar n t) ((nI z.ar.ct) - 1)  _) (cwV 1 S.2.2.2.2 gX8_arrive_X0_delayAt rfl rfl rfl kd_X0_delayAt ⟨Nat.le_of_ble_eq_true rfl, Nat.le_of_ble_eq_true rfl⟩) (hp.V hE (show vwCl[0]? = some (RX0, TX0, 6) from rfl) rfl) rfl rfl hl.1 rfl (lv_room (Nat.le_of_ble_eq_true rfl)) dX8_arrive_48 ⟨Nat.zero_le _, Nat.zero_le _⟩) (fun H locs M => ?_)
      have M : gM E A s.heap [[(ad 0, .inr (8, [.ref (ad 1), .ref (ad 4), .ref (ad 15), .ref (ad 32), .ref (ad 33), .ref (ad 38), .ref (ad 41), .int z.mn, .int z.mk, .int z.mg, .int z.jp]))], tapW E ad z.tp, spuW E ad z.sp, surW E ad z.sg, sheW E ad z.sh, wisW E ad z.wi, linW E ad z.ln, arrW E ad (ArrS.add z.ar n t)] H locs := M
      refine lv_aload_n S.1 S.2.1 dX8_arrive_51 rfl (lv_at hl 2 rfl) ?_
      refine gget S hE M (C := RX8) (T := TX8) (N := 11) (ci := 8) (index := 21) hwi 0 rfl rfl 1 (by decide) (by decide +kernel) rfl dX8_arrive_52 ?_
      refine lv_iload S.1 S.2.1 dX8_arrive_55 (lv_at hl 0 rfl) ?_
      refine gcalli (L := [[(ad 0, .inr (8, [.ref (ad 1), .ref (ad 4), .ref (ad 15), .ref (ad 32), .ref (ad 33), .ref (ad 38), .ref (ad 41), .int z.mn, .int z.mk, .int z.mg, .int z.jp]))], tapW E ad z.tp, spuW E ad z.sp, surW E ad z.sg, sheW E ad z.sh, wisW E ad z.wi, linW E ad z.ln]) (Mid := [arrW E ad (ArrS.add z.ar n t)]) (Rr := []) (Mid' := [arrW E ad (ArrS.add z.ar n t)]) hE M rfl (List.append_nil _) (List.append_nil _) (fun hp => va_runV (As := [.int (nI z.ar.ct)]) (rest := [.int ((ArrS.add z.ar n t).dl ((nI z.ar.ct) - 1)), .ref (ad 32)]) S (c_X0_delayAt l E ad (ArrS.add z.ar n t) (nI z.ar.ct)  _) (cwV 1 S.2.2.2.2 gX8_arrive_X0_delayAt rfl rfl rfl kd_X0_delayAt ⟨Nat.le_of_ble_eq_true rfl, Nat.le_of_ble_eq_true rfl⟩) (hp.V hE (show vwCl[0]? = some (RX0, TX0, 6) from rfl) rfl) rfl rfl hl.1 rfl (lv_room (Nat.le_of_ble_eq_true rfl)) dX8_arrive_57 ⟨Nat.zero_le _, Nat.zero_le _⟩) (fun H locs M => ?_)
      have M : gM E A s.heap [[(ad 0, .inr (8, [.ref (ad 1), .ref (ad 4), .ref (ad 15), .ref (ad 32), .ref (ad 33), .ref (ad 38), .ref (ad 41), .int z.mn, .int z.mk, .int z.mg, .int z.jp]))], tapW E ad z.tp, spuW E ad z.sp, surW E ad z.sg, sheW E ad z.sh, wisW E ad z.wi, linW E ad z.ln, arrW E ad (ArrS.add z.ar n t)] H locs := M
      refine lv_aload_n S.1 S.2.1 dX8_arrive_60 rfl (lv_at hl 2 rfl) ?_
      refine gget S hE M (C := RX8) (T := TX8) (N := 11) (ci := 8) (index := 70) hwi 0 rfl rfl 10 (by decide) (by decide +kernel) rfl dX8_arrive_61 ?_
      refine gcallv (L := [[(ad 0, .inr (8, [.ref (ad 1), .ref (ad 4), .ref (ad 15), .ref (ad 32), .ref (ad 33), .ref (ad 38), .ref (ad 41), .int z.mn, .int z.mk, .int z.mg, .int z.jp]))], tapW E ad z.tp, spuW E ad z.sp]) (Mid := [surW E ad z.sg]) (Rr := [sheW E ad z.sh, wisW E ad z.wi, linW E ad z.ln, arrW E ad (ArrS.add z.ar n t)]) (Mid' := [surW E ad (SurS.follow z.sg ((ArrS.add z.ar n t).dl ((nI z.ar.ct) - 1)) ((ArrS.add z.ar n t).dl (nI z.ar.ct)) z.jp)]) hE M rfl (List.append_nil _) (List.append_nil _) (fun hp => va_runV (As := [.int ((ArrS.add z.ar n t).dl ((nI z.ar.ct) - 1)), .int ((ArrS.add z.ar n t).dl (nI z.ar.ct)), .int z.jp]) (rest := []) S (c_X5_follow l E ad z.sg ((ArrS.add z.ar n t).dl ((nI z.ar.ct) - 1)) ((ArrS.add z.ar n t).dl (nI z.ar.ct)) z.jp  _) (cwV 3 S.2.2.2.2 gX8_arrive_X5_follow rfl rfl rfl kd_X5_follow ⟨Nat.le_of_ble_eq_true rfl, Nat.le_of_ble_eq_true rfl⟩) (hp.V hE (show vwCl[5]? = some (RX5, TX5, 3) from rfl) rfl) rfl rfl hl.1 rfl (lv_room (Nat.le_of_ble_eq_true rfl)) dX8_arrive_64 ⟨Nat.zero_le _, Nat.zero_le _⟩) (fun H locs M => ?_)
      have M : gM E A s.heap [[(ad 0, .inr (8, [.ref (ad 1), .ref (ad 4), .ref (ad 15), .ref (ad 32), .ref (ad 33), .ref (ad 38), .ref (ad 41), .int z.mn, .int z.mk, .int z.mg, .int z.jp]))], tapW E ad z.tp, spuW E ad z.sp, surW E ad (SurS.follow z.sg ((ArrS.add z.ar n t).dl ((nI z.ar.ct) - 1)) ((ArrS.add z.ar n t).dl (nI z.ar.ct)) z.jp), sheW E ad z.sh, wisW E ad z.wi, linW E ad z.ln, arrW E ad (ArrS.add z.ar n t)] H locs := M
      refine lv_aload_n S.1 S.2.1 dX8_arrive_67 rfl (lv_at hl 2 rfl) ?_
      refine gget S hE M (C := RX8) (T := TX8) (N := 11) (ci := 8) (index := 28) hwi 0 rfl rfl 2 (by decide) (by decide +kernel) rfl dX8_arrive_68 ?_
      refine lv_iload_n S.1 S.2.1 dX8_arrive_71 rfl (lv_at hl 4 rfl) ?_
      refine gcalli (L := [[(ad 0, .inr (8, [.ref (ad 1), .ref (ad 4), .ref (ad 15), .ref (ad 32), .ref (ad 33), .ref (ad 38), .ref (ad 41), .int z.mn, .int z.mk, .int z.mg, .int z.jp]))], tapW E ad z.tp]) (Mid := [spuW E ad z.sp]) (Rr := [surW E ad (SurS.follow z.sg ((ArrS.add z.ar n t).dl ((nI z.ar.ct) - 1)) ((ArrS.add z.ar n t).dl (nI z.ar.ct)) z.jp), sheW E ad z.sh, wisW E ad z.wi, linW E ad z.ln, arrW E ad (ArrS.add z.ar n t)]) (Mid' := [spuW E ad z.sp]) hE M rfl (List.append_nil _) (List.append_nil _) (fun hp => va_runV (As := [.int h]) (rest := []) S (c_X4_withHead l E ad z.sp h  hS _) (cwV 1 S.2.2.2.2 gX8_arrive_X4_withHead rfl rfl rfl kd_X4_withHead ⟨Nat.le_of_ble_eq_true rfl, Nat.le_of_ble_eq_true rfl⟩) (hp.V hE (show vwCl[4]? = some (RX4, TX4, 9) from rfl) rfl) rfl rfl hl.1 rfl (lv_room (Nat.le_of_ble_eq_true rfl)) dX8_arrive_72 ⟨Nat.zero_le _, Nat.zero_le _⟩) (fun H locs M => ?_)
      have M : gM E A s.heap [[(ad 0, .inr (8, [.ref (ad 1), .ref (ad 4), .ref (ad 15), .ref (ad 32), .ref (ad 33), .ref (ad 38), .ref (ad 41), .int z.mn, .int z.mk, .int z.mg, .int z.jp]))], tapW E ad z.tp, spuW E ad z.sp, surW E ad (SurS.follow z.sg ((ArrS.add z.ar n t).dl ((nI z.ar.ct) - 1)) ((ArrS.add z.ar n t).dl (nI z.ar.ct)) z.jp), sheW E ad z.sh, wisW E ad z.wi, linW E ad z.ln, arrW E ad (ArrS.add z.ar n t)] H locs := M
      refine lv_istore (lv' := [(7, .int (z.sp.withHead h)), (6, .int (nI z.ar.ct)), (5, .int (z.refuse n h p t)), (0, .ref (ad 0)), (1, .int n), (2, .int h), (3, .int p), (4, .int t)]) S.1 S.2.1 dX8_arrive_75 hl (by decide) rfl (fun ls hl => ?_)
      refine lv_iload S.1 S.2.1 dX8_arrive_77 (lv_at hl 0 rfl) ?_
      refine lv_iconst (v := (-1)) S.1 S.2.1 dX8_arrive_79 (by decide) ?_
      refine lv_icmp_ne (tgt := 91) S.1 S.2.1 dX8_arrive_80 (by decide) (fun c80 => ?_) (fun c80 => ?_)
      ·
        refine lv_aload_n S.1 S.2.1 dX8_arrive_91 rfl (lv_at hl 3 rfl) ?_
        refine lv_iload S.1 S.2.1 dX8_arrive_92 (lv_at hl 1 rfl) ?_
        refine lv_iload_n S.1 S.2.1 dX8_arrive_94 rfl (lv_at hl 4 rfl) ?_
        refine lv_iload S.1 S.2.1 dX8_arrive_95 (lv_at hl 7 rfl) ?_
        refine lv_iload S.1 S.2.1 dX8_arrive_97 (lv_at hl 0 rfl) ?_
        refine gcallv (L := []) (Mid := spcGs E ad ((z.tp, ArrS.add z.ar n t, z.sp, SurS.follow z.sg ((ArrS.add z.ar n t).dl ((nI z.ar.ct) - 1)) ((ArrS.add z.ar n t).dl (nI z.ar.ct)) z.jp, z.ln, z.wi, z.sh, z.mn, z.mk, z.mg, z.jp) : SpcS)) (Rr := []) (Mid' := spcGs E ad (SpcS.settle ((z.tp, ArrS.add z.ar n t, z.sp, SurS.follow z.sg ((ArrS.add z.ar n t).dl ((nI z.ar.ct) - 1)) ((ArrS.add z.ar n t).dl (nI z.ar.ct)) z.jp, z.ln, z.wi, z.sh, z.mn, z.mk, z.mg, z.jp) : SpcS) (nI z.ar.ct) n t (z.sp.withHead h))) hE M rfl (rfl) (rfl) (fun hp => va_runV (As := [.int (nI z.ar.ct), .int n, .int t, .int (z.sp.withHead h)]) (rest := []) S (c_X8_settle l E ad ((z.tp, ArrS.add z.ar n t, z.sp, SurS.follow z.sg ((ArrS.add z.ar n t).dl ((nI z.ar.ct) - 1)) ((ArrS.add z.ar n t).dl (nI z.ar.ct)) z.jp, z.ln, z.wi, z.sh, z.mn, z.mk, z.mg, z.jp) : SpcS) (nI z.ar.ct) n t (z.sp.withHead h)  _) (cwV 4 S.2.2.2.2 gX8_arrive_X8_settle rfl rfl rfl kd_X8_settle ⟨Nat.le_of_ble_eq_true rfl, Nat.le_of_ble_eq_true rfl⟩) (hp.V hE (show vwCl[8]? = some (RX8, TX8, 11) from rfl) rfl) rfl rfl hl.1 rfl (lv_room (Nat.le_of_ble_eq_true rfl)) dX8_arrive_99 ⟨Nat.zero_le _, Nat.zero_le _⟩) (fun H locs M => ?_)
        have M : gM E A s.heap [[(ad 0, .inr (8, [.ref (ad 1), .ref (ad 4), .ref (ad 15), .ref (ad 32), .ref (ad 33), .ref (ad 38), .ref (ad 41), .int ((SpcS.settle ((z.tp, ArrS.add z.ar n t, z.sp, SurS.follow z.sg ((ArrS.add z.ar n t).dl ((nI z.ar.ct) - 1)) ((ArrS.add z.ar n t).dl (nI z.ar.ct)) z.jp, z.ln, z.wi, z.sh, z.mn, z.mk, z.mg, z.jp) : SpcS) (nI z.ar.ct) n t (z.sp.withHead h)).mn), .int ((SpcS.settle ((z.tp, ArrS.add z.ar n t, z.sp, SurS.follow z.sg ((ArrS.add z.ar n t).dl ((nI z.ar.ct) - 1)) ((ArrS.add z.ar n t).dl (nI z.ar.ct)) z.jp, z.ln, z.wi, z.sh, z.mn, z.mk, z.mg, z.jp) : SpcS) (nI z.ar.ct) n t (z.sp.withHead h)).mk), .int ((SpcS.settle ((z.tp, ArrS.add z.ar n t, z.sp, SurS.follow z.sg ((ArrS.add z.ar n t).dl ((nI z.ar.ct) - 1)) ((ArrS.add z.ar n t).dl (nI z.ar.ct)) z.jp, z.ln, z.wi, z.sh, z.mn, z.mk, z.mg, z.jp) : SpcS) (nI z.ar.ct) n t (z.sp.withHead h)).mg), .int ((SpcS.settle ((z.tp, ArrS.add z.ar n t, z.sp, SurS.follow z.sg ((ArrS.add z.ar n t).dl ((nI z.ar.ct) - 1)) ((ArrS.add z.ar n t).dl (nI z.ar.ct)) z.jp, z.ln, z.wi, z.sh, z.mn, z.mk, z.mg, z.jp) : SpcS) (nI z.ar.ct) n t (z.sp.withHead h)).jp)]))], tapW E ad ((SpcS.settle ((z.tp, ArrS.add z.ar n t, z.sp, SurS.follow z.sg ((ArrS.add z.ar n t).dl ((nI z.ar.ct) - 1)) ((ArrS.add z.ar n t).dl (nI z.ar.ct)) z.jp, z.ln, z.wi, z.sh, z.mn, z.mk, z.mg, z.jp) : SpcS) (nI z.ar.ct) n t (z.sp.withHead h)).tp), spuW E ad ((SpcS.settle ((z.tp, ArrS.add z.ar n t, z.sp, SurS.follow z.sg ((ArrS.add z.ar n t).dl ((nI z.ar.ct) - 1)) ((ArrS.add z.ar n t).dl (nI z.ar.ct)) z.jp, z.ln, z.wi, z.sh, z.mn, z.mk, z.mg, z.jp) : SpcS) (nI z.ar.ct) n t (z.sp.withHead h)).sp), surW E ad ((SpcS.settle ((z.tp, ArrS.add z.ar n t, z.sp, SurS.follow z.sg ((ArrS.add z.ar n t).dl ((nI z.ar.ct) - 1)) ((ArrS.add z.ar n t).dl (nI z.ar.ct)) z.jp, z.ln, z.wi, z.sh, z.mn, z.mk, z.mg, z.jp) : SpcS) (nI z.ar.ct) n t (z.sp.withHead h)).sg), sheW E ad ((SpcS.settle ((z.tp, ArrS.add z.ar n t, z.sp, SurS.follow z.sg ((ArrS.add z.ar n t).dl ((nI z.ar.ct) - 1)) ((ArrS.add z.ar n t).dl (nI z.ar.ct)) z.jp, z.ln, z.wi, z.sh, z.mn, z.mk, z.mg, z.jp) : SpcS) (nI z.ar.ct) n t (z.sp.withHead h)).sh), wisW E ad ((SpcS.settle ((z.tp, ArrS.add z.ar n t, z.sp, SurS.follow z.sg ((ArrS.add z.ar n t).dl ((nI z.ar.ct) - 1)) ((ArrS.add z.ar n t).dl (nI z.ar.ct)) z.jp, z.ln, z.wi, z.sh, z.mn, z.mk, z.mg, z.jp) : SpcS) (nI z.ar.ct) n t (z.sp.withHead h)).wi), linW E ad ((SpcS.settle ((z.tp, ArrS.add z.ar n t, z.sp, SurS.follow z.sg ((ArrS.add z.ar n t).dl ((nI z.ar.ct) - 1)) ((ArrS.add z.ar n t).dl (nI z.ar.ct)) z.jp, z.ln, z.wi, z.sh, z.mn, z.mk, z.mg, z.jp) : SpcS) (nI z.ar.ct) n t (z.sp.withHead h)).ln), arrW E ad ((SpcS.settle ((z.tp, ArrS.add z.ar n t, z.sp, SurS.follow z.sg ((ArrS.add z.ar n t).dl ((nI z.ar.ct) - 1)) ((ArrS.add z.ar n t).dl (nI z.ar.ct)) z.jp, z.ln, z.wi, z.sh, z.mn, z.mk, z.mg, z.jp) : SpcS) (nI z.ar.ct) n t (z.sp.withHead h)).ar)] H locs := M
        refine lv_iload S.1 S.2.1 dX8_arrive_102 (lv_at hl 0 rfl) ?_
        have he : SpcS.arrive z n h p t = (z.sp.withHead h, SpcS.settle ((z.tp, ArrS.add z.ar n t, z.sp, SurS.follow z.sg ((ArrS.add z.ar n t).dl ((nI z.ar.ct) - 1)) ((ArrS.add z.ar n t).dl (nI z.ar.ct)) z.jp, z.ln, z.wi, z.sh, z.mn, z.mk, z.mg, z.jp) : SpcS) (nI z.ar.ct) n t (z.sp.withHead h)) := by unfold SpcS.arrive SpcS.came; rw [if_pos c13, if_neg c80, if_neg c33] <;> rfl
        exact giret S hr hlk M (by rw [he]) (by rw [he]; rfl) dX8_arrive_104
      ·
        refine lv_aload_n S.1 S.2.1 dX8_arrive_83 rfl (lv_at hl 3 rfl) ?_
        refine lv_iload_n S.1 S.2.1 dX8_arrive_84 rfl (lv_at hl 5 rfl) ?_
        refine lv_iload_n S.1 S.2.1 dX8_arrive_85 rfl (lv_at hl 6 rfl) ?_
        refine gcalli (L := []) (Mid := spcGs E ad ((z.tp, ArrS.add z.ar n t, z.sp, SurS.follow z.sg ((ArrS.add z.ar n t).dl ((nI z.ar.ct) - 1)) ((ArrS.add z.ar n t).dl (nI z.ar.ct)) z.jp, z.ln, z.wi, z.sh, z.mn, z.mk, z.mg, z.jp) : SpcS)) (Rr := []) (Mid' := spcGs E ad (SpcS.opened ((z.tp, ArrS.add z.ar n t, z.sp, SurS.follow z.sg ((ArrS.add z.ar n t).dl ((nI z.ar.ct) - 1)) ((ArrS.add z.ar n t).dl (nI z.ar.ct)) z.jp, z.ln, z.wi, z.sh, z.mn, z.mk, z.mg, z.jp) : SpcS) h p)) hE M rfl (rfl) (rfl) (fun hp => va_runV (As := [.int h, .int p]) (rest := []) S (c_X8_openSpurt l E ad ((z.tp, ArrS.add z.ar n t, z.sp, SurS.follow z.sg ((ArrS.add z.ar n t).dl ((nI z.ar.ct) - 1)) ((ArrS.add z.ar n t).dl (nI z.ar.ct)) z.jp, z.ln, z.wi, z.sh, z.mn, z.mk, z.mg, z.jp) : SpcS) h p  (SpcS.refuse_ct hA c13) hS _) (cwV 2 S.2.2.2.2 gX8_arrive_X8_openSpurt rfl rfl rfl kd_X8_openSpurt ⟨Nat.le_of_ble_eq_true rfl, Nat.le_of_ble_eq_true rfl⟩) (hp.V hE (show vwCl[8]? = some (RX8, TX8, 11) from rfl) rfl) rfl rfl hl.1 rfl (lv_room (Nat.le_of_ble_eq_true rfl)) dX8_arrive_86 ⟨Nat.zero_le _, Nat.zero_le _⟩) (fun H locs M => ?_)
        have M : gM E A s.heap [[(ad 0, .inr (8, [.ref (ad 1), .ref (ad 4), .ref (ad 15), .ref (ad 32), .ref (ad 33), .ref (ad 38), .ref (ad 41), .int ((SpcS.opened ((z.tp, ArrS.add z.ar n t, z.sp, SurS.follow z.sg ((ArrS.add z.ar n t).dl ((nI z.ar.ct) - 1)) ((ArrS.add z.ar n t).dl (nI z.ar.ct)) z.jp, z.ln, z.wi, z.sh, z.mn, z.mk, z.mg, z.jp) : SpcS) h p).mn), .int ((SpcS.opened ((z.tp, ArrS.add z.ar n t, z.sp, SurS.follow z.sg ((ArrS.add z.ar n t).dl ((nI z.ar.ct) - 1)) ((ArrS.add z.ar n t).dl (nI z.ar.ct)) z.jp, z.ln, z.wi, z.sh, z.mn, z.mk, z.mg, z.jp) : SpcS) h p).mk), .int ((SpcS.opened ((z.tp, ArrS.add z.ar n t, z.sp, SurS.follow z.sg ((ArrS.add z.ar n t).dl ((nI z.ar.ct) - 1)) ((ArrS.add z.ar n t).dl (nI z.ar.ct)) z.jp, z.ln, z.wi, z.sh, z.mn, z.mk, z.mg, z.jp) : SpcS) h p).mg), .int ((SpcS.opened ((z.tp, ArrS.add z.ar n t, z.sp, SurS.follow z.sg ((ArrS.add z.ar n t).dl ((nI z.ar.ct) - 1)) ((ArrS.add z.ar n t).dl (nI z.ar.ct)) z.jp, z.ln, z.wi, z.sh, z.mn, z.mk, z.mg, z.jp) : SpcS) h p).jp)]))], tapW E ad ((SpcS.opened ((z.tp, ArrS.add z.ar n t, z.sp, SurS.follow z.sg ((ArrS.add z.ar n t).dl ((nI z.ar.ct) - 1)) ((ArrS.add z.ar n t).dl (nI z.ar.ct)) z.jp, z.ln, z.wi, z.sh, z.mn, z.mk, z.mg, z.jp) : SpcS) h p).tp), spuW E ad ((SpcS.opened ((z.tp, ArrS.add z.ar n t, z.sp, SurS.follow z.sg ((ArrS.add z.ar n t).dl ((nI z.ar.ct) - 1)) ((ArrS.add z.ar n t).dl (nI z.ar.ct)) z.jp, z.ln, z.wi, z.sh, z.mn, z.mk, z.mg, z.jp) : SpcS) h p).sp), surW E ad ((SpcS.opened ((z.tp, ArrS.add z.ar n t, z.sp, SurS.follow z.sg ((ArrS.add z.ar n t).dl ((nI z.ar.ct) - 1)) ((ArrS.add z.ar n t).dl (nI z.ar.ct)) z.jp, z.ln, z.wi, z.sh, z.mn, z.mk, z.mg, z.jp) : SpcS) h p).sg), sheW E ad ((SpcS.opened ((z.tp, ArrS.add z.ar n t, z.sp, SurS.follow z.sg ((ArrS.add z.ar n t).dl ((nI z.ar.ct) - 1)) ((ArrS.add z.ar n t).dl (nI z.ar.ct)) z.jp, z.ln, z.wi, z.sh, z.mn, z.mk, z.mg, z.jp) : SpcS) h p).sh), wisW E ad ((SpcS.opened ((z.tp, ArrS.add z.ar n t, z.sp, SurS.follow z.sg ((ArrS.add z.ar n t).dl ((nI z.ar.ct) - 1)) ((ArrS.add z.ar n t).dl (nI z.ar.ct)) z.jp, z.ln, z.wi, z.sh, z.mn, z.mk, z.mg, z.jp) : SpcS) h p).wi), linW E ad ((SpcS.opened ((z.tp, ArrS.add z.ar n t, z.sp, SurS.follow z.sg ((ArrS.add z.ar n t).dl ((nI z.ar.ct) - 1)) ((ArrS.add z.ar n t).dl (nI z.ar.ct)) z.jp, z.ln, z.wi, z.sh, z.mn, z.mk, z.mg, z.jp) : SpcS) h p).ln), arrW E ad ((SpcS.opened ((z.tp, ArrS.add z.ar n t, z.sp, SurS.follow z.sg ((ArrS.add z.ar n t).dl ((nI z.ar.ct) - 1)) ((ArrS.add z.ar n t).dl (nI z.ar.ct)) z.jp, z.ln, z.wi, z.sh, z.mn, z.mk, z.mg, z.jp) : SpcS) h p).ar)] H locs := M
        refine lv_istore (lv' := [(7, .int (nI z.sp.ct)), (6, .int (nI z.ar.ct)), (5, .int (z.refuse n h p t)), (0, .ref (ad 0)), (1, .int n), (2, .int h), (3, .int p), (4, .int t)]) S.1 S.2.1 dX8_arrive_89 hl (by decide) rfl (fun ls hl => ?_)
        refine lv_aload_n S.1 S.2.1 dX8_arrive_91 rfl (lv_at hl 3 rfl) ?_
        refine lv_iload S.1 S.2.1 dX8_arrive_92 (lv_at hl 1 rfl) ?_
        refine lv_iload_n S.1 S.2.1 dX8_arrive_94 rfl (lv_at hl 4 rfl) ?_
        refine lv_iload S.1 S.2.1 dX8_arrive_95 (lv_at hl 7 rfl) ?_
        refine lv_iload S.1 S.2.1 dX8_arrive_97 (lv_at hl 0 rfl) ?_
        refine gcallv (L := []) (Mid := spcGs E ad (SpcS.opened ((z.tp, ArrS.add z.ar n t, z.sp, SurS.follow z.sg ((ArrS.add z.ar n t).dl ((nI z.ar.ct) - 1)) ((ArrS.add z.ar n t).dl (nI z.ar.ct)) z.jp, z.ln, z.wi, z.sh, z.mn, z.mk, z.mg, z.jp) : SpcS) h p)) (Rr := []) (Mid' := spcGs E ad (SpcS.settle (SpcS.opened ((z.tp, ArrS.add z.ar n t, z.sp, SurS.follow z.sg ((ArrS.add z.ar n t).dl ((nI z.ar.ct) - 1)) ((ArrS.add z.ar n t).dl (nI z.ar.ct)) z.jp, z.ln, z.wi, z.sh, z.mn, z.mk, z.mg, z.jp) : SpcS) h p) (nI z.ar.ct) n t (nI z.sp.ct))) hE M rfl (rfl) (rfl) (fun hp => va_runV (As := [.int (nI z.ar.ct), .int n, .int t, .int (nI z.sp.ct)]) (rest := []) S (c_X8_settle l E ad (SpcS.opened ((z.tp, ArrS.add z.ar n t, z.sp, SurS.follow z.sg ((ArrS.add z.ar n t).dl ((nI z.ar.ct) - 1)) ((ArrS.add z.ar n t).dl (nI z.ar.ct)) z.jp, z.ln, z.wi, z.sh, z.mn, z.mk, z.mg, z.jp) : SpcS) h p) (nI z.ar.ct) n t (nI z.sp.ct)  _) (cwV 4 S.2.2.2.2 gX8_arrive_X8_settle rfl rfl rfl kd_X8_settle ⟨Nat.le_of_ble_eq_true rfl, Nat.le_of_ble_eq_true rfl⟩) (hp.V hE (show vwCl[8]? = some (RX8, TX8, 11) from rfl) rfl) rfl rfl hl.1 rfl (lv_room (Nat.le_of_ble_eq_true rfl)) dX8_arrive_99 ⟨Nat.zero_le _, Nat.zero_le _⟩) (fun H locs M => ?_)
        have M : gM E A s.heap [[(ad 0, .inr (8, [.ref (ad 1), .ref (ad 4), .ref (ad 15), .ref (ad 32), .ref (ad 33), .ref (ad 38), .ref (ad 41), .int ((SpcS.settle (SpcS.opened ((z.tp, ArrS.add z.ar n t, z.sp, SurS.follow z.sg ((ArrS.add z.ar n t).dl ((nI z.ar.ct) - 1)) ((ArrS.add z.ar n t).dl (nI z.ar.ct)) z.jp, z.ln, z.wi, z.sh, z.mn, z.mk, z.mg, z.jp) : SpcS) h p) (nI z.ar.ct) n t (nI z.sp.ct)).mn), .int ((SpcS.settle (SpcS.opened ((z.tp, ArrS.add z.ar n t, z.sp, SurS.follow z.sg ((ArrS.add z.ar n t).dl ((nI z.ar.ct) - 1)) ((ArrS.add z.ar n t).dl (nI z.ar.ct)) z.jp, z.ln, z.wi, z.sh, z.mn, z.mk, z.mg, z.jp) : SpcS) h p) (nI z.ar.ct) n t (nI z.sp.ct)).mk), .int ((SpcS.settle (SpcS.opened ((z.tp, ArrS.add z.ar n t, z.sp, SurS.follow z.sg ((ArrS.add z.ar n t).dl ((nI z.ar.ct) - 1)) ((ArrS.add z.ar n t).dl (nI z.ar.ct)) z.jp, z.ln, z.wi, z.sh, z.mn, z.mk, z.mg, z.jp) : SpcS) h p) (nI z.ar.ct) n t (nI z.sp.ct)).mg), .int ((SpcS.settle (SpcS.opened ((z.tp, ArrS.add z.ar n t, z.sp, SurS.follow z.sg ((ArrS.add z.ar n t).dl ((nI z.ar.ct) - 1)) ((ArrS.add z.ar n t).dl (nI z.ar.ct)) z.jp, z.ln, z.wi, z.sh, z.mn, z.mk, z.mg, z.jp) : SpcS) h p) (nI z.ar.ct) n t (nI z.sp.ct)).jp)]))], tapW E ad ((SpcS.settle (SpcS.opened ((z.tp, ArrS.add z.ar n t, z.sp, SurS.follow z.sg ((ArrS.add z.ar n t).dl ((nI z.ar.ct) - 1)) ((ArrS.add z.ar n t).dl (nI z.ar.ct)) z.jp, z.ln, z.wi, z.sh, z.mn, z.mk, z.mg, z.jp) : SpcS) h p) (nI z.ar.ct) n t (nI z.sp.ct)).tp), spuW E ad ((SpcS.settle (SpcS.opened ((z.tp, ArrS.add z.ar n t, z.sp, SurS.follow z.sg ((ArrS.add z.ar n t).dl ((nI z.ar.ct) - 1)) ((ArrS.add z.ar n t).dl (nI z.ar.ct)) z.jp, z.ln, z.wi, z.sh, z.mn, z.mk, z.mg, z.jp) : SpcS) h p) (nI z.ar.ct) n t (nI z.sp.ct)).sp), surW E ad ((SpcS.settle (SpcS.opened ((z.tp, ArrS.add z.ar n t, z.sp, SurS.follow z.sg ((ArrS.add z.ar n t).dl ((nI z.ar.ct) - 1)) ((ArrS.add z.ar n t).dl (nI z.ar.ct)) z.jp, z.ln, z.wi, z.sh, z.mn, z.mk, z.mg, z.jp) : SpcS) h p) (nI z.ar.ct) n t (nI z.sp.ct)).sg), sheW E ad ((SpcS.settle (SpcS.opened ((z.tp, ArrS.add z.ar n t, z.sp, SurS.follow z.sg ((ArrS.add z.ar n t).dl ((nI z.ar.ct) - 1)) ((ArrS.add z.ar n t).dl (nI z.ar.ct)) z.jp, z.ln, z.wi, z.sh, z.mn, z.mk, z.mg, z.jp) : SpcS) h p) (nI z.ar.ct) n t (nI z.sp.ct)).sh), wisW E ad ((SpcS.settle (SpcS.opened ((z.tp, ArrS.add z.ar n t, z.sp, SurS.follow z.sg ((ArrS.add z.ar n t).dl ((nI z.ar.ct) - 1)) ((ArrS.add z.ar n t).dl (nI z.ar.ct)) z.jp, z.ln, z.wi, z.sh, z.mn, z.mk, z.mg, z.jp) : SpcS) h p) (nI z.ar.ct) n t (nI z.sp.ct)).wi), linW E ad ((SpcS.settle (SpcS.opened ((z.tp, ArrS.add z.ar n t, z.sp, SurS.follow z.sg ((ArrS.add z.ar n t).dl ((nI z.ar.ct) - 1)) ((ArrS.add z.ar n t).dl (nI z.ar.ct)) z.jp, z.ln, z.wi, z.sh, z.mn, z.mk, z.mg, z.jp) : SpcS) h p) (nI z.ar.ct) n t (nI z.sp.ct)).ln), arrW E ad ((SpcS.settle (SpcS.opened ((z.tp, ArrS.add z.ar n t, z.sp, SurS.follow z.sg ((ArrS.add z.ar n t).dl ((nI z.ar.ct) - 1)) ((ArrS.add z.ar n t).dl (nI z.ar.ct)) z.jp, z.ln, z.wi, z.sh, z.mn, z.mk, z.mg, z.jp) : SpcS) h p) (nI z.ar.ct) n t (nI z.sp.ct)).ar)] H locs := M
        refine lv_iload S.1 S.2.1 dX8_arrive_102 (lv_at hl 0 rfl) ?_
        have he : SpcS.arrive z n h p t = (nI z.sp.ct, SpcS.settle (SpcS.opened ((z.tp, ArrS.add z.ar n t, z.sp, SurS.follow z.sg ((ArrS.add z.ar n t).dl ((nI z.ar.ct) - 1)) ((ArrS.add z.ar n t).dl (nI z.ar.ct)) z.jp, z.ln, z.wi, z.sh, z.mn, z.mk, z.mg, z.jp) : SpcS) h p) (nI z.ar.ct) n t (nI z.sp.ct)) := by unfold SpcS.arrive SpcS.came; rw [if_pos c13, if_pos c80, if_neg c33] <;> rfl
        exact giret S hr hlk M (by rw [he]) (by rw [he]; rfl) dX8_arrive_104
  ·
    refine lv_iload S.1 S.2.1 dX8_arrive_16 (lv_at hl 0 rfl) ?_
    have he : SpcS.arrive z n h p t = (z.refuse n h p t, z) := by unfold SpcS.arrive; rw [if_neg c13]
    exact giret S hr hlk M (by rw [he]) (by rw [he]; rfl) dX8_arrive_18

set_option maxHeartbeats 4000000 in
set_option maxRecDepth 100000 in
theorem c_X8_anew (l : Launch) (E : xE) (ad : Nat → Nat) (z : SpcS) (hA : z.ar.ct ≤ 120) : mI l yX8_anew wsX8_anew (xrm 2 43) E [.ref (ad 0)] (spcGs E ad z) ((SpcS.anew z).1) (spcGs E ad ((SpcS.anew z).2)) := by
  intro sz
  refine Met.ofW (cc := cX8_anew) (maxL := 2) (ret := (some .int)) (by decide +kernel) rfl ?_
  intro vp ve s vm args below meth vc s₁ B hml hv
  obtain ⟨rfl, S, hr, hlk, hnm, A, hA, hE, M⟩ := genter B hml hv
  rw [hA]
  obtain ⟨ls, hfr, hl⟩ := gst (m := vm) (as := [.ref (ad 0)]) (n := 2) (Nat.le_of_ble_eq_true rfl)
  rw [hfr]
  clear hfr hA
  have hl : lv_has ls 2 [(0, .ref (ad 0))] := hl
  have M : gM E A s.heap [[(ad 0, .inr (8, [.ref (ad 1), .ref (ad 4), .ref (ad 15), .ref (ad 32), .ref (ad 33), .ref (ad 38), .ref (ad 41), .int z.mn, .int z.mk, .int z.mg, .int z.jp]))], tapW E ad z.tp, spuW E ad z.sp, surW E ad z.sg, sheW E ad z.sh, wisW E ad z.wi, linW E ad z.ln, arrW E ad z.ar] s.heap [] := M
  have hwi : ∀ w ∈ u_ws RX8 TX8 11, w ∈ wsX8_anew := by decide +kernel
  refine lv_aload_n S.1 S.2.1 dX8_anew_0 rfl (lv_at hl 0 rfl) ?_
  refine gget S hE M (C := RX8) (T := TX8) (N := 11) (ci := 8) (index := 21) hwi 0 rfl rfl 1 (by decide) (by decide +kernel) rfl dX8_anew_1 ?_
  refine gcalli (L := [[(ad 0, .inr (8, [.ref (ad 1), .ref (ad 4), .ref (ad 15), .ref (ad 32), .ref (ad 33), .ref (ad 38), .ref (ad 41), .int z.mn, .int z.mk, .int z.mg, .int z.jp]))], tapW E ad z.tp, spuW E ad z.sp, surW E ad z.sg, sheW E ad z.sh, wisW E ad z.wi, linW E ad z.ln]) (Mid := [arrW E ad z.ar]) (Rr := []) (Mid' := [arrW E ad z.ar]) hE M rfl (List.append_nil _) (List.append_nil _) (fun hp => va_runV (As := []) (rest := []) S (c_X0_count l E ad z.ar   _) (cwV 0 S.2.2.2.2 gX8_anew_X0_count rfl rfl rfl kd_X0_count ⟨Nat.le_of_ble_eq_true rfl, Nat.le_of_ble_eq_true rfl⟩) (hp.V hE (show vwCl[0]? = some (RX0, TX0, 6) from rfl) rfl) rfl rfl hl.1 rfl (lv_room (Nat.le_of_ble_eq_true rfl)) dX8_anew_4 ⟨Nat.zero_le _, Nat.zero_le _⟩) (fun H locs M => ?_)
  have M : gM E A s.heap [[(ad 0, .inr (8, [.ref (ad 1), .ref (ad 4), .ref (ad 15), .ref (ad 32), .ref (ad 33), .ref (ad 38), .ref (ad 41), .int z.mn, .int z.mk, .int z.mg, .int z.jp]))], tapW E ad z.tp, spuW E ad z.sp, surW E ad z.sg, sheW E ad z.sh, wisW E ad z.wi, linW E ad z.ln, arrW E ad z.ar] H locs := M
  refine lv_istore_n (lv' := [(1, .int (nI z.ar.ct)), (0, .ref (ad 0))]) S.1 S.2.1 dX8_anew_7 rfl hl (by decide) rfl (fun ls hl => ?_)
  refine lv_aload_n S.1 S.2.1 dX8_anew_8 rfl (lv_at hl 1 rfl) ?_
  refine gget S hE M (C := RX8) (T := TX8) (N := 11) (ci := 8) (index := 21) hwi 0 rfl rfl 1 (by decide) (by decide +kernel) rfl dX8_anew_9 ?_
  refine gcallv (L := [[(ad 0, .inr (8, [.ref (ad 1), .ref (ad 4), .ref (ad 15), .ref (ad 32), .ref (ad 33), .ref (ad 38), .ref (ad 41), .int z.mn, .int z.mk, .int z.mg, .int z.jp]))], tapW E ad z.tp, spuW E ad z.sp, surW E ad z.sg, sheW E ad z.sh, wisW E ad z.wi, linW E ad z.ln]) (Mid := [arrW E ad z.ar]) (Rr := []) (Mid' := [arrW E ad (ArrS.clear z.ar)]) hE M rfl (List.append_nil _) (List.append_nil _) (fun hp => va_runV (As := []) (rest := []) S (c_X0_clear l E ad z.ar   hA _) (cwV 0 S.2.2.2.2 gX8_anew_X0_clear rfl rfl rfl kd_X0_clear ⟨Nat.le_of_ble_eq_true rfl, Nat.le_of_ble_eq_true rfl⟩) (hp.V hE (show vwCl[0]? = some (RX0, TX0, 6) from rfl) rfl) rfl rfl hl.1 rfl (lv_room (Nat.le_of_ble_eq_true rfl)) dX8_anew_12 ⟨Nat.zero_le _, Nat.zero_le _⟩) (fun H locs M => ?_)
  have M : gM E A s.heap [[(ad 0, .inr (8, [.ref (ad 1), .ref (ad 4), .ref (ad 15), .ref (ad 32), .ref (ad 33), .ref (ad 38), .ref (ad 41), .int z.mn, .int z.mk, .int z.mg, .int z.jp]))], tapW E ad z.tp, spuW E ad z.sp, surW E ad z.sg, sheW E ad z.sh, wisW E ad z.wi, linW E ad z.ln, arrW E ad (ArrS.clear z.ar)] H locs := M
  refine lv_aload_n S.1 S.2.1 dX8_anew_15 rfl (lv_at hl 1 rfl) ?_
  refine gget S hE M (C := RX8) (T := TX8) (N := 11) (ci := 8) (index := 28) hwi 0 rfl rfl 2 (by decide) (by decide +kernel) rfl dX8_anew_16 ?_
  refine gcallv (L := [[(ad 0, .inr (8, [.ref (ad 1), .ref (ad 4), .ref (ad 15), .ref (ad 32), .ref (ad 33), .ref (ad 38), .ref (ad 41), .int z.mn, .int z.mk, .int z.mg, .int z.jp]))], tapW E ad z.tp]) (Mid := [spuW E ad z.sp]) (Rr := [surW E ad z.sg, sheW E ad z.sh, wisW E ad z.wi, linW E ad z.ln, arrW E ad (ArrS.clear z.ar)]) (Mid' := [spuW E ad (SpuS.clear z.sp)]) hE M rfl (List.append_nil _) (List.append_nil _) (fun hp => va_runV (As := []) (rest := []) S (c_X4_clear l E ad z.sp   _) (cwV 0 S.2.2.2.2 gX8_anew_X4_clear rfl rfl rfl kd_X4_clear ⟨Nat.le_of_ble_eq_true rfl, Nat.le_of_ble_eq_true rfl⟩) (hp.V hE (show vwCl[4]? = some (RX4, TX4, 9) from rfl) rfl) rfl rfl hl.1 rfl (lv_room (Nat.le_of_ble_eq_true rfl)) dX8_anew_19 ⟨Nat.zero_le _, Nat.zero_le _⟩) (fun H locs M => ?_)
  have M : gM E A s.heap [[(ad 0, .inr (8, [.ref (ad 1), .ref (ad 4), .ref (ad 15), .ref (ad 32), .ref (ad 33), .ref (ad 38), .ref (ad 41), .int z.mn, .int z.mk, .int z.mg, .int z.jp]))], tapW E ad z.tp, spuW E ad (SpuS.clear z.sp), surW E ad z.sg, sheW E ad z.sh, wisW E ad z.wi, linW E ad z.ln, arrW E ad (ArrS.clear z.ar)] H locs := M
  refine lv_aload_n S.1 S.2.1 dX8_anew_22 rfl (lv_at hl 1 rfl) ?_
  refine gget S hE M (C := RX8) (T := TX8) (N := 11) (ci := 8) (index := 35) hwi 0 rfl rfl 3 (by decide) (by decide +kernel) rfl dX8_anew_23 ?_
  refine gcallv (L := [[(ad 0, .inr (8, [.ref (ad 1), .ref (ad 4), .ref (ad 15), .ref (ad 32), .ref (ad 33), .ref (ad 38), .ref (ad 41), .int z.mn, .int z.mk, .int z.mg, .int z.jp]))], tapW E ad z.tp, spuW E ad (SpuS.clear z.sp)]) (Mid := [surW E ad z.sg]) (Rr := [sheW E ad z.sh, wisW E ad z.wi, linW E ad z.ln, arrW E ad (ArrS.clear z.ar)]) (Mid' := [surW E ad (false, z.sg.ba, 0)]) hE M rfl (List.append_nil _) (List.append_nil _) (fun hp => va_runV (As := []) (rest := []) S (c_X5_clear l E ad z.sg   _) (cwV 0 S.2.2.2.2 gX8_anew_X5_clear rfl rfl rfl kd_X5_clear ⟨Nat.le_of_ble_eq_true rfl, Nat.le_of_ble_eq_true rfl⟩) (hp.V hE (show vwCl[5]? = some (RX5, TX5, 3) from rfl) rfl) rfl rfl hl.1 rfl (lv_room (Nat.le_of_ble_eq_true rfl)) dX8_anew_26 ⟨Nat.zero_le _, Nat.zero_le _⟩) (fun H locs M => ?_)
  have M : gM E A s.heap [[(ad 0, .inr (8, [.ref (ad 1), .ref (ad 4), .ref (ad 15), .ref (ad 32), .ref (ad 33), .ref (ad 38), .ref (ad 41), .int z.mn, .int z.mk, .int z.mg, .int z.jp]))], tapW E ad z.tp, spuW E ad (SpuS.clear z.sp), surW E ad (false, z.sg.ba, 0), sheW E ad z.sh, wisW E ad z.wi, linW E ad z.ln, arrW E ad (ArrS.clear z.ar)] H locs := M
  refine lv_iload_n S.1 S.2.1 dX8_anew_29 rfl (lv_at hl 0 rfl) ?_
  have he : SpcS.anew z = (nI z.ar.ct, ((z.tp, ArrS.clear z.ar, SpuS.clear z.sp, (false, z.sg.ba, 0), z.ln, z.wi, z.sh, z.mn, z.mk, z.mg, z.jp) : SpcS)) := by rfl
  exact giret S hr hlk M (by rw [he]) (by rw [he]; rfl) dX8_anew_30

set_option maxHeartbeats 4000000 in
set_option maxRecDepth 100000 in
theorem c_X8_ofFrame (l : Launch) (E : xE) (ad : Nat → Nat) (z : SpcS) (n : Int32) (w : Int32) : mI l yX8_ofFrame wsX8_ofFrame (xrm 2 42) E [.ref (ad 0), .int n, .int w] (spcGs E ad z) (z.ofFrame n w) (spcGs E ad z) := by
  intro sz
  refine Met.ofW (cc := cX8_ofFrame) (maxL := 4) (ret := (some .int)) (by decide +kernel) rfl ?_
  intro vp ve s vm args below meth vc s₁ B hml hv
  obtain ⟨rfl, S, hr, hlk, hnm, A, hA, hE, M⟩ := genter B hml hv
  rw [hA]
  obtain ⟨ls, hfr, hl⟩ := gst (m := vm) (as := [.ref (ad 0), .int n, .int w]) (n := 4) (Nat.le_of_ble_eq_true rfl)
  rw [hfr]
  clear hfr hA
  have hl : lv_has ls 4 [(0, .ref (ad 0)), (1, .int n), (2, .int w)] := hl
  have M : gM E A s.heap [[(ad 0, .inr (8, [.ref (ad 1), .ref (ad 4), .ref (ad 15), .ref (ad 32), .ref (ad 33), .ref (ad 38), .ref (ad 41), .int z.mn, .int z.mk, .int z.mg, .int z.jp]))], tapW E ad z.tp, spuW E ad z.sp, surW E ad z.sg, sheW E ad z.sh, wisW E ad z.wi, linW E ad z.ln, arrW E ad z.ar] s.heap [] := M
  have hwi : ∀ w ∈ u_ws RX8 TX8 11, w ∈ wsX8_ofFrame := by decide +kernel
  refine lv_aload_n S.1 S.2.1 dX8_ofFrame_0 rfl (lv_at hl 0 rfl) ?_
  refine gget S hE M (C := RX8) (T := TX8) (N := 11) (ci := 8) (index := 21) hwi 0 rfl rfl 1 (by decide) (by decide +kernel) rfl dX8_ofFrame_1 ?_
  refine lv_iload_n S.1 S.2.1 dX8_ofFrame_4 rfl (lv_at hl 1 rfl) ?_
  refine gcalli (L := [[(ad 0, .inr (8, [.ref (ad 1), .ref (ad 4), .ref (ad 15), .ref (ad 32), .ref (ad 33), .ref (ad 38), .ref (ad 41), .int z.mn, .int z.mk, .int z.mg, .int z.jp]))], tapW E ad z.tp, spuW E ad z.sp, surW E ad z.sg, sheW E ad z.sh, wisW E ad z.wi, linW E ad z.ln]) (Mid := [arrW E ad z.ar]) (Rr := []) (Mid' := [arrW E ad z.ar]) hE M rfl (List.append_nil _) (List.append_nil _) (fun hp => va_runV (As := [.int n]) (rest := []) S (c_X0_placeOf l E ad z.ar n  _) (cwV 1 S.2.2.2.2 gX8_ofFrame_X0_placeOf rfl rfl rfl kd_X0_placeOf ⟨Nat.le_of_ble_eq_true rfl, Nat.le_of_ble_eq_true rfl⟩) (hp.V hE (show vwCl[0]? = some (RX0, TX0, 6) from rfl) rfl) rfl rfl hl.1 rfl (lv_room (Nat.le_of_ble_eq_true rfl)) dX8_ofFrame_5 ⟨Nat.zero_le _, Nat.zero_le _⟩) (fun H locs M => ?_)
  have M : gM E A s.heap [[(ad 0, .inr (8, [.ref (ad 1), .ref (ad 4), .ref (ad 15), .ref (ad 32), .ref (ad 33), .ref (ad 38), .ref (ad 41), .int z.mn, .int z.mk, .int z.mg, .int z.jp]))], tapW E ad z.tp, spuW E ad z.sp, surW E ad z.sg, sheW E ad z.sh, wisW E ad z.wi, linW E ad z.ln, arrW E ad z.ar] H locs := M
  refine lv_istore_n (lv' := [(3, .int (rg 300 z.ar.pa n - 1)), (0, .ref (ad 0)), (1, .int n), (2, .int w)]) S.1 S.2.1 dX8_ofFrame_8 rfl hl (by decide) rfl (fun ls hl => ?_)
  refine lv_iload_n S.1 S.2.1 dX8_ofFrame_9 rfl (lv_at hl 0 rfl) ?_
  refine lv_iconst (v := (-1)) S.1 S.2.1 dX8_ofFrame_10 (by decide) ?_
  refine lv_icmp_ne (tgt := 16) S.1 S.2.1 dX8_ofFrame_11 (by decide) (fun c11 => ?_) (fun c11 => ?_)
  ·
    refine lv_iload_n S.1 S.2.1 dX8_ofFrame_16 rfl (lv_at hl 3 rfl) ?_
    by_cases c17_0 : w = 0
    ·
      refine gtop (x' := 0) c17_0 ?_
      refine lv_tableIn (off := 35) (tgt := 52) S.1 S.2.1 dX8_ofFrame_17 (by decide) (by decide) rfl (by decide) ?_
      refine lv_aload_n S.1 S.2.1 dX8_ofFrame_52 rfl (lv_at hl 1 rfl) ?_
      refine gget S hE M (C := RX8) (T := TX8) (N := 11) (ci := 8) (index := 21) hwi 0 rfl rfl 1 (by decide) (by decide +kernel) rfl dX8_ofFrame_53 ?_
      refine lv_iload_n S.1 S.2.1 dX8_ofFrame_56 rfl (lv_at hl 0 rfl) ?_
      refine gcalli (L := [[(ad 0, .inr (8, [.ref (ad 1), .ref (ad 4), .ref (ad 15), .ref (ad 32), .ref (ad 33), .ref (ad 38), .ref (ad 41), .int z.mn, .int z.mk, .int z.mg, .int z.jp]))], tapW E ad z.tp, spuW E ad z.sp, surW E ad z.sg, sheW E ad z.sh, wisW E ad z.wi, linW E ad z.ln]) (Mid := [arrW E ad z.ar]) (Rr := []) (Mid' := [arrW E ad z.ar]) hE M rfl (List.append_nil _) (List.append_nil _) (fun hp => va_runV (As := [.int (rg 300 z.ar.pa n - 1)]) (rest := []) S (c_X0_whenAt l E ad z.ar (rg 300 z.ar.pa n - 1)  _) (cwV 1 S.2.2.2.2 gX8_ofFrame_X0_whenAt rfl rfl rfl kd_X0_whenAt ⟨Nat.le_of_ble_eq_true rfl, Nat.le_of_ble_eq_true rfl⟩) (hp.V hE (show vwCl[0]? = some (RX0, TX0, 6) from rfl) rfl) rfl rfl hl.1 rfl (lv_room (Nat.le_of_ble_eq_true rfl)) dX8_ofFrame_57 ⟨Nat.zero_le _, Nat.zero_le _⟩) (fun H locs M => ?_)
      have M : gM E A s.heap [[(ad 0, .inr (8, [.ref (ad 1), .ref (ad 4), .ref (ad 15), .ref (ad 32), .ref (ad 33), .ref (ad 38), .ref (ad 41), .int z.mn, .int z.mk, .int z.mg, .int z.jp]))], tapW E ad z.tp, spuW E ad z.sp, surW E ad z.sg, sheW E ad z.sh, wisW E ad z.wi, linW E ad z.ln, arrW E ad z.ar] H locs := M
      exact giret S hr hlk M (by unfold SpcS.ofFrame; rw [if_neg c11, if_pos c17_0]) (rfl) dX8_ofFrame_60
    by_cases c17_1 : w = 1
    ·
      refine gtop (x' := 1) c17_1 ?_
      refine lv_tableIn (off := 44) (tgt := 61) S.1 S.2.1 dX8_ofFrame_17 (by decide) (by decide) rfl (by decide) ?_
      refine lv_aload_n S.1 S.2.1 dX8_ofFrame_61 rfl (lv_at hl 1 rfl) ?_
      refine gget S hE M (C := RX8) (T := TX8) (N := 11) (ci := 8) (index := 21) hwi 0 rfl rfl 1 (by decide) (by decide +kernel) rfl dX8_ofFrame_62 ?_
      refine lv_iload_n S.1 S.2.1 dX8_ofFrame_65 rfl (lv_at hl 0 rfl) ?_
      refine gcalli (L := [[(ad 0, .inr (8, [.ref (ad 1), .ref (ad 4), .ref (ad 15), .ref (ad 32), .ref (ad 33), .ref (ad 38), .ref (ad 41), .int z.mn, .int z.mk, .int z.mg, .int z.jp]))], tapW E ad z.tp, spuW E ad z.sp, surW E ad z.sg, sheW E ad z.sh, wisW E ad z.wi, linW E ad z.ln]) (Mid := [arrW E ad z.ar]) (Rr := []) (Mid' := [arrW E ad z.ar]) hE M rfl (List.append_nil _) (List.append_nil _) (fun hp => va_runV (As := [.int (rg 300 z.ar.pa n - 1)]) (rest := []) S (c_X0_delayAt l E ad z.ar (rg 300 z.ar.pa n - 1)  _) (cwV 1 S.2.2.2.2 gX8_ofFrame_X0_delayAt rfl rfl rfl kd_X0_delayAt ⟨Nat.le_of_ble_eq_true rfl, Nat.le_of_ble_eq_true rfl⟩) (hp.V hE (show vwCl[0]? = some (RX0, TX0, 6) from rfl) rfl) rfl rfl hl.1 rfl (lv_room (Nat.le_of_ble_eq_true rfl)) dX8_ofFrame_66 ⟨Nat.zero_le _, Nat.zero_le _⟩) (fun H locs M => ?_)
      have M : gM E A s.heap [[(ad 0, .inr (8, [.ref (ad 1), .ref (ad 4), .ref (ad 15), .ref (ad 32), .ref (ad 33), .ref (ad 38), .ref (ad 41), .int z.mn, .int z.mk, .int z.mg, .int z.jp]))], tapW E ad z.tp, spuW E ad z.sp, surW E ad z.sg, sheW E ad z.sh, wisW E ad z.wi, linW E ad z.ln, arrW E ad z.ar] H locs := M
      refine lv_sipush (v := 10000) S.1 S.2.1 dX8_ofFrame_69 (by decide) ?_
      refine lv_iadd S.1 S.2.1 dX8_ofFrame_72 ?_
      exact giret S hr hlk M (by unfold SpcS.ofFrame; rw [if_neg c11, if_neg c17_0, if_pos c17_1]) (rfl) dX8_ofFrame_73
    by_cases c17_2 : w = 2
    ·
      refine gtop (x' := 2) c17_2 ?_
      refine lv_tableIn (off := 57) (tgt := 74) S.1 S.2.1 dX8_ofFrame_17 (by decide) (by decide) rfl (by decide) ?_
      refine lv_aload_n S.1 S.2.1 dX8_ofFrame_74 rfl (lv_at hl 1 rfl) ?_
      refine gget S hE M (C := RX8) (T := TX8) (N := 11) (ci := 8) (index := 21) hwi 0 rfl rfl 1 (by decide) (by decide +kernel) rfl dX8_ofFrame_75 ?_
      refine lv_iload_n S.1 S.2.1 dX8_ofFrame_78 rfl (lv_at hl 0 rfl) ?_
      refine gcalli (L := [[(ad 0, .inr (8, [.ref (ad 1), .ref (ad 4), .ref (ad 15), .ref (ad 32), .ref (ad 33), .ref (ad 38), .ref (ad 41), .int z.mn, .int z.mk, .int z.mg, .int z.jp]))], tapW E ad z.tp, spuW E ad z.sp, surW E ad z.sg, sheW E ad z.sh, wisW E ad z.wi, linW E ad z.ln]) (Mid := [arrW E ad z.ar]) (Rr := []) (Mid' := [arrW E ad z.ar]) hE M rfl (List.append_nil _) (List.append_nil _) (fun hp => va_runV (As := [.int (rg 300 z.ar.pa n - 1)]) (rest := []) S (c_X0_spurtAt l E ad z.ar (rg 300 z.ar.pa n - 1)  _) (cwV 1 S.2.2.2.2 gX8_ofFrame_X0_spurtAt rfl rfl rfl kd_X0_spurtAt ⟨Nat.le_of_ble_eq_true rfl, Nat.le_of_ble_eq_true rfl⟩) (hp.V hE (show vwCl[0]? = some (RX0, TX0, 6) from rfl) rfl) rfl rfl hl.1 rfl (lv_room (Nat.le_of_ble_eq_true rfl)) dX8_ofFrame_79 ⟨Nat.zero_le _, Nat.zero_le _⟩) (fun H locs M => ?_)
      have M : gM E A s.heap [[(ad 0, .inr (8, [.ref (ad 1), .ref (ad 4), .ref (ad 15), .ref (ad 32), .ref (ad 33), .ref (ad 38), .ref (ad 41), .int z.mn, .int z.mk, .int z.mg, .int z.jp]))], tapW E ad z.tp, spuW E ad z.sp, surW E ad z.sg, sheW E ad z.sh, wisW E ad z.wi, linW E ad z.ln, arrW E ad z.ar] H locs := M
      exact giret S hr hlk M (by unfold SpcS.ofFrame; rw [if_neg c11, if_neg c17_0, if_neg c17_1, if_pos c17_2]) (rfl) dX8_ofFrame_82
    by_cases c17_3 : w = 3
    ·
      refine gtop (x' := 3) c17_3 ?_
      refine lv_tableIn (off := 66) (tgt := 83) S.1 S.2.1 dX8_ofFrame_17 (by decide) (by decide) rfl (by decide) ?_
      refine lv_aload_n S.1 S.2.1 dX8_ofFrame_83 rfl (lv_at hl 1 rfl) ?_
      refine gget S hE M (C := RX8) (T := TX8) (N := 11) (ci := 8) (index := 21) hwi 0 rfl rfl 1 (by decide) (by decide +kernel) rfl dX8_ofFrame_84 ?_
      refine lv_iload_n S.1 S.2.1 dX8_ofFrame_87 rfl (lv_at hl 0 rfl) ?_
      refine gcalli (L := [[(ad 0, .inr (8, [.ref (ad 1), .ref (ad 4), .ref (ad 15), .ref (ad 32), .ref (ad 33), .ref (ad 38), .ref (ad 41), .int z.mn, .int z.mk, .int z.mg, .int z.jp]))], tapW E ad z.tp, spuW E ad z.sp, surW E ad z.sg, sheW E ad z.sh, wisW E ad z.wi, linW E ad z.ln]) (Mid := [arrW E ad z.ar]) (Rr := []) (Mid' := [arrW E ad z.ar]) hE M rfl (List.append_nil _) (List.append_nil _) (fun hp => va_runV (As := [.int (rg 300 z.ar.pa n - 1)]) (rest := []) S (c_X0_playedAt l E ad z.ar (rg 300 z.ar.pa n - 1)  _) (cwV 1 S.2.2.2.2 gX8_ofFrame_X0_playedAt rfl rfl rfl kd_X0_playedAt ⟨Nat.le_of_ble_eq_true rfl, Nat.le_of_ble_eq_true rfl⟩) (hp.V hE (show vwCl[0]? = some (RX0, TX0, 6) from rfl) rfl) rfl rfl hl.1 rfl (lv_room (Nat.le_of_ble_eq_true rfl)) dX8_ofFrame_88 ⟨Nat.zero_le _, Nat.zero_le _⟩) (fun H locs M => ?_)
      have M : gM E A s.heap [[(ad 0, .inr (8, [.ref (ad 1), .ref (ad 4), .ref (ad 15), .ref (ad 32), .ref (ad 33), .ref (ad 38), .ref (ad 41), .int z.mn, .int z.mk, .int z.mg, .int z.jp]))], tapW E ad z.tp, spuW E ad z.sp, surW E ad z.sg, sheW E ad z.sh, wisW E ad z.wi, linW E ad z.ln, arrW E ad z.ar] H locs := M
      exact giret S hr hlk M (by unfold SpcS.ofFrame; rw [if_neg c11, if_neg c17_0, if_neg c17_1, if_neg c17_2, if_pos c17_3]) (rfl) dX8_ofFrame_91
    by_cases c17_4 : w = 4
    ·
      refine gtop (x' := 4) c17_4 ?_
      refine lv_tableIn (off := 75) (tgt := 92) S.1 S.2.1 dX8_ofFrame_17 (by decide) (by decide) rfl (by decide) ?_
      refine lv_iload_n S.1 S.2.1 dX8_ofFrame_92 rfl (lv_at hl 0 rfl) ?_
      exact giret S hr hlk M (by unfold SpcS.ofFrame; rw [if_neg c11, if_neg c17_0, if_neg c17_1, if_neg c17_2, if_neg c17_3, if_pos c17_4]) (rfl) dX8_ofFrame_93
    refine lv_tableOut (tgt := 94) S.1 S.2.1 dX8_ofFrame_17 (by have hc17_0 := lv_neT c17_0 (a := 0) rfl; have hc17_1 := lv_neT c17_1 (a := 1) rfl; have hc17_2 := lv_neT c17_2 (a := 2) rfl; have hc17_3 := lv_neT c17_3 (a := 3) rfl; have hc17_4 := lv_neT c17_4 (a := 4) rfl; omega) (by decide) ?_
    refine lv_bipush (v := (-2)) S.1 S.2.1 dX8_ofFrame_94 (by decide) ?_
    exact giret S hr hlk M (by unfold SpcS.ofFrame; rw [if_neg c11, if_neg c17_0, if_neg c17_1, if_neg c17_2, if_neg c17_3, if_neg c17_4]) (rfl) dX8_ofFrame_96
  ·
    refine lv_iconst (v := (-1)) S.1 S.2.1 dX8_ofFrame_14 (by decide) ?_
    exact giret S hr hlk M (by unfold SpcS.ofFrame; rw [if_pos c11]) (rfl) dX8_ofFrame_15

set_option maxHeartbeats 4000000 in
set_option maxRecDepth 100000 in
theorem c_X8_ofSpurt (l : Launch) (E : xE) (ad : Nat → Nat) (z : SpcS) (k : Int32) (w : Int32) : mI l yX8_ofSpurt wsX8_ofSpurt (xrm 2 42) E [.ref (ad 0), .int k, .int w] (spcGs E ad z) (z.ofSpurt k w) (spcGs E ad z) := by
  intro sz
  refine Met.ofW (cc := cX8_ofSpurt) (maxL := 3) (ret := (some .int)) (by decide +kernel) rfl ?_
  intro vp ve s vm args below meth vc s₁ B hml hv
  obtain ⟨rfl, S, hr, hlk, hnm, A, hA, hE, M⟩ := genter B hml hv
  rw [hA]
  obtain ⟨ls, hfr, hl⟩ := gst (m := vm) (as := [.ref (ad 0), .int k, .int w]) (n := 3) (Nat.le_of_ble_eq_true rfl)
  rw [hfr]
  clear hfr hA
  have hl : lv_has ls 3 [(0, .ref (ad 0)), (1, .int k), (2, .int w)] := hl
  have M : gM E A s.heap [[(ad 0, .inr (8, [.ref (ad 1), .ref (ad 4), .ref (ad 15), .ref (ad 32), .ref (ad 33), .ref (ad 38), .ref (ad 41), .int z.mn, .int z.mk, .int z.mg, .int z.jp]))], tapW E ad z.tp, spuW E ad z.sp, surW E ad z.sg, sheW E ad z.sh, wisW E ad z.wi, linW E ad z.ln, arrW E ad z.ar] s.heap [] := M
  have hwi : ∀ w ∈ u_ws RX8 TX8 11, w ∈ wsX8_ofSpurt := by decide +kernel
  refine lv_iload_n S.1 S.2.1 dX8_ofSpurt_0 rfl (lv_at hl 1 rfl) ?_
  refine lv_iconst (v := 0) S.1 S.2.1 dX8_ofSpurt_1 (by decide) ?_
  refine lv_aload_n S.1 S.2.1 dX8_ofSpurt_2 rfl (lv_at hl 0 rfl) ?_
  refine gget S hE M (C := RX8) (T := TX8) (N := 11) (ci := 8) (index := 28) hwi 0 rfl rfl 2 (by decide) (by decide +kernel) rfl dX8_ofSpurt_3 ?_
  refine gcalli (L := [[(ad 0, .inr (8, [.ref (ad 1), .ref (ad 4), .ref (ad 15), .ref (ad 32), .ref (ad 33), .ref (ad 38), .ref (ad 41), .int z.mn, .int z.mk, .int z.mg, .int z.jp]))], tapW E ad z.tp]) (Mid := [spuW E ad z.sp]) (Rr := [surW E ad z.sg, sheW E ad z.sh, wisW E ad z.wi, linW E ad z.ln, arrW E ad z.ar]) (Mid' := [spuW E ad z.sp]) hE M rfl (List.append_nil _) (List.append_nil _) (fun hp => va_runV (As := []) (rest := [.int 0, .int k]) S (c_X4_count l E ad z.sp   _) (cwV 0 S.2.2.2.2 gX8_ofSpurt_X4_count rfl rfl rfl kd_X4_count ⟨Nat.le_of_ble_eq_true rfl, Nat.le_of_ble_eq_true rfl⟩) (hp.V hE (show vwCl[4]? = some (RX4, TX4, 9) from rfl) rfl) rfl rfl hl.1 rfl (lv_room (Nat.le_of_ble_eq_true rfl)) dX8_ofSpurt_6 ⟨Nat.zero_le _, Nat.zero_le _⟩) (fun H locs M => ?_)
  have M : gM E A s.heap [[(ad 0, .inr (8, [.ref (ad 1), .ref (ad 4), .ref (ad 15), .ref (ad 32), .ref (ad 33), .ref (ad 38), .ref (ad 41), .int z.mn, .int z.mk, .int z.mg, .int z.jp]))], tapW E ad z.tp, spuW E ad z.sp, surW E ad z.sg, sheW E ad z.sh, wisW E ad z.wi, linW E ad z.ln, arrW E ad z.ar] H locs := M
  refine lv_iconst (v := 1) S.1 S.2.1 dX8_ofSpurt_9 (by decide) ?_
  refine lv_isub S.1 S.2.1 dX8_ofSpurt_10 ?_
  refine gcalli (L := []) (Mid := []) (Rr := [[(ad 0, .inr (8, [.ref (ad 1), .ref (ad 4), .ref (ad 15), .ref (ad 32), .ref (ad 33), .ref (ad 38), .ref (ad 41), .int z.mn, .int z.mk, .int z.mg, .int z.jp]))], tapW E ad z.tp, spuW E ad z.sp, surW E ad z.sg, sheW E ad z.sh, wisW E ad z.wi, linW E ad z.ln, arrW E ad z.ar]) (Mid' := []) hE M rfl (rfl) (rfl) (fun hp => va_runS (As := [.int k, .int 0, .int ((nI z.sp.ct) - 1)]) (rest := []) S (c_X8_isOutside l E k 0 ((nI z.sp.ct) - 1) _) (va_cwS 3 S.2.2.2.2 gX8_ofSpurt_X8_isOutside rfl rfl rfl kd_X8_isOutside.2 ⟨Nat.le_of_ble_eq_true rfl, Nat.le_of_ble_eq_true rfl⟩) hp.S rfl rfl hl.1 rfl (lv_room (Nat.le_of_ble_eq_true rfl)) dX8_ofSpurt_11 ⟨Nat.zero_le _, Nat.zero_le _⟩) (fun H locs M => ?_)
  have M : gM E A s.heap [[(ad 0, .inr (8, [.ref (ad 1), .ref (ad 4), .ref (ad 15), .ref (ad 32), .ref (ad 33), .ref (ad 38), .ref (ad 41), .int z.mn, .int z.mk, .int z.mg, .int z.jp]))], tapW E ad z.tp, spuW E ad z.sp, surW E ad z.sg, sheW E ad z.sh, wisW E ad z.wi, linW E ad z.ln, arrW E ad z.ar] H locs := M
  refine lv_if_eq (tgt := 19) S.1 S.2.1 dX8_ofSpurt_14 (by decide) (fun c14 => ?_) (fun c14 => ?_)
  ·
    refine lv_iload_n S.1 S.2.1 dX8_ofSpurt_19 rfl (lv_at hl 2 rfl) ?_
    by_cases c20_0 : w = 0
    ·
      refine gtop (x' := 0) c20_0 ?_
      refine lv_tableIn (off := 52) (tgt := 72) S.1 S.2.1 dX8_ofSpurt_20 (by decide) (by decide) rfl (by decide) ?_
      refine lv_aload_n S.1 S.2.1 dX8_ofSpurt_72 rfl (lv_at hl 0 rfl) ?_
      refine gget S hE M (C := RX8) (T := TX8) (N := 11) (ci := 8) (index := 28) hwi 0 rfl rfl 2 (by decide) (by decide +kernel) rfl dX8_ofSpurt_73 ?_
      refine lv_iload_n S.1 S.2.1 dX8_ofSpurt_76 rfl (lv_at hl 1 rfl) ?_
      refine gcalli (L := [[(ad 0, .inr (8, [.ref (ad 1), .ref (ad 4), .ref (ad 15), .ref (ad 32), .ref (ad 33), .ref (ad 38), .ref (ad 41), .int z.mn, .int z.mk, .int z.mg, .int z.jp]))], tapW E ad z.tp]) (Mid := [spuW E ad z.sp]) (Rr := [surW E ad z.sg, sheW E ad z.sh, wisW E ad z.wi, linW E ad z.ln, arrW E ad z.ar]) (Mid' := [spuW E ad z.sp]) hE M rfl (List.append_nil _) (List.append_nil _) (fun hp => va_runV (As := [.int k]) (rest := []) S (c_X4_headOf l E ad z.sp k  _) (cwV 1 S.2.2.2.2 gX8_ofSpurt_X4_headOf rfl rfl rfl kd_X4_headOf ⟨Nat.le_of_ble_eq_true rfl, Nat.le_of_ble_eq_true rfl⟩) (hp.V hE (show vwCl[4]? = some (RX4, TX4, 9) from rfl) rfl) rfl rfl hl.1 rfl (lv_room (Nat.le_of_ble_eq_true rfl)) dX8_ofSpurt_77 ⟨Nat.zero_le _, Nat.zero_le _⟩) (fun H locs M => ?_)
      have M : gM E A s.heap [[(ad 0, .inr (8, [.ref (ad 1), .ref (ad 4), .ref (ad 15), .ref (ad 32), .ref (ad 33), .ref (ad 38), .ref (ad 41), .int z.mn, .int z.mk, .int z.mg, .int z.jp]))], tapW E ad z.tp, spuW E ad z.sp, surW E ad z.sg, sheW E ad z.sh, wisW E ad z.wi, linW E ad z.ln, arrW E ad z.ar] H locs := M
      exact giret S hr hlk M (by unfold SpcS.ofSpurt; rw [if_pos c14, if_pos c20_0]) (rfl) dX8_ofSpurt_80
    by_cases c20_1 : w = 1
    ·
      refine gtop (x' := 1) c20_1 ?_
      refine lv_tableIn (off := 61) (tgt := 81) S.1 S.2.1 dX8_ofSpurt_20 (by decide) (by decide) rfl (by decide) ?_
      refine lv_aload_n S.1 S.2.1 dX8_ofSpurt_81 rfl (lv_at hl 0 rfl) ?_
      refine gget S hE M (C := RX8) (T := TX8) (N := 11) (ci := 8) (index := 28) hwi 0 rfl rfl 2 (by decide) (by decide +kernel) rfl dX8_ofSpurt_82 ?_
      refine lv_iload_n S.1 S.2.1 dX8_ofSpurt_85 rfl (lv_at hl 1 rfl) ?_
      refine gcalli (L := [[(ad 0, .inr (8, [.ref (ad 1), .ref (ad 4), .ref (ad 15), .ref (ad 32), .ref (ad 33), .ref (ad 38), .ref (ad 41), .int z.mn, .int z.mk, .int z.mg, .int z.jp]))], tapW E ad z.tp]) (Mid := [spuW E ad z.sp]) (Rr := [surW E ad z.sg, sheW E ad z.sh, wisW E ad z.wi, linW E ad z.ln, arrW E ad z.ar]) (Mid' := [spuW E ad z.sp]) hE M rfl (List.append_nil _) (List.append_nil _) (fun hp => va_runV (As := [.int k]) (rest := []) S (c_X4_pauseOf l E ad z.sp k  _) (cwV 1 S.2.2.2.2 gX8_ofSpurt_X4_pauseOf rfl rfl rfl kd_X4_pauseOf ⟨Nat.le_of_ble_eq_true rfl, Nat.le_of_ble_eq_true rfl⟩) (hp.V hE (show vwCl[4]? = some (RX4, TX4, 9) from rfl) rfl) rfl rfl hl.1 rfl (lv_room (Nat.le_of_ble_eq_true rfl)) dX8_ofSpurt_86 ⟨Nat.zero_le _, Nat.zero_le _⟩) (fun H locs M => ?_)
      have M : gM E A s.heap [[(ad 0, .inr (8, [.ref (ad 1), .ref (ad 4), .ref (ad 15), .ref (ad 32), .ref (ad 33), .ref (ad 38), .ref (ad 41), .int z.mn, .int z.mk, .int z.mg, .int z.jp]))], tapW E ad z.tp, spuW E ad z.sp, surW E ad z.sg, sheW E ad z.sh, wisW E ad z.wi, linW E ad z.ln, arrW E ad z.ar] H locs := M
      exact giret S hr hlk M (by unfold SpcS.ofSpurt; rw [if_pos c14, if_neg c20_0, if_pos c20_1]) (rfl) dX8_ofSpurt_89
    by_cases c20_2 : w = 2
    ·
      refine gtop (x' := 2) c20_2 ?_
      refine lv_tableIn (off := 70) (tgt := 90) S.1 S.2.1 dX8_ofSpurt_20 (by decide) (by decide) rfl (by decide) ?_
      refine lv_aload_n S.1 S.2.1 dX8_ofSpurt_90 rfl (lv_at hl 0 rfl) ?_
      refine gget S hE M (C := RX8) (T := TX8) (N := 11) (ci := 8) (index := 28) hwi 0 rfl rfl 2 (by decide) (by decide +kernel) rfl dX8_ofSpurt_91 ?_
      refine lv_iload_n S.1 S.2.1 dX8_ofSpurt_94 rfl (lv_at hl 1 rfl) ?_
      refine gcalli (L := [[(ad 0, .inr (8, [.ref (ad 1), .ref (ad 4), .ref (ad 15), .ref (ad 32), .ref (ad 33), .ref (ad 38), .ref (ad 41), .int z.mn, .int z.mk, .int z.mg, .int z.jp]))], tapW E ad z.tp]) (Mid := [spuW E ad z.sp]) (Rr := [surW E ad z.sg, sheW E ad z.sh, wisW E ad z.wi, linW E ad z.ln, arrW E ad z.ar]) (Mid' := [spuW E ad z.sp]) hE M rfl (List.append_nil _) (List.append_nil _) (fun hp => va_runV (As := [.int k]) (rest := []) S (c_X4_timeOf l E ad z.sp k  _) (cwV 1 S.2.2.2.2 gX8_ofSpurt_X4_timeOf rfl rfl rfl kd_X4_timeOf ⟨Nat.le_of_ble_eq_true rfl, Nat.le_of_ble_eq_true rfl⟩) (hp.V hE (show vwCl[4]? = some (RX4, TX4, 9) from rfl) rfl) rfl rfl hl.1 rfl (lv_room (Nat.le_of_ble_eq_true rfl)) dX8_ofSpurt_95 ⟨Nat.zero_le _, Nat.zero_le _⟩) (fun H locs M => ?_)
      have M : gM E A s.heap [[(ad 0, .inr (8, [.ref (ad 1), .ref (ad 4), .ref (ad 15), .ref (ad 32), .ref (ad 33), .ref (ad 38), .ref (ad 41), .int z.mn, .int z.mk, .int z.mg, .int z.jp]))], tapW E ad z.tp, spuW E ad z.sp, surW E ad z.sg, sheW E ad z.sh, wisW E ad z.wi, linW E ad z.ln, arrW E ad z.ar] H locs := M
      refine lv_sipush (v := 10000) S.1 S.2.1 dX8_ofSpurt_98 (by decide) ?_
      refine lv_iadd S.1 S.2.1 dX8_ofSpurt_101 ?_
      exact giret S hr hlk M (by unfold SpcS.ofSpurt; rw [if_pos c14, if_neg c20_0, if_neg c20_1, if_pos c20_2]) (rfl) dX8_ofSpurt_102
    by_cases c20_3 : w = 3
    ·
      refine gtop (x' := 3) c20_3 ?_
      refine lv_tableIn (off := 83) (tgt := 103) S.1 S.2.1 dX8_ofSpurt_20 (by decide) (by decide) rfl (by decide) ?_
      refine lv_aload_n S.1 S.2.1 dX8_ofSpurt_103 rfl (lv_at hl 0 rfl) ?_
      refine gget S hE M (C := RX8) (T := TX8) (N := 11) (ci := 8) (index := 28) hwi 0 rfl rfl 2 (by decide) (by decide +kernel) rfl dX8_ofSpurt_104 ?_
      refine lv_iload_n S.1 S.2.1 dX8_ofSpurt_107 rfl (lv_at hl 1 rfl) ?_
      refine gcalli (L := [[(ad 0, .inr (8, [.ref (ad 1), .ref (ad 4), .ref (ad 15), .ref (ad 32), .ref (ad 33), .ref (ad 38), .ref (ad 41), .int z.mn, .int z.mk, .int z.mg, .int z.jp]))], tapW E ad z.tp]) (Mid := [spuW E ad z.sp]) (Rr := [surW E ad z.sg, sheW E ad z.sh, wisW E ad z.wi, linW E ad z.ln, arrW E ad z.ar]) (Mid' := [spuW E ad z.sp]) hE M rfl (List.append_nil _) (List.append_nil _) (fun hp => va_runV (As := [.int k]) (rest := []) S (c_X4_cameOf l E ad z.sp k  _) (cwV 1 S.2.2.2.2 gX8_ofSpurt_X4_cameOf rfl rfl rfl kd_X4_cameOf ⟨Nat.le_of_ble_eq_true rfl, Nat.le_of_ble_eq_true rfl⟩) (hp.V hE (show vwCl[4]? = some (RX4, TX4, 9) from rfl) rfl) rfl rfl hl.1 rfl (lv_room (Nat.le_of_ble_eq_true rfl)) dX8_ofSpurt_108 ⟨Nat.zero_le _, Nat.zero_le _⟩) (fun H locs M => ?_)
      have M : gM E A s.heap [[(ad 0, .inr (8, [.ref (ad 1), .ref (ad 4), .ref (ad 15), .ref (ad 32), .ref (ad 33), .ref (ad 38), .ref (ad 41), .int z.mn, .int z.mk, .int z.mg, .int z.jp]))], tapW E ad z.tp, spuW E ad z.sp, surW E ad z.sg, sheW E ad z.sh, wisW E ad z.wi, linW E ad z.ln, arrW E ad z.ar] H locs := M
      exact giret S hr hlk M (by unfold SpcS.ofSpurt; rw [if_pos c14, if_neg c20_0, if_neg c20_1, if_neg c20_2, if_pos c20_3]) (rfl) dX8_ofSpurt_111
    by_cases c20_4 : w = 4
    ·
      refine gtop (x' := 4) c20_4 ?_
      refine lv_tableIn (off := 92) (tgt := 112) S.1 S.2.1 dX8_ofSpurt_20 (by decide) (by decide) rfl (by decide) ?_
      refine lv_aload_n S.1 S.2.1 dX8_ofSpurt_112 rfl (lv_at hl 0 rfl) ?_
      refine gget S hE M (C := RX8) (T := TX8) (N := 11) (ci := 8) (index := 28) hwi 0 rfl rfl 2 (by decide) (by decide +kernel) rfl dX8_ofSpurt_113 ?_
      refine lv_iload_n S.1 S.2.1 dX8_ofSpurt_116 rfl (lv_at hl 1 rfl) ?_
      refine gcalli (L := [[(ad 0, .inr (8, [.ref (ad 1), .ref (ad 4), .ref (ad 15), .ref (ad 32), .ref (ad 33), .ref (ad 38), .ref (ad 41), .int z.mn, .int z.mk, .int z.mg, .int z.jp]))], tapW E ad z.tp]) (Mid := [spuW E ad z.sp]) (Rr := [surW E ad z.sg, sheW E ad z.sh, wisW E ad z.wi, linW E ad z.ln, arrW E ad z.ar]) (Mid' := [spuW E ad z.sp]) hE M rfl (List.append_nil _) (List.append_nil _) (fun hp => va_runV (As := [.int k]) (rest := []) S (c_X4_playedOf l E ad z.sp k  _) (cwV 1 S.2.2.2.2 gX8_ofSpurt_X4_playedOf rfl rfl rfl kd_X4_playedOf ⟨Nat.le_of_ble_eq_true rfl, Nat.le_of_ble_eq_true rfl⟩) (hp.V hE (show vwCl[4]? = some (RX4, TX4, 9) from rfl) rfl) rfl rfl hl.1 rfl (lv_room (Nat.le_of_ble_eq_true rfl)) dX8_ofSpurt_117 ⟨Nat.zero_le _, Nat.zero_le _⟩) (fun H locs M => ?_)
      have M : gM E A s.heap [[(ad 0, .inr (8, [.ref (ad 1), .ref (ad 4), .ref (ad 15), .ref (ad 32), .ref (ad 33), .ref (ad 38), .ref (ad 41), .int z.mn, .int z.mk, .int z.mg, .int z.jp]))], tapW E ad z.tp, spuW E ad z.sp, surW E ad z.sg, sheW E ad z.sh, wisW E ad z.wi, linW E ad z.ln, arrW E ad z.ar] H locs := M
      exact giret S hr hlk M (by unfold SpcS.ofSpurt; rw [if_pos c14, if_neg c20_0, if_neg c20_1, if_neg c20_2, if_neg c20_3, if_pos c20_4]) (rfl) dX8_ofSpurt_120
    by_cases c20_5 : w = 5
    ·
      refine gtop (x' := 5) c20_5 ?_
      refine lv_tableIn (off := 101) (tgt := 121) S.1 S.2.1 dX8_ofSpurt_20 (by decide) (by decide) rfl (by decide) ?_
      refine lv_aload_n S.1 S.2.1 dX8_ofSpurt_121 rfl (lv_at hl 0 rfl) ?_
      refine gget S hE M (C := RX8) (T := TX8) (N := 11) (ci := 8) (index := 28) hwi 0 rfl rfl 2 (by decide) (by decide +kernel) rfl dX8_ofSpurt_122 ?_
      refine lv_iload_n S.1 S.2.1 dX8_ofSpurt_125 rfl (lv_at hl 1 rfl) ?_
      refine gcalli (L := [[(ad 0, .inr (8, [.ref (ad 1), .ref (ad 4), .ref (ad 15), .ref (ad 32), .ref (ad 33), .ref (ad 38), .ref (ad 41), .int z.mn, .int z.mk, .int z.mg, .int z.jp]))], tapW E ad z.tp]) (Mid := [spuW E ad z.sp]) (Rr := [surW E ad z.sg, sheW E ad z.sh, wisW E ad z.wi, linW E ad z.ln, arrW E ad z.ar]) (Mid' := [spuW E ad z.sp]) hE M rfl (List.append_nil _) (List.append_nil _) (fun hp => va_runV (As := [.int k]) (rest := []) S (c_X4_cameOf l E ad z.sp k  _) (cwV 1 S.2.2.2.2 gX8_ofSpurt_X4_cameOf rfl rfl rfl kd_X4_cameOf ⟨Nat.le_of_ble_eq_true rfl, Nat.le_of_ble_eq_true rfl⟩) (hp.V hE (show vwCl[4]? = some (RX4, TX4, 9) from rfl) rfl) rfl rfl hl.1 rfl (lv_room (Nat.le_of_ble_eq_true rfl)) dX8_ofSpurt_126 ⟨Nat.zero_le _, Nat.zero_le _⟩) (fun H locs M => ?_)
      have M : gM E A s.heap [[(ad 0, .inr (8, [.ref (ad 1), .ref (ad 4), .ref (ad 15), .ref (ad 32), .ref (ad 33), .ref (ad 38), .ref (ad 41), .int z.mn, .int z.mk, .int z.mg, .int z.jp]))], tapW E ad z.tp, spuW E ad z.sp, surW E ad z.sg, sheW E ad z.sh, wisW E ad z.wi, linW E ad z.ln, arrW E ad z.ar] H locs := M
      refine lv_aload_n S.1 S.2.1 dX8_ofSpurt_129 rfl (lv_at hl 0 rfl) ?_
      refine gget S hE M (C := RX8) (T := TX8) (N := 11) (ci := 8) (index := 28) hwi 0 rfl rfl 2 (by decide) (by decide +kernel) rfl dX8_ofSpurt_130 ?_
      refine lv_iload_n S.1 S.2.1 dX8_ofSpurt_133 rfl (lv_at hl 1 rfl) ?_
      refine gcalli (L := [[(ad 0, .inr (8, [.ref (ad 1), .ref (ad 4), .ref (ad 15), .ref (ad 32), .ref (ad 33), .ref (ad 38), .ref (ad 41), .int z.mn, .int z.mk, .int z.mg, .int z.jp]))], tapW E ad z.tp]) (Mid := [spuW E ad z.sp]) (Rr := [surW E ad z.sg, sheW E ad z.sh, wisW E ad z.wi, linW E ad z.ln, arrW E ad z.ar]) (Mid' := [spuW E ad z.sp]) hE M rfl (List.append_nil _) (List.append_nil _) (fun hp => va_runV (As := [.int k]) (rest := [.int (rg 120 z.sp.cm k)]) S (c_X4_playedOf l E ad z.sp k  _) (cwV 1 S.2.2.2.2 gX8_ofSpurt_X4_playedOf rfl rfl rfl kd_X4_playedOf ⟨Nat.le_of_ble_eq_true rfl, Nat.le_of_ble_eq_true rfl⟩) (hp.V hE (show vwCl[4]? = some (RX4, TX4, 9) from rfl) rfl) rfl rfl hl.1 rfl (lv_room (Nat.le_of_ble_eq_true rfl)) dX8_ofSpurt_134 ⟨Nat.zero_le _, Nat.zero_le _⟩) (fun H locs M => ?_)
      have M : gM E A s.heap [[(ad 0, .inr (8, [.ref (ad 1), .ref (ad 4), .ref (ad 15), .ref (ad 32), .ref (ad 33), .ref (ad 38), .ref (ad 41), .int z.mn, .int z.mk, .int z.mg, .int z.jp]))], tapW E ad z.tp, spuW E ad z.sp, surW E ad z.sg, sheW E ad z.sh, wisW E ad z.wi, linW E ad z.ln, arrW E ad z.ar] H locs := M
      refine lv_isub S.1 S.2.1 dX8_ofSpurt_137 ?_
      exact giret S hr hlk M (by unfold SpcS.ofSpurt; rw [if_pos c14, if_neg c20_0, if_neg c20_1, if_neg c20_2, if_neg c20_3, if_neg c20_4, if_pos c20_5]) (rfl) dX8_ofSpurt_138
    by_cases c20_6 : w = 6
    ·
      refine gtop (x' := 6) c20_6 ?_
      refine lv_tableIn (off := 119) (tgt := 139) S.1 S.2.1 dX8_ofSpurt_20 (by decide) (by decide) rfl (by decide) ?_
      refine lv_aload_n S.1 S.2.1 dX8_ofSpurt_139 rfl (lv_at hl 0 rfl) ?_
      refine gget S hE M (C := RX8) (T := TX8) (N := 11) (ci := 8) (index := 28) hwi 0 rfl rfl 2 (by decide) (by decide +kernel) rfl dX8_ofSpurt_140 ?_
      refine lv_iload_n S.1 S.2.1 dX8_ofSpurt_143 rfl (lv_at hl 1 rfl) ?_
      refine gcalli (L := [[(ad 0, .inr (8, [.ref (ad 1), .ref (ad 4), .ref (ad 15), .ref (ad 32), .ref (ad 33), .ref (ad 38), .ref (ad 41), .int z.mn, .int z.mk, .int z.mg, .int z.jp]))], tapW E ad z.tp]) (Mid := [spuW E ad z.sp]) (Rr := [surW E ad z.sg, sheW E ad z.sh, wisW E ad z.wi, linW E ad z.ln, arrW E ad z.ar]) (Mid' := [spuW E ad z.sp]) hE M rfl (List.append_nil _) (List.append_nil _) (fun hp => va_runV (As := [.int k]) (rest := []) S (c_X4_missingOf l E ad z.sp k  _) (cwV 1 S.2.2.2.2 gX8_ofSpurt_X4_missingOf rfl rfl rfl kd_X4_missingOf ⟨Nat.le_of_ble_eq_true rfl, Nat.le_of_ble_eq_true rfl⟩) (hp.V hE (show vwCl[4]? = some (RX4, TX4, 9) from rfl) rfl) rfl rfl hl.1 rfl (lv_room (Nat.le_of_ble_eq_true rfl)) dX8_ofSpurt_144 ⟨Nat.zero_le _, Nat.zero_le _⟩) (fun H locs M => ?_)
      have M : gM E A s.heap [[(ad 0, .inr (8, [.ref (ad 1), .ref (ad 4), .ref (ad 15), .ref (ad 32), .ref (ad 33), .ref (ad 38), .ref (ad 41), .int z.mn, .int z.mk, .int z.mg, .int z.jp]))], tapW E ad z.tp, spuW E ad z.sp, surW E ad z.sg, sheW E ad z.sh, wisW E ad z.wi, linW E ad z.ln, arrW E ad z.ar] H locs := M
      exact giret S hr hlk M (by unfold SpcS.ofSpurt; rw [if_pos c14, if_neg c20_0, if_neg c20_1, if_neg c20_2, if_neg c20_3, if_neg c20_4, if_neg c20_5, if_pos c20_6]) (rfl) dX8_ofSpurt_147
    by_cases c20_7 : w = 7
    ·
      refine gtop (x' := 7) c20_7 ?_
      refine lv_tableIn (off := 128) (tgt := 148) S.1 S.2.1 dX8_ofSpurt_20 (by decide) (by decide) rfl (by decide) ?_
      refine lv_aload_n S.1 S.2.1 dX8_ofSpurt_148 rfl (lv_at hl 0 rfl) ?_
      refine gget S hE M (C := RX8) (T := TX8) (N := 11) (ci := 8) (index := 28) hwi 0 rfl rfl 2 (by decide) (by decide +kernel) rfl dX8_ofSpurt_149 ?_
      refine lv_iload_n S.1 S.2.1 dX8_ofSpurt_152 rfl (lv_at hl 1 rfl) ?_
      refine gcalli (L := [[(ad 0, .inr (8, [.ref (ad 1), .ref (ad 4), .ref (ad 15), .ref (ad 32), .ref (ad 33), .ref (ad 38), .ref (ad 41), .int z.mn, .int z.mk, .int z.mg, .int z.jp]))], tapW E ad z.tp]) (Mid := [spuW E ad z.sp]) (Rr := [surW E ad z.sg, sheW E ad z.sh, wisW E ad z.wi, linW E ad z.ln, arrW E ad z.ar]) (Mid' := [spuW E ad z.sp]) hE M rfl (List.append_nil _) (List.append_nil _) (fun hp => va_runV (As := [.int k]) (rest := []) S (c_X4_greatestOf l E ad z.sp k  _) (cwV 1 S.2.2.2.2 gX8_ofSpurt_X4_greatestOf rfl rfl rfl kd_X4_greatestOf ⟨Nat.le_of_ble_eq_true rfl, Nat.le_of_ble_eq_true rfl⟩) (hp.V hE (show vwCl[4]? = some (RX4, TX4, 9) from rfl) rfl) rfl rfl hl.1 rfl (lv_room (Nat.le_of_ble_eq_true rfl)) dX8_ofSpurt_153 ⟨Nat.zero_le _, Nat.zero_le _⟩) (fun H locs M => ?_)
      have M : gM E A s.heap [[(ad 0, .inr (8, [.ref (ad 1), .ref (ad 4), .ref (ad 15), .ref (ad 32), .ref (ad 33), .ref (ad 38), .ref (ad 41), .int z.mn, .int z.mk, .int z.mg, .int z.jp]))], tapW E ad z.tp, spuW E ad z.sp, surW E ad z.sg, sheW E ad z.sh, wisW E ad z.wi, linW E ad z.ln, arrW E ad z.ar] H locs := M
      exact giret S hr hlk M (by unfold SpcS.ofSpurt; rw [if_pos c14, if_neg c20_0, if_neg c20_1, if_neg c20_2, if_neg c20_3, if_neg c20_4, if_neg c20_5, if_neg c20_6, if_pos c20_7]) (rfl) dX8_ofSpurt_156
    by_cases c20_8 : w = 8
    ·
      refine gtop (x' := 8) c20_8 ?_
      refine lv_tableIn (off := 137) (tgt := 157) S.1 S.2.1 dX8_ofSpurt_20 (by decide) (by decide) rfl (by decide) ?_
      refine lv_aload_n S.1 S.2.1 dX8_ofSpurt_157 rfl (lv_at hl 0 rfl) ?_
      refine gget S hE M (C := RX8) (T := TX8) (N := 11) (ci := 8) (index := 28) hwi 0 rfl rfl 2 (by decide) (by decide +kernel) rfl dX8_ofSpurt_158 ?_
      refine lv_iload_n S.1 S.2.1 dX8_ofSpurt_161 rfl (lv_at hl 1 rfl) ?_
      refine gcalli (L := [[(ad 0, .inr (8, [.ref (ad 1), .ref (ad 4), .ref (ad 15), .ref (ad 32), .ref (ad 33), .ref (ad 38), .ref (ad 41), .int z.mn, .int z.mk, .int z.mg, .int z.jp]))], tapW E ad z.tp]) (Mid := [spuW E ad z.sp]) (Rr := [surW E ad z.sg, sheW E ad z.sh, wisW E ad z.wi, linW E ad z.ln, arrW E ad z.ar]) (Mid' := [spuW E ad z.sp]) hE M rfl (List.append_nil _) (List.append_nil _) (fun hp => va_runV (As := [.int k]) (rest := []) S (c_X4_mannerOf l E ad z.sp k  _) (cwV 1 S.2.2.2.2 gX8_ofSpurt_X4_mannerOf rfl rfl rfl kd_X4_mannerOf ⟨Nat.le_of_ble_eq_true rfl, Nat.le_of_ble_eq_true rfl⟩) (hp.V hE (show vwCl[4]? = some (RX4, TX4, 9) from rfl) rfl) rfl rfl hl.1 rfl (lv_room (Nat.le_of_ble_eq_true rfl)) dX8_ofSpurt_162 ⟨Nat.zero_le _, Nat.zero_le _⟩) (fun H locs M => ?_)
      have M : gM E A s.heap [[(ad 0, .inr (8, [.ref (ad 1), .ref (ad 4), .ref (ad 15), .ref (ad 32), .ref (ad 33), .ref (ad 38), .ref (ad 41), .int z.mn, .int z.mk, .int z.mg, .int z.jp]))], tapW E ad z.tp, spuW E ad z.sp, surW E ad z.sg, sheW E ad z.sh, wisW E ad z.wi, linW E ad z.ln, arrW E ad z.ar] H locs := M
      exact giret S hr hlk M (by unfold SpcS.ofSpurt; rw [if_pos c14, if_neg c20_0, if_neg c20_1, if_neg c20_2, if_neg c20_3, if_neg c20_4, if_neg c20_5, if_neg c20_6, if_neg c20_7, if_pos c20_8]) (rfl) dX8_ofSpurt_165
    refine lv_tableOut (tgt := 166) S.1 S.2.1 dX8_ofSpurt_20 (by have hc20_0 := lv_neT c20_0 (a := 0) rfl; have hc20_1 := lv_neT c20_1 (a := 1) rfl; have hc20_2 := lv_neT c20_2 (a := 2) rfl; have hc20_3 := lv_neT c20_3 (a := 3) rfl; have hc20_4 := lv_neT c20_4 (a := 4) rfl; have hc20_5 := lv_neT c20_5 (a := 5) rfl; have hc20_6 := lv_neT c20_6 (a := 6) rfl; have hc20_7 := lv_neT c20_7 (a := 7) rfl; have hc20_8 := lv_neT c20_8 (a := 8) rfl; omega) (by decide) ?_
    refine lv_bipush (v := (-2)) S.1 S.2.1 dX8_ofSpurt_166 (by decide) ?_
    exact giret S hr hlk M (by unfold SpcS.ofSpurt; rw [if_pos c14, if_neg c20_0, if_neg c20_1, if_neg c20_2, if_neg c20_3, if_neg c20_4, if_neg c20_5, if_neg c20_6, if_neg c20_7, if_neg c20_8]) (rfl) dX8_ofSpurt_168
  ·
    refine lv_iconst (v := (-1)) S.1 S.2.1 dX8_ofSpurt_17 (by decide) ?_
    exact giret S hr hlk M (by unfold SpcS.ofSpurt; rw [if_neg c14]) (rfl) dX8_ofSpurt_18

set_option maxHeartbeats 4000000 in
set_option maxRecDepth 100000 in
theorem c_X8_inOrder (l : Launch) (E : xE) (ad : Nat → Nat) (z : SpcS) (k : Int32) : mI l yX8_inOrder wsX8_inOrder (xrm 2 42) E [.ref (ad 0), .int k] (spcGs E ad z) (z.inOrder k) (spcGs E ad z) := by
  intro sz
  refine Met.ofW (cc := cX8_inOrder) (maxL := 2) (ret := (some .int)) (by decide +kernel) rfl ?_
  intro vp ve s vm args below meth vc s₁ B hml hv
  obtain ⟨rfl, S, hr, hlk, hnm, A, hA, hE, M⟩ := genter B hml hv
  rw [hA]
  obtain ⟨ls, hfr, hl⟩ := gst (m := vm) (as := [.ref (ad 0), .int k]) (n := 2) (Nat.le_of_ble_eq_true rfl)
  rw [hfr]
  clear hfr hA
  have hl : lv_has ls 2 [(0, .ref (ad 0)), (1, .int k)] := hl
  have M : gM E A s.heap [[(ad 0, .inr (8, [.ref (ad 1), .ref (ad 4), .ref (ad 15), .ref (ad 32), .ref (ad 33), .ref (ad 38), .ref (ad 41), .int z.mn, .int z.mk, .int z.mg, .int z.jp]))], tapW E ad z.tp, spuW E ad z.sp, surW E ad z.sg, sheW E ad z.sh, wisW E ad z.wi, linW E ad z.ln, arrW E ad z.ar] s.heap [] := M
  have hwi : ∀ w ∈ u_ws RX8 TX8 11, w ∈ wsX8_inOrder := by decide +kernel
  refine lv_iload_n S.1 S.2.1 dX8_inOrder_0 rfl (lv_at hl 1 rfl) ?_
  refine lv_iconst (v := 0) S.1 S.2.1 dX8_inOrder_1 (by decide) ?_
  refine lv_aload_n S.1 S.2.1 dX8_inOrder_2 rfl (lv_at hl 0 rfl) ?_
  refine gget S hE M (C := RX8) (T := TX8) (N := 11) (ci := 8) (index := 28) hwi 0 rfl rfl 2 (by decide) (by decide +kernel) rfl dX8_inOrder_3 ?_
  refine gcalli (L := [[(ad 0, .inr (8, [.ref (ad 1), .ref (ad 4), .ref (ad 15), .ref (ad 32), .ref (ad 33), .ref (ad 38), .ref (ad 41), .int z.mn, .int z.mk, .int z.mg, .int z.jp]))], tapW E ad z.tp]) (Mid := [spuW E ad z.sp]) (Rr := [surW E ad z.sg, sheW E ad z.sh, wisW E ad z.wi, linW E ad z.ln, arrW E ad z.ar]) (Mid' := [spuW E ad z.sp]) hE M rfl (List.append_nil _) (List.append_nil _) (fun hp => va_runV (As := []) (rest := [.int 0, .int k]) S (c_X4_count l E ad z.sp   _) (cwV 0 S.2.2.2.2 gX8_inOrder_X4_count rfl rfl rfl kd_X4_count ⟨Nat.le_of_ble_eq_true rfl, Nat.le_of_ble_eq_true rfl⟩) (hp.V hE (show vwCl[4]? = some (RX4, TX4, 9) from rfl) rfl) rfl rfl hl.1 rfl (lv_room (Nat.le_of_ble_eq_true rfl)) dX8_inOrder_6 ⟨Nat.zero_le _, Nat.zero_le _⟩) (fun H locs M => ?_)
  have M : gM E A s.heap [[(ad 0, .inr (8, [.ref (ad 1), .ref (ad 4), .ref (ad 15), .ref (ad 32), .ref (ad 33), .ref (ad 38), .ref (ad 41), .int z.mn, .int z.mk, .int z.mg, .int z.jp]))], tapW E ad z.tp, spuW E ad z.sp, surW E ad z.sg, sheW E ad z.sh, wisW E ad z.wi, linW E ad z.ln, arrW E ad z.ar] H locs := M
  refine lv_iconst (v := 1) S.1 S.2.1 dX8_inOrder_9 (by decide) ?_
  refine lv_isub S.1 S.2.1 dX8_inOrder_10 ?_
  refine gcalli (L := []) (Mid := []) (Rr := [[(ad 0, .inr (8, [.ref (ad 1), .ref (ad 4), .ref (ad 15), .ref (ad 32), .ref (ad 33), .ref (ad 38), .ref (ad 41), .int z.mn, .int z.mk, .int z.mg, .int z.jp]))], tapW E ad z.tp, spuW E ad z.sp, surW E ad z.sg, sheW E ad z.sh, wisW E ad z.wi, linW E ad z.ln, arrW E ad z.ar]) (Mid' := []) hE M rfl (rfl) (rfl) (fun hp => va_runS (As := [.int k, .int 0, .int ((nI z.sp.ct) - 1)]) (rest := []) S (c_X8_isOutside l E k 0 ((nI z.sp.ct) - 1) _) (va_cwS 3 S.2.2.2.2 gX8_inOrder_X8_isOutside rfl rfl rfl kd_X8_isOutside.2 ⟨Nat.le_of_ble_eq_true rfl, Nat.le_of_ble_eq_true rfl⟩) hp.S rfl rfl hl.1 rfl (lv_room (Nat.le_of_ble_eq_true rfl)) dX8_inOrder_11 ⟨Nat.zero_le _, Nat.zero_le _⟩) (fun H locs M => ?_)
  have M : gM E A s.heap [[(ad 0, .inr (8, [.ref (ad 1), .ref (ad 4), .ref (ad 15), .ref (ad 32), .ref (ad 33), .ref (ad 38), .ref (ad 41), .int z.mn, .int z.mk, .int z.mg, .int z.jp]))], tapW E ad z.tp, spuW E ad z.sp, surW E ad z.sg, sheW E ad z.sh, wisW E ad z.wi, linW E ad z.ln, arrW E ad z.ar] H locs := M
  refine lv_if_eq (tgt := 21) S.1 S.2.1 dX8_inOrder_14 (by decide) (fun c14 => ?_) (fun c14 => ?_)
  ·
    refine lv_aload_n S.1 S.2.1 dX8_inOrder_21 rfl (lv_at hl 0 rfl) ?_
    refine gget S hE M (C := RX8) (T := TX8) (N := 11) (ci := 8) (index := 28) hwi 0 rfl rfl 2 (by decide) (by decide +kernel) rfl dX8_inOrder_22 ?_
    refine lv_iload_n S.1 S.2.1 dX8_inOrder_25 rfl (lv_at hl 1 rfl) ?_
    refine gcalli (L := [[(ad 0, .inr (8, [.ref (ad 1), .ref (ad 4), .ref (ad 15), .ref (ad 32), .ref (ad 33), .ref (ad 38), .ref (ad 41), .int z.mn, .int z.mk, .int z.mg, .int z.jp]))], tapW E ad z.tp]) (Mid := [spuW E ad z.sp]) (Rr := [surW E ad z.sg, sheW E ad z.sh, wisW E ad z.wi, linW E ad z.ln, arrW E ad z.ar]) (Mid' := [spuW E ad z.sp]) hE M rfl (List.append_nil _) (List.append_nil _) (fun hp => va_runV (As := [.int k]) (rest := []) S (c_X4_atRank l E ad z.sp k  _) (cwV 1 S.2.2.2.2 gX8_inOrder_X4_atRank rfl rfl rfl kd_X4_atRank ⟨Nat.le_of_ble_eq_true rfl, Nat.le_of_ble_eq_true rfl⟩) (hp.V hE (show vwCl[4]? = some (RX4, TX4, 9) from rfl) rfl) rfl rfl hl.1 rfl (lv_room (Nat.le_of_ble_eq_true rfl)) dX8_inOrder_26 ⟨Nat.zero_le _, Nat.zero_le _⟩) (fun H locs M => ?_)
    have M : gM E A s.heap [[(ad 0, .inr (8, [.ref (ad 1), .ref (ad 4), .ref (ad 15), .ref (ad 32), .ref (ad 33), .ref (ad 38), .ref (ad 41), .int z.mn, .int z.mk, .int z.mg, .int z.jp]))], tapW E ad z.tp, spuW E ad z.sp, surW E ad z.sg, sheW E ad z.sh, wisW E ad z.wi, linW E ad z.ln, arrW E ad z.ar] H locs := M
    exact giret S hr hlk M (by unfold SpcS.inOrder; rw [if_pos c14]) (rfl) dX8_inOrder_29
  ·
    refine lv_iconst (v := (-1)) S.1 S.2.1 dX8_inOrder_17 (by decide) ?_
    refine lv_goto (tgt := 29) S.1 S.2.1 dX8_inOrder_18 (by decide) ?_
    exact giret S hr hlk M (by unfold SpcS.inOrder; rw [if_neg c14]) (rfl) dX8_inOrder_29

set_option maxHeartbeats 4000000 in
set_option maxRecDepth 100000 in
theorem c_X8_wish (l : Launch) (E : xE) (ad : Nat → Nat) (z : SpcS) (h : Int32) (hA : z.ar.ct ≤ 120) : mI l yX8_wish wsX8_wish (xrm 5 114) E [.ref (ad 0), .int h] (spcGs E ad z) ((SpcS.wish z h).1) (spcGs E ad ((SpcS.wish z h).2)) := by
  intro sz
  refine Met.ofW (cc := cX8_wish) (maxL := 2) (ret := (some .int)) (by decide +kernel) rfl ?_
  intro vp ve s vm args below meth vc s₁ B hml hv
  obtain ⟨rfl, S, hr, hlk, hnm, A, hA, hE, M⟩ := genter B hml hv
  rw [hA]
  obtain ⟨ls, hfr, hl⟩ := gst (m := vm) (as := [.ref (ad 0), .int h]) (n := 2) (Nat.le_of_ble_eq_true rfl)
  rw [hfr]
  clear hfr hA
  have hl : lv_has ls 2 [(0, .ref (ad 0)), (1, .int h)] := hl
  have M : gM E A s.heap [[(ad 0, .inr (8, [.ref (ad 1), .ref (ad 4), .ref (ad 15), .ref (ad 32), .ref (ad 33), .ref (ad 38), .ref (ad 41), .int z.mn, .int z.mk, .int z.mg, .int z.jp]))], tapW E ad z.tp, spuW E ad z.sp, surW E ad z.sg, sheW E ad z.sh, wisW E ad z.wi, linW E ad z.ln, arrW E ad z.ar] s.heap [] := M
  have hwi : ∀ w ∈ u_ws RX8 TX8 11, w ∈ wsX8_wish := by decide +kernel
  refine lv_iload_n S.1 S.2.1 dX8_wish_0 rfl (lv_at hl 1 rfl) ?_
  refine lv_iconst (v := 0) S.1 S.2.1 dX8_wish_1 (by decide) ?_
  refine lv_sipush (v := 299) S.1 S.2.1 dX8_wish_2 (by decide) ?_
  refine gcalli (L := []) (Mid := []) (Rr := [[(ad 0, .inr (8, [.ref (ad 1), .ref (ad 4), .ref (ad 15), .ref (ad 32), .ref (ad 33), .ref (ad 38), .ref (ad 41), .int z.mn, .int z.mk, .int z.mg, .int z.jp]))], tapW E ad z.tp, spuW E ad z.sp, surW E ad z.sg, sheW E ad z.sh, wisW E ad z.wi, linW E ad z.ln, arrW E ad z.ar]) (Mid' := []) hE M rfl (rfl) (rfl) (fun hp => va_runS (As := [.int h, .int 0, .int 299]) (rest := []) S (c_X8_isOutside l E h 0 299 _) (va_cwS 3 S.2.2.2.2 gX8_wish_X8_isOutside rfl rfl rfl kd_X8_isOutside.2 ⟨Nat.le_of_ble_eq_true rfl, Nat.le_of_ble_eq_true rfl⟩) hp.S rfl rfl hl.1 rfl (lv_room (Nat.le_of_ble_eq_true rfl)) dX8_wish_5 ⟨Nat.zero_le _, Nat.zero_le _⟩) (fun H locs M => ?_)
  have M : gM E A s.heap [[(ad 0, .inr (8, [.ref (ad 1), .ref (ad 4), .ref (ad 15), .ref (ad 32), .ref (ad 33), .ref (ad 38), .ref (ad 41), .int z.mn, .int z.mk, .int z.mg, .int z.jp]))], tapW E ad z.tp, spuW E ad z.sp, surW E ad z.sg, sheW E ad z.sh, wisW E ad z.wi, linW E ad z.ln, arrW E ad z.ar] H locs := M
  refine lv_if_eq (tgt := 14) S.1 S.2.1 dX8_wish_8 (by decide) (fun c8 => ?_) (fun c8 => ?_)
  ·
    refine lv_aload_n S.1 S.2.1 dX8_wish_14 rfl (lv_at hl 0 rfl) ?_
    refine gget S hE M (C := RX8) (T := TX8) (N := 11) (ci := 8) (index := 21) hwi 0 rfl rfl 1 (by decide) (by decide +kernel) rfl dX8_wish_15 ?_
    refine gcalli (L := [[(ad 0, .inr (8, [.ref (ad 1), .ref (ad 4), .ref (ad 15), .ref (ad 32), .ref (ad 33), .ref (ad 38), .ref (ad 41), .int z.mn, .int z.mk, .int z.mg, .int z.jp]))], tapW E ad z.tp, spuW E ad z.sp, surW E ad z.sg, sheW E ad z.sh, wisW E ad z.wi, linW E ad z.ln]) (Mid := [arrW E ad z.ar]) (Rr := []) (Mid' := [arrW E ad z.ar]) hE M rfl (List.append_nil _) (List.append_nil _) (fun hp => va_runV (As := []) (rest := []) S (c_X0_count l E ad z.ar   _) (cwV 0 S.2.2.2.2 gX8_wish_X0_count rfl rfl rfl kd_X0_count ⟨Nat.le_of_ble_eq_true rfl, Nat.le_of_ble_eq_true rfl⟩) (hp.V hE (show vwCl[0]? = some (RX0, TX0, 6) from rfl) rfl) rfl rfl hl.1 rfl (lv_room (Nat.le_of_ble_eq_true rfl)) dX8_wish_18 ⟨Nat.zero_le _, Nat.zero_le _⟩) (fun H locs M => ?_)
    have M : gM E A s.heap [[(ad 0, .inr (8, [.ref (ad 1), .ref (ad 4), .ref (ad 15), .ref (ad 32), .ref (ad 33), .ref (ad 38), .ref (ad 41), .int z.mn, .int z.mk, .int z.mg, .int z.jp]))], tapW E ad z.tp, spuW E ad z.sp, surW E ad z.sg, sheW E ad z.sh, wisW E ad z.wi, linW E ad z.ln, arrW E ad z.ar] H locs := M
    refine lv_if_ne (tgt := 29) S.1 S.2.1 dX8_wish_21 (by decide) (fun c21 => ?_) (fun c21 => ?_)
    ·
      refine lv_aload_n S.1 S.2.1 dX8_wish_29 rfl (lv_at hl 0 rfl) ?_
      refine lv_iload_n S.1 S.2.1 dX8_wish_30 rfl (lv_at hl 1 rfl) ?_
      refine gcalli (L := []) (Mid := spcGs E ad z) (Rr := []) (Mid' := spcGs E ad (z.wished h)) hE M rfl (rfl) (rfl) (fun hp => va_runV (As := [.int h]) (rest := []) S (c_X8_wishFor l E ad z h  hA _) (cwV 1 S.2.2.2.2 gX8_wish_X8_wishFor rfl rfl rfl kd_X8_wishFor ⟨Nat.le_of_ble_eq_true rfl, Nat.le_of_ble_eq_true rfl⟩) (hp.V hE (show vwCl[8]? = some (RX8, TX8, 11) from rfl) rfl) rfl rfl hl.1 rfl (lv_room (Nat.le_of_ble_eq_true rfl)) dX8_wish_31 ⟨Nat.zero_le _, Nat.zero_le _⟩) (fun H locs M => ?_)
      have M : gM E A s.heap [[(ad 0, .inr (8, [.ref (ad 1), .ref (ad 4), .ref (ad 15), .ref (ad 32), .ref (ad 33), .ref (ad 38), .ref (ad 41), .int ((z.wished h).mn), .int ((z.wished h).mk), .int ((z.wished h).mg), .int ((z.wished h).jp)]))], tapW E ad ((z.wished h).tp), spuW E ad ((z.wished h).sp), surW E ad ((z.wished h).sg), sheW E ad ((z.wished h).sh), wisW E ad ((z.wished h).wi), linW E ad ((z.wished h).ln), arrW E ad ((z.wished h).ar)] H locs := M
      refine lv_sipush (v := 10000) S.1 S.2.1 dX8_wish_34 (by decide) ?_
      refine lv_iadd S.1 S.2.1 dX8_wish_37 ?_
      have he : SpcS.wish z h = ((z.wishR h) + 10000, z.wished h) := by unfold SpcS.wish; rw [if_pos c8, if_neg c21] <;> rfl
      exact giret S hr hlk M (by rw [he]) (by rw [he]; rfl) dX8_wish_38
    ·
      refine lv_bipush (v := (-3)) S.1 S.2.1 dX8_wish_24 (by decide) ?_
      refine lv_goto (tgt := 38) S.1 S.2.1 dX8_wish_26 (by decide) ?_
      have he : SpcS.wish z h = ((-3), z) := by unfold SpcS.wish; rw [if_pos c8, if_pos c21] <;> rfl
      exact giret S hr hlk M (by rw [he]) (by rw [he]; rfl) dX8_wish_38
  ·
    refine lv_bipush (v := (-2)) S.1 S.2.1 dX8_wish_11 (by decide) ?_
    have he : SpcS.wish z h = ((-2), z) := by unfold SpcS.wish; rw [if_neg c8] <;> rfl
    exact giret S hr hlk M (by rw [he]) (by rw [he]; rfl) dX8_wish_13

set_option maxHeartbeats 4000000 in
set_option maxRecDepth 100000 in
theorem c_X8_spike (l : Launch) (E : xE) (ad : Nat → Nat) (z : SpcS) (w : Int32) : mI l yX8_spike wsX8_spike (xrm 1 20) E [.ref (ad 0), .int w] (spcGs E ad z) (z.spike w) (spcGs E ad z) := by
  intro sz
  refine Met.ofW (cc := cX8_spike) (maxL := 2) (ret := (some .int)) (by decide +kernel) rfl ?_
  intro vp ve s vm args below meth vc s₁ B hml hv
  obtain ⟨rfl, S, hr, hlk, hnm, A, hA, hE, M⟩ := genter B hml hv
  rw [hA]
  obtain ⟨ls, hfr, hl⟩ := gst (m := vm) (as := [.ref (ad 0), .int w]) (n := 2) (Nat.le_of_ble_eq_true rfl)
  rw [hfr]
  clear hfr hA
  have hl : lv_has ls 2 [(0, .ref (ad 0)), (1, .int w)] := hl
  have M : gM E A s.heap [[(ad 0, .inr (8, [.ref (ad 1), .ref (ad 4), .ref (ad 15), .ref (ad 32), .ref (ad 33), .ref (ad 38), .ref (ad 41), .int z.mn, .int z.mk, .int z.mg, .int z.jp]))], tapW E ad z.tp, spuW E ad z.sp, surW E ad z.sg, sheW E ad z.sh, wisW E ad z.wi, linW E ad z.ln, arrW E ad z.ar] s.heap [] := M
  have hwi : ∀ w ∈ u_ws RX8 TX8 11, w ∈ wsX8_spike := by decide +kernel
  refine lv_iload_n S.1 S.2.1 dX8_spike_0 rfl (lv_at hl 1 rfl) ?_
  by_cases c1_0 : w = 0
  ·
    refine gtop (x' := 0) c1_0 ?_
    refine lv_lookup (off := 27) (tgt := 28) S.1 S.2.1 dX8_spike_1 (by decide) (by decide) (by decide) ?_
    refine lv_aload_n S.1 S.2.1 dX8_spike_28 rfl (lv_at hl 0 rfl) ?_
    refine gget S hE M (C := RX8) (T := TX8) (N := 11) (ci := 8) (index := 35) hwi 0 rfl rfl 3 (by decide) (by decide +kernel) rfl dX8_spike_29 ?_
    refine gcalli (L := [[(ad 0, .inr (8, [.ref (ad 1), .ref (ad 4), .ref (ad 15), .ref (ad 32), .ref (ad 33), .ref (ad 38), .ref (ad 41), .int z.mn, .int z.mk, .int z.mg, .int z.jp]))], tapW E ad z.tp, spuW E ad z.sp]) (Mid := [surW E ad z.sg]) (Rr := [sheW E ad z.sh, wisW E ad z.wi, linW E ad z.ln, arrW E ad z.ar]) (Mid' := [surW E ad z.sg]) hE M rfl (List.append_nil _) (List.append_nil _) (fun hp => va_runV (As := []) (rest := []) S (c_X5_isOn l E ad z.sg   _) (cwV 0 S.2.2.2.2 gX8_spike_X5_isOn rfl rfl rfl kd_X5_isOn ⟨Nat.le_of_ble_eq_true rfl, Nat.le_of_ble_eq_true rfl⟩) (hp.V hE (show vwCl[5]? = some (RX5, TX5, 3) from rfl) rfl) rfl rfl hl.1 rfl (lv_room (Nat.le_of_ble_eq_true rfl)) dX8_spike_32 ⟨Nat.zero_le _, Nat.zero_le _⟩) (fun H locs M => ?_)
    have M : gM E A s.heap [[(ad 0, .inr (8, [.ref (ad 1), .ref (ad 4), .ref (ad 15), .ref (ad 32), .ref (ad 33), .ref (ad 38), .ref (ad 41), .int z.mn, .int z.mk, .int z.mg, .int z.jp]))], tapW E ad z.tp, spuW E ad z.sp, surW E ad z.sg, sheW E ad z.sh, wisW E ad z.wi, linW E ad z.ln, arrW E ad z.ar] H locs := M
    refine lv_if_eq (tgt := 42) S.1 S.2.1 dX8_spike_35 (by decide) (fun c35 => ?_) (fun c35 => ?_)
    ·
      refine lv_iconst (v := 0) S.1 S.2.1 dX8_spike_42 (by decide) ?_
      exact giret S hr hlk M (by unfold SpcS.spike; rw [if_pos c1_0, if_pos c35]) (rfl) dX8_spike_43
    ·
      refine lv_iconst (v := 1) S.1 S.2.1 dX8_spike_38 (by decide) ?_
      refine lv_goto (tgt := 43) S.1 S.2.1 dX8_spike_39 (by decide) ?_
      exact giret S hr hlk M (by unfold SpcS.spike; rw [if_pos c1_0, if_neg c35]) (rfl) dX8_spike_43
  by_cases c1_1 : w = 1
  ·
    refine gtop (x' := 1) c1_1 ?_
    refine lv_lookup (off := 43) (tgt := 44) S.1 S.2.1 dX8_spike_1 (by decide) (by decide) (by decide) ?_
    refine lv_aload_n S.1 S.2.1 dX8_spike_44 rfl (lv_at hl 0 rfl) ?_
    refine gget S hE M (C := RX8) (T := TX8) (N := 11) (ci := 8) (index := 35) hwi 0 rfl rfl 3 (by decide) (by decide +kernel) rfl dX8_spike_45 ?_
    refine gcalli (L := [[(ad 0, .inr (8, [.ref (ad 1), .ref (ad 4), .ref (ad 15), .ref (ad 32), .ref (ad 33), .ref (ad 38), .ref (ad 41), .int z.mn, .int z.mk, .int z.mg, .int z.jp]))], tapW E ad z.tp, spuW E ad z.sp]) (Mid := [surW E ad z.sg]) (Rr := [sheW E ad z.sh, wisW E ad z.wi, linW E ad z.ln, arrW E ad z.ar]) (Mid' := [surW E ad z.sg]) hE M rfl (List.append_nil _) (List.append_nil _) (fun hp => va_runV (As := []) (rest := []) S (c_X5_isOn l E ad z.sg   _) (cwV 0 S.2.2.2.2 gX8_spike_X5_isOn rfl rfl rfl kd_X5_isOn ⟨Nat.le_of_ble_eq_true rfl, Nat.le_of_ble_eq_true rfl⟩) (hp.V hE (show vwCl[5]? = some (RX5, TX5, 3) from rfl) rfl) rfl rfl hl.1 rfl (lv_room (Nat.le_of_ble_eq_true rfl)) dX8_spike_48 ⟨Nat.zero_le _, Nat.zero_le _⟩) (fun H locs M => ?_)
    have M : gM E A s.heap [[(ad 0, .inr (8, [.ref (ad 1), .ref (ad 4), .ref (ad 15), .ref (ad 32), .ref (ad 33), .ref (ad 38), .ref (ad 41), .int z.mn, .int z.mk, .int z.mg, .int z.jp]))], tapW E ad z.tp, spuW E ad z.sp, surW E ad z.sg, sheW E ad z.sh, wisW E ad z.wi, linW E ad z.ln, arrW E ad z.ar] H locs := M
    refine lv_if_eq (tgt := 68) S.1 S.2.1 dX8_spike_51 (by decide) (fun c51 => ?_) (fun c51 => ?_)
    ·
      refine lv_bipush (v := (-9)) S.1 S.2.1 dX8_spike_68 (by decide) ?_
      exact giret S hr hlk M (by unfold SpcS.spike; rw [if_neg c1_0, if_pos c1_1, if_pos c51]) (rfl) dX8_spike_70
    ·
      refine lv_aload_n S.1 S.2.1 dX8_spike_54 rfl (lv_at hl 0 rfl) ?_
      refine gget S hE M (C := RX8) (T := TX8) (N := 11) (ci := 8) (index := 35) hwi 0 rfl rfl 3 (by decide) (by decide +kernel) rfl dX8_spike_55 ?_
      refine gcalli (L := [[(ad 0, .inr (8, [.ref (ad 1), .ref (ad 4), .ref (ad 15), .ref (ad 32), .ref (ad 33), .ref (ad 38), .ref (ad 41), .int z.mn, .int z.mk, .int z.mg, .int z.jp]))], tapW E ad z.tp, spuW E ad z.sp]) (Mid := [surW E ad z.sg]) (Rr := [sheW E ad z.sh, wisW E ad z.wi, linW E ad z.ln, arrW E ad z.ar]) (Mid' := [surW E ad z.sg]) hE M rfl (List.append_nil _) (List.append_nil _) (fun hp => va_runV (As := []) (rest := []) S (c_X5_base l E ad z.sg   _) (cwV 0 S.2.2.2.2 gX8_spike_X5_base rfl rfl rfl kd_X5_base ⟨Nat.le_of_ble_eq_true rfl, Nat.le_of_ble_eq_true rfl⟩) (hp.V hE (show vwCl[5]? = some (RX5, TX5, 3) from rfl) rfl) rfl rfl hl.1 rfl (lv_room (Nat.le_of_ble_eq_true rfl)) dX8_spike_58 ⟨Nat.zero_le _, Nat.zero_le _⟩) (fun H locs M => ?_)
      have M : gM E A s.heap [[(ad 0, .inr (8, [.ref (ad 1), .ref (ad 4), .ref (ad 15), .ref (ad 32), .ref (ad 33), .ref (ad 38), .ref (ad 41), .int z.mn, .int z.mk, .int z.mg, .int z.jp]))], tapW E ad z.tp, spuW E ad z.sp, surW E ad z.sg, sheW E ad z.sh, wisW E ad z.wi, linW E ad z.ln, arrW E ad z.ar] H locs := M
      refine lv_sipush (v := 10000) S.1 S.2.1 dX8_spike_61 (by decide) ?_
      refine lv_iadd S.1 S.2.1 dX8_spike_64 ?_
      refine lv_goto (tgt := 70) S.1 S.2.1 dX8_spike_65 (by decide) ?_
      exact giret S hr hlk M (by unfold SpcS.spike; rw [if_neg c1_0, if_pos c1_1, if_neg c51]) (rfl) dX8_spike_70
  refine lv_lookup (off := 70) (tgt := 71) S.1 S.2.1 dX8_spike_1 (by decide) (by show Op.lookupswitch.offset ((0, 27) :: (1, 43) :: []) 70 _ = _; rw [lv_osw (a := 0) c1_0 rfl, lv_osw (a := 1) c1_1 rfl]; rfl) (by decide) ?_
  refine lv_bipush (v := (-2)) S.1 S.2.1 dX8_spike_71 (by decide) ?_
  exact giret S hr hlk M (by unfold SpcS.spike; rw [if_neg c1_0, if_neg c1_1]) (rfl) dX8_spike_73

set_option maxHeartbeats 4000000 in
set_option maxRecDepth 100000 in
theorem c_X8_late (l : Launch) (E : xE) (ad : Nat → Nat) (z : SpcS) (v : Int32) (hA : z.ar.ct ≤ 120) : mI l yX8_late wsX8_late (xrm 3 66) E [.ref (ad 0), .int v] (spcGs E ad z) (z.late v) (spcGs E ad z) := by
  intro sz
  refine Met.ofW (cc := cX8_late) (maxL := 2) (ret := (some .int)) (by decide +kernel) rfl ?_
  intro vp ve s vm args below meth vc s₁ B hml hv
  obtain ⟨rfl, S, hr, hlk, hnm, A, hA, hE, M⟩ := genter B hml hv
  rw [hA]
  obtain ⟨ls, hfr, hl⟩ := gst (m := vm) (as := [.ref (ad 0), .int v]) (n := 2) (Nat.le_of_ble_eq_true rfl)
  rw [hfr]
  clear hfr hA
  have hl : lv_has ls 2 [(0, .ref (ad 0)), (1, .int v)] := hl
  have M : gM E A s.heap [[(ad 0, .inr (8, [.ref (ad 1), .ref (ad 4), .ref (ad 15), .ref (ad 32), .ref (ad 33), .ref (ad 38), .ref (ad 41), .int z.mn, .int z.mk, .int z.mg, .int z.jp]))], tapW E ad z.tp, spuW E ad z.sp, surW E ad z.sg, sheW E ad z.sh, wisW E ad z.wi, linW E ad z.ln, arrW E ad z.ar] s.heap [] := M
  have hwi : ∀ w ∈ u_ws RX8 TX8 11, w ∈ wsX8_late := by decide +kernel
  refine lv_iload_n S.1 S.2.1 dX8_late_0 rfl (lv_at hl 1 rfl) ?_
  refine lv_sipush (v := (-10000)) S.1 S.2.1 dX8_late_1 (by decide) ?_
  refine lv_ldc (v := 40000) S.1 S.2.1 S.2.2.2.1 (S.2.2.2.2 (.constant RX8 178 40000) (by decide +kernel)) dX8_late_4 ?_
  refine gcalli (L := []) (Mid := []) (Rr := [[(ad 0, .inr (8, [.ref (ad 1), .ref (ad 4), .ref (ad 15), .ref (ad 32), .ref (ad 33), .ref (ad 38), .ref (ad 41), .int z.mn, .int z.mk, .int z.mg, .int z.jp]))], tapW E ad z.tp, spuW E ad z.sp, surW E ad z.sg, sheW E ad z.sh, wisW E ad z.wi, linW E ad z.ln, arrW E ad z.ar]) (Mid' := []) hE M rfl (rfl) (rfl) (fun hp => va_runS (As := [.int v, .int (-10000), .int 40000]) (rest := []) S (c_X8_isOutside l E v (-10000) 40000 _) (va_cwS 3 S.2.2.2.2 gX8_late_X8_isOutside rfl rfl rfl kd_X8_isOutside.2 ⟨Nat.le_of_ble_eq_true rfl, Nat.le_of_ble_eq_true rfl⟩) hp.S rfl rfl hl.1 rfl (lv_room (Nat.le_of_ble_eq_true rfl)) dX8_late_6 ⟨Nat.zero_le _, Nat.zero_le _⟩) (fun H locs M => ?_)
  have M : gM E A s.heap [[(ad 0, .inr (8, [.ref (ad 1), .ref (ad 4), .ref (ad 15), .ref (ad 32), .ref (ad 33), .ref (ad 38), .ref (ad 41), .int z.mn, .int z.mk, .int z.mg, .int z.jp]))], tapW E ad z.tp, spuW E ad z.sp, surW E ad z.sg, sheW E ad z.sh, wisW E ad z.wi, linW E ad z.ln, arrW E ad z.ar] H locs := M
  refine lv_if_eq (tgt := 15) S.1 S.2.1 dX8_late_9 (by decide) (fun c9 => ?_) (fun c9 => ?_)
  ·
    refine lv_aload_n S.1 S.2.1 dX8_late_15 rfl (lv_at hl 0 rfl) ?_
    refine gget S hE M (C := RX8) (T := TX8) (N := 11) (ci := 8) (index := 21) hwi 0 rfl rfl 1 (by decide) (by decide +kernel) rfl dX8_late_16 ?_
    refine lv_iload_n S.1 S.2.1 dX8_late_19 rfl (lv_at hl 1 rfl) ?_
    refine lv_aload_n S.1 S.2.1 dX8_late_20 rfl (lv_at hl 0 rfl) ?_
    refine gget S hE M (C := RX8) (T := TX8) (N := 11) (ci := 8) (index := 21) hwi 0 rfl rfl 1 (by decide) (by decide +kernel) rfl dX8_late_21 ?_
    refine gcalli (L := [[(ad 0, .inr (8, [.ref (ad 1), .ref (ad 4), .ref (ad 15), .ref (ad 32), .ref (ad 33), .ref (ad 38), .ref (ad 41), .int z.mn, .int z.mk, .int z.mg, .int z.jp]))], tapW E ad z.tp, spuW E ad z.sp, surW E ad z.sg, sheW E ad z.sh, wisW E ad z.wi, linW E ad z.ln]) (Mid := [arrW E ad z.ar]) (Rr := []) (Mid' := [arrW E ad z.ar]) hE M rfl (List.append_nil _) (List.append_nil _) (fun hp => va_runV (As := []) (rest := [.int v, .ref (ad 4)]) S (c_X0_historySize l E ad z.ar   _) (cwV 0 S.2.2.2.2 gX8_late_X0_historySize rfl rfl rfl kd_X0_historySize ⟨Nat.le_of_ble_eq_true rfl, Nat.le_of_ble_eq_true rfl⟩) (hp.V hE (show vwCl[0]? = some (RX0, TX0, 6) from rfl) rfl) rfl rfl hl.1 rfl (lv_room (Nat.le_of_ble_eq_true rfl)) dX8_late_24 ⟨Nat.zero_le _, Nat.zero_le _⟩) (fun H locs M => ?_)
    have M : gM E A s.heap [[(ad 0, .inr (8, [.ref (ad 1), .ref (ad 4), .ref (ad 15), .ref (ad 32), .ref (ad 33), .ref (ad 38), .ref (ad 41), .int z.mn, .int z.mk, .int z.mg, .int z.jp]))], tapW E ad z.tp, spuW E ad z.sp, surW E ad z.sg, sheW E ad z.sh, wisW E ad z.wi, linW E ad z.ln, arrW E ad z.ar] H locs := M
    refine gtop (x' := nI z.ar.hs) (imin_nI (b := 32) (by omega) (by omega)) ?_
    refine gcalli (L := [[(ad 0, .inr (8, [.ref (ad 1), .ref (ad 4), .ref (ad 15), .ref (ad 32), .ref (ad 33), .ref (ad 38), .ref (ad 41), .int z.mn, .int z.mk, .int z.mg, .int z.jp]))], tapW E ad z.tp, spuW E ad z.sp, surW E ad z.sg, sheW E ad z.sh, wisW E ad z.wi, linW E ad z.ln]) (Mid := [arrW E ad z.ar]) (Rr := []) (Mid' := [arrW E ad z.ar]) hE M rfl (List.append_nil _) (List.append_nil _) (fun hp => va_runV (As := [.int v, .int (nI z.ar.hs)]) (rest := []) S (c_X0_delaysAbove l E ad z.ar v z.ar.hs  (Nat.min_le_left _ _) hA _) (cwV 2 S.2.2.2.2 gX8_late_X0_delaysAbove rfl rfl rfl kd_X0_delaysAbove ⟨Nat.le_of_ble_eq_true rfl, Nat.le_of_ble_eq_true rfl⟩) (hp.V hE (show vwCl[0]? = some (RX0, TX0, 6) from rfl) rfl) rfl rfl hl.1 rfl (lv_room (Nat.le_of_ble_eq_true rfl)) dX8_late_27 ⟨Nat.zero_le _, Nat.zero_le _⟩) (fun H locs M => ?_)
    have M : gM E A s.heap [[(ad 0, .inr (8, [.ref (ad 1), .ref (ad 4), .ref (ad 15), .ref (ad 32), .ref (ad 33), .ref (ad 38), .ref (ad 41), .int z.mn, .int z.mk, .int z.mg, .int z.jp]))], tapW E ad z.tp, spuW E ad z.sp, surW E ad z.sg, sheW E ad z.sh, wisW E ad z.wi, linW E ad z.ln, arrW E ad z.ar] H locs := M
    exact giret S hr hlk M (by unfold SpcS.late; rw [if_pos c9]) (rfl) dX8_late_30
  ·
    refine lv_bipush (v := (-2)) S.1 S.2.1 dX8_late_12 (by decide) ?_
    exact giret S hr hlk M (by unfold SpcS.late; rw [if_neg c9]) (rfl) dX8_late_14

set_option maxHeartbeats 4000000 in
set_option maxRecDepth 100000 in
theorem c_X8_history (l : Launch) (E : xE) (ad : Nat → Nat) (z : SpcS) (k : Int32) (hA : z.ar.ct ≤ 120) : mI l yX8_history wsX8_history (xrm 2 42) E [.ref (ad 0), .int k] (spcGs E ad z) (z.history k) (spcGs E ad z) := by
  intro sz
  refine Met.ofW (cc := cX8_history) (maxL := 2) (ret := (some .int)) (by decide +kernel) rfl ?_
  intro vp ve s vm args below meth vc s₁ B hml hv
  obtain ⟨rfl, S, hr, hlk, hnm, A, hA, hE, M⟩ := genter B hml hv
  rw [hA]
  obtain ⟨ls, hfr, hl⟩ := gst (m := vm) (as := [.ref (ad 0), .int k]) (n := 2) (Nat.le_of_ble_eq_true rfl)
  rw [hfr]
  clear hfr hA
  have hl : lv_has ls 2 [(0, .ref (ad 0)), (1, .int k)] := hl
  have M : gM E A s.heap [[(ad 0, .inr (8, [.ref (ad 1), .ref (ad 4), .ref (ad 15), .ref (ad 32), .ref (ad 33), .ref (ad 38), .ref (ad 41), .int z.mn, .int z.mk, .int z.mg, .int z.jp]))], tapW E ad z.tp, spuW E ad z.sp, surW E ad z.sg, sheW E ad z.sh, wisW E ad z.wi, linW E ad z.ln, arrW E ad z.ar] s.heap [] := M
  have hwi : ∀ w ∈ u_ws RX8 TX8 11, w ∈ wsX8_history := by decide +kernel
  refine lv_iload_n S.1 S.2.1 dX8_history_0 rfl (lv_at hl 1 rfl) ?_
  refine lv_iconst (v := 0) S.1 S.2.1 dX8_history_1 (by decide) ?_
  refine lv_bipush (v := 31) S.1 S.2.1 dX8_history_2 (by decide) ?_
  refine gcalli (L := []) (Mid := []) (Rr := [[(ad 0, .inr (8, [.ref (ad 1), .ref (ad 4), .ref (ad 15), .ref (ad 32), .ref (ad 33), .ref (ad 38), .ref (ad 41), .int z.mn, .int z.mk, .int z.mg, .int z.jp]))], tapW E ad z.tp, spuW E ad z.sp, surW E ad z.sg, sheW E ad z.sh, wisW E ad z.wi, linW E ad z.ln, arrW E ad z.ar]) (Mid' := []) hE M rfl (rfl) (rfl) (fun hp => va_runS (As := [.int k, .int 0, .int 31]) (rest := []) S (c_X8_isOutside l E k 0 31 _) (va_cwS 3 S.2.2.2.2 gX8_history_X8_isOutside rfl rfl rfl kd_X8_isOutside.2 ⟨Nat.le_of_ble_eq_true rfl, Nat.le_of_ble_eq_true rfl⟩) hp.S rfl rfl hl.1 rfl (lv_room (Nat.le_of_ble_eq_true rfl)) dX8_history_4 ⟨Nat.zero_le _, Nat.zero_le _⟩) (fun H locs M => ?_)
  have M : gM E A s.heap [[(ad 0, .inr (8, [.ref (ad 1), .ref (ad 4), .ref (ad 15), .ref (ad 32), .ref (ad 33), .ref (ad 38), .ref (ad 41), .int z.mn, .int z.mk, .int z.mg, .int z.jp]))], tapW E ad z.tp, spuW E ad z.sp, surW E ad z.sg, sheW E ad z.sh, wisW E ad z.wi, linW E ad z.ln, arrW E ad z.ar] H locs := M
  refine lv_if_eq (tgt := 13) S.1 S.2.1 dX8_history_7 (by decide) (fun c7 => ?_) (fun c7 => ?_)
  ·
    refine lv_iload_n S.1 S.2.1 dX8_history_13 rfl (lv_at hl 1 rfl) ?_
    refine lv_aload_n S.1 S.2.1 dX8_history_14 rfl (lv_at hl 0 rfl) ?_
    refine gget S hE M (C := RX8) (T := TX8) (N := 11) (ci := 8) (index := 21) hwi 0 rfl rfl 1 (by decide) (by decide +kernel) rfl dX8_history_15 ?_
    refine gcalli (L := [[(ad 0, .inr (8, [.ref (ad 1), .ref (ad 4), .ref (ad 15), .ref (ad 32), .ref (ad 33), .ref (ad 38), .ref (ad 41), .int z.mn, .int z.mk, .int z.mg, .int z.jp]))], tapW E ad z.tp, spuW E ad z.sp, surW E ad z.sg, sheW E ad z.sh, wisW E ad z.wi, linW E ad z.ln]) (Mid := [arrW E ad z.ar]) (Rr := []) (Mid' := [arrW E ad z.ar]) hE M rfl (List.append_nil _) (List.append_nil _) (fun hp => va_runV (As := []) (rest := [.int k]) S (c_X0_historySize l E ad z.ar   _) (cwV 0 S.2.2.2.2 gX8_history_X0_historySize rfl rfl rfl kd_X0_historySize ⟨Nat.le_of_ble_eq_true rfl, Nat.le_of_ble_eq_true rfl⟩) (hp.V hE (show vwCl[0]? = some (RX0, TX0, 6) from rfl) rfl) rfl rfl hl.1 rfl (lv_room (Nat.le_of_ble_eq_true rfl)) dX8_history_18 ⟨Nat.zero_le _, Nat.zero_le _⟩) (fun H locs M => ?_)
    have M : gM E A s.heap [[(ad 0, .inr (8, [.ref (ad 1), .ref (ad 4), .ref (ad 15), .ref (ad 32), .ref (ad 33), .ref (ad 38), .ref (ad 41), .int z.mn, .int z.mk, .int z.mg, .int z.jp]))], tapW E ad z.tp, spuW E ad z.sp, surW E ad z.sg, sheW E ad z.sh, wisW E ad z.wi, linW E ad z.ln, arrW E ad z.ar] H locs := M
    refine gtop (x' := nI z.ar.hs) (imin_nI (b := 32) (by omega) (by omega)) ?_
    refine lv_icmp_ge (tgt := 47) S.1 S.2.1 dX8_history_21 (by decide) (fun c21 => ?_) (fun c21 => ?_)
    ·
      refine lv_bipush (v := (-9)) S.1 S.2.1 dX8_history_47 (by decide) ?_
      exact giret S hr hlk M (by unfold SpcS.history; rw [if_pos c7, if_pos c21]) (rfl) dX8_history_49
    ·
      refine lv_aload_n S.1 S.2.1 dX8_history_24 rfl (lv_at hl 0 rfl) ?_
      refine gget S hE M (C := RX8) (T := TX8) (N := 11) (ci := 8) (index := 21) hwi 0 rfl rfl 1 (by decide) (by decide +kernel) rfl dX8_history_25 ?_
      refine lv_aload_n S.1 S.2.1 dX8_history_28 rfl (lv_at hl 0 rfl) ?_
      refine gget S hE M (C := RX8) (T := TX8) (N := 11) (ci := 8) (index := 21) hwi 0 rfl rfl 1 (by decide) (by decide +kernel) rfl dX8_history_29 ?_
      refine gcalli (L := [[(ad 0, .inr (8, [.ref (ad 1), .ref (ad 4), .ref (ad 15), .ref (ad 32), .ref (ad 33), .ref (ad 38), .ref (ad 41), .int z.mn, .int z.mk, .int z.mg, .int z.jp]))], tapW E ad z.tp, spuW E ad z.sp, surW E ad z.sg, sheW E ad z.sh, wisW E ad z.wi, linW E ad z.ln]) (Mid := [arrW E ad z.ar]) (Rr := []) (Mid' := [arrW E ad z.ar]) hE M rfl (List.append_nil _) (List.append_nil _) (fun hp => va_runV (As := []) (rest := [.ref (ad 4)]) S (c_X0_lastPlace l E ad z.ar   _) (cwV 0 S.2.2.2.2 gX8_history_X0_lastPlace rfl rfl rfl kd_X0_lastPlace ⟨Nat.le_of_ble_eq_true rfl, Nat.le_of_ble_eq_true rfl⟩) (hp.V hE (show vwCl[0]? = some (RX0, TX0, 6) from rfl) rfl) rfl rfl hl.1 rfl (lv_room (Nat.le_of_ble_eq_true rfl)) dX8_history_32 ⟨Nat.zero_le _, Nat.zero_le _⟩) (fun H locs M => ?_)
      have M : gM E A s.heap [[(ad 0, .inr (8, [.ref (ad 1), .ref (ad 4), .ref (ad 15), .ref (ad 32), .ref (ad 33), .ref (ad 38), .ref (ad 41), .int z.mn, .int z.mk, .int z.mg, .int z.jp]))], tapW E ad z.tp, spuW E ad z.sp, surW E ad z.sg, sheW E ad z.sh, wisW E ad z.wi, linW E ad z.ln, arrW E ad z.ar] H locs := M
      refine lv_iload_n S.1 S.2.1 dX8_history_35 rfl (lv_at hl 1 rfl) ?_
      refine lv_isub S.1 S.2.1 dX8_history_36 ?_
      refine gcalli (L := [[(ad 0, .inr (8, [.ref (ad 1), .ref (ad 4), .ref (ad 15), .ref (ad 32), .ref (ad 33), .ref (ad 38), .ref (ad 41), .int z.mn, .int z.mk, .int z.mg, .int z.jp]))], tapW E ad z.tp, spuW E ad z.sp, surW E ad z.sg, sheW E ad z.sh, wisW E ad z.wi, linW E ad z.ln]) (Mid := [arrW E ad z.ar]) (Rr := []) (Mid' := [arrW E ad z.ar]) hE M rfl (List.append_nil _) (List.append_nil _) (fun hp => va_runV (As := [.int ((nI z.ar.ct - 1) - k)]) (rest := []) S (c_X0_delayAt l E ad z.ar ((nI z.ar.ct - 1) - k)  _) (cwV 1 S.2.2.2.2 gX8_history_X0_delayAt rfl rfl rfl kd_X0_delayAt ⟨Nat.le_of_ble_eq_true rfl, Nat.le_of_ble_eq_true rfl⟩) (hp.V hE (show vwCl[0]? = some (RX0, TX0, 6) from rfl) rfl) rfl rfl hl.1 rfl (lv_room (Nat.le_of_ble_eq_true rfl)) dX8_history_37 ⟨Nat.zero_le _, Nat.zero_le _⟩) (fun H locs M => ?_)
      have M : gM E A s.heap [[(ad 0, .inr (8, [.ref (ad 1), .ref (ad 4), .ref (ad 15), .ref (ad 32), .ref (ad 33), .ref (ad 38), .ref (ad 41), .int z.mn, .int z.mk, .int z.mg, .int z.jp]))], tapW E ad z.tp, spuW E ad z.sp, surW E ad z.sg, sheW E ad z.sh, wisW E ad z.wi, linW E ad z.ln, arrW E ad z.ar] H locs := M
      refine lv_sipush (v := 10000) S.1 S.2.1 dX8_history_40 (by decide) ?_
      refine lv_iadd S.1 S.2.1 dX8_history_43 ?_
      refine lv_goto (tgt := 49) S.1 S.2.1 dX8_history_44 (by decide) ?_
      exact giret S hr hlk M (by unfold SpcS.history; rw [if_pos c7, if_neg c21]) (rfl) dX8_history_49
  ·
    refine lv_bipush (v := (-2)) S.1 S.2.1 dX8_history_10 (by decide) ?_
    exact giret S hr hlk M (by unfold SpcS.history; rw [if_neg c7]) (rfl) dX8_history_12

set_option maxHeartbeats 4000000 in
set_option maxRecDepth 100000 in
theorem c_X8_loss (l : Launch) (E : xE) (ad : Nat → Nat) (z : SpcS) (v : Int32) (hA : z.ar.ct ≤ 120) : mI l yX8_loss wsX8_loss (xrm 3 66) E [.ref (ad 0), .int v] (spcGs E ad z) (z.loss v) (spcGs E ad z) := by
  intro sz
  refine Met.ofW (cc := cX8_loss) (maxL := 2) (ret := (some .int)) (by decide +kernel) rfl ?_
  intro vp ve s vm args below meth vc s₁ B hml hv
  obtain ⟨rfl, S, hr, hlk, hnm, A, hA, hE, M⟩ := genter B hml hv
  rw [hA]
  obtain ⟨ls, hfr, hl⟩ := gst (m := vm) (as := [.ref (ad 0), .int v]) (n := 2) (Nat.le_of_ble_eq_true rfl)
  rw [hfr]
  clear hfr hA
  have hl : lv_has ls 2 [(0, .ref (ad 0)), (1, .int v)] := hl
  have M : gM E A s.heap [[(ad 0, .inr (8, [.ref (ad 1), .ref (ad 4), .ref (ad 15), .ref (ad 32), .ref (ad 33), .ref (ad 38), .ref (ad 41), .int z.mn, .int z.mk, .int z.mg, .int z.jp]))], tapW E ad z.tp, spuW E ad z.sp, surW E ad z.sg, sheW E ad z.sh, wisW E ad z.wi, linW E ad z.ln, arrW E ad z.ar] s.heap [] := M
  have hwi : ∀ w ∈ u_ws RX8 TX8 11, w ∈ wsX8_loss := by decide +kernel
  refine lv_iload_n S.1 S.2.1 dX8_loss_0 rfl (lv_at hl 1 rfl) ?_
  refine lv_sipush (v := (-10000)) S.1 S.2.1 dX8_loss_1 (by decide) ?_
  refine lv_ldc (v := 40000) S.1 S.2.1 S.2.2.2.1 (S.2.2.2.2 (.constant RX8 178 40000) (by decide +kernel)) dX8_loss_4 ?_
  refine gcalli (L := []) (Mid := []) (Rr := [[(ad 0, .inr (8, [.ref (ad 1), .ref (ad 4), .ref (ad 15), .ref (ad 32), .ref (ad 33), .ref (ad 38), .ref (ad 41), .int z.mn, .int z.mk, .int z.mg, .int z.jp]))], tapW E ad z.tp, spuW E ad z.sp, surW E ad z.sg, sheW E ad z.sh, wisW E ad z.wi, linW E ad z.ln, arrW E ad z.ar]) (Mid' := []) hE M rfl (rfl) (rfl) (fun hp => va_runS (As := [.int v, .int (-10000), .int 40000]) (rest := []) S (c_X8_isOutside l E v (-10000) 40000 _) (va_cwS 3 S.2.2.2.2 gX8_loss_X8_isOutside rfl rfl rfl kd_X8_isOutside.2 ⟨Nat.le_of_ble_eq_true rfl, Nat.le_of_ble_eq_true rfl⟩) hp.S rfl rfl hl.1 rfl (lv_room (Nat.le_of_ble_eq_true rfl)) dX8_loss_6 ⟨Nat.zero_le _, Nat.zero_le _⟩) (fun H locs M => ?_)
  have M : gM E A s.heap [[(ad 0, .inr (8, [.ref (ad 1), .ref (ad 4), .ref (ad 15), .ref (ad 32), .ref (ad 33), .ref (ad 38), .ref (ad 41), .int z.mn, .int z.mk, .int z.mg, .int z.jp]))], tapW E ad z.tp, spuW E ad z.sp, surW E ad z.sg, sheW E ad z.sh, wisW E ad z.wi, linW E ad z.ln, arrW E ad z.ar] H locs := M
  refine lv_if_eq (tgt := 15) S.1 S.2.1 dX8_loss_9 (by decide) (fun c9 => ?_) (fun c9 => ?_)
  ·
    refine lv_aload_n S.1 S.2.1 dX8_loss_15 rfl (lv_at hl 0 rfl) ?_
    refine gget S hE M (C := RX8) (T := TX8) (N := 11) (ci := 8) (index := 21) hwi 0 rfl rfl 1 (by decide) (by decide +kernel) rfl dX8_loss_16 ?_
    refine lv_iload_n S.1 S.2.1 dX8_loss_19 rfl (lv_at hl 1 rfl) ?_
    refine lv_aload_n S.1 S.2.1 dX8_loss_20 rfl (lv_at hl 0 rfl) ?_
    refine gget S hE M (C := RX8) (T := TX8) (N := 11) (ci := 8) (index := 21) hwi 0 rfl rfl 1 (by decide) (by decide +kernel) rfl dX8_loss_21 ?_
    refine gcalli (L := [[(ad 0, .inr (8, [.ref (ad 1), .ref (ad 4), .ref (ad 15), .ref (ad 32), .ref (ad 33), .ref (ad 38), .ref (ad 41), .int z.mn, .int z.mk, .int z.mg, .int z.jp]))], tapW E ad z.tp, spuW E ad z.sp, surW E ad z.sg, sheW E ad z.sh, wisW E ad z.wi, linW E ad z.ln]) (Mid := [arrW E ad z.ar]) (Rr := []) (Mid' := [arrW E ad z.ar]) hE M rfl (List.append_nil _) (List.append_nil _) (fun hp => va_runV (As := []) (rest := [.int v, .ref (ad 4)]) S (c_X0_count l E ad z.ar   _) (cwV 0 S.2.2.2.2 gX8_loss_X0_count rfl rfl rfl kd_X0_count ⟨Nat.le_of_ble_eq_true rfl, Nat.le_of_ble_eq_true rfl⟩) (hp.V hE (show vwCl[0]? = some (RX0, TX0, 6) from rfl) rfl) rfl rfl hl.1 rfl (lv_room (Nat.le_of_ble_eq_true rfl)) dX8_loss_24 ⟨Nat.zero_le _, Nat.zero_le _⟩) (fun H locs M => ?_)
    have M : gM E A s.heap [[(ad 0, .inr (8, [.ref (ad 1), .ref (ad 4), .ref (ad 15), .ref (ad 32), .ref (ad 33), .ref (ad 38), .ref (ad 41), .int z.mn, .int z.mk, .int z.mg, .int z.jp]))], tapW E ad z.tp, spuW E ad z.sp, surW E ad z.sg, sheW E ad z.sh, wisW E ad z.wi, linW E ad z.ln, arrW E ad z.ar] H locs := M
    refine gcalli (L := [[(ad 0, .inr (8, [.ref (ad 1), .ref (ad 4), .ref (ad 15), .ref (ad 32), .ref (ad 33), .ref (ad 38), .ref (ad 41), .int z.mn, .int z.mk, .int z.mg, .int z.jp]))], tapW E ad z.tp, spuW E ad z.sp, surW E ad z.sg, sheW E ad z.sh, wisW E ad z.wi, linW E ad z.ln]) (Mid := [arrW E ad z.ar]) (Rr := []) (Mid' := [arrW E ad z.ar]) hE M rfl (List.append_nil _) (List.append_nil _) (fun hp => va_runV (As := [.int v, .int (nI z.ar.ct)]) (rest := []) S (c_X0_delaysAbove l E ad z.ar v z.ar.ct  (Nat.le_refl _) hA _) (cwV 2 S.2.2.2.2 gX8_loss_X0_delaysAbove rfl rfl rfl kd_X0_delaysAbove ⟨Nat.le_of_ble_eq_true rfl, Nat.le_of_ble_eq_true rfl⟩) (hp.V hE (show vwCl[0]? = some (RX0, TX0, 6) from rfl) rfl) rfl rfl hl.1 rfl (lv_room (Nat.le_of_ble_eq_true rfl)) dX8_loss_27 ⟨Nat.zero_le _, Nat.zero_le _⟩) (fun H locs M => ?_)
    have M : gM E A s.heap [[(ad 0, .inr (8, [.ref (ad 1), .ref (ad 4), .ref (ad 15), .ref (ad 32), .ref (ad 33), .ref (ad 38), .ref (ad 41), .int z.mn, .int z.mk, .int z.mg, .int z.jp]))], tapW E ad z.tp, spuW E ad z.sp, surW E ad z.sg, sheW E ad z.sh, wisW E ad z.wi, linW E ad z.ln, arrW E ad z.ar] H locs := M
    exact giret S hr hlk M (by unfold SpcS.loss; rw [if_pos c9]) (rfl) dX8_loss_30
  ·
    refine lv_bipush (v := (-2)) S.1 S.2.1 dX8_loss_12 (by decide) ?_
    exact giret S hr hlk M (by unfold SpcS.loss; rw [if_neg c9]) (rfl) dX8_loss_14

set_option maxHeartbeats 4000000 in
set_option maxRecDepth 100000 in
theorem c_X8_drift (l : Launch) (E : xE) (ad : Nat → Nat) (z : SpcS) (w : Int32) : mL l yX8_drift wsX8_drift (xrm 4 93) E [.ref (ad 0), .int w] (spcGs E ad z) (z.drift w) (spcGs E ad z.fitted) := by
  intro sz
  refine Met.ofW (cc := cX8_drift) (maxL := 2) (ret := (some .long)) (by decide +kernel) rfl ?_
  intro vp ve s vm args below meth vc s₁ B hml hv
  obtain ⟨rfl, S, hr, hlk, hnm, A, hA, hE, M⟩ := genter B hml hv
  rw [hA]
  obtain ⟨ls, hfr, hl⟩ := gst (m := vm) (as := [.ref (ad 0), .int w]) (n := 2) (Nat.le_of_ble_eq_true rfl)
  rw [hfr]
  clear hfr hA
  have hl : lv_has ls 2 [(0, .ref (ad 0)), (1, .int w)] := hl
  have M : gM E A s.heap [[(ad 0, .inr (8, [.ref (ad 1), .ref (ad 4), .ref (ad 15), .ref (ad 32), .ref (ad 33), .ref (ad 38), .ref (ad 41), .int z.mn, .int z.mk, .int z.mg, .int z.jp]))], tapW E ad z.tp, spuW E ad z.sp, surW E ad z.sg, sheW E ad z.sh, wisW E ad z.wi, linW E ad z.ln, arrW E ad z.ar] s.heap [] := M
  have hwi : ∀ w ∈ u_ws RX8 TX8 11, w ∈ wsX8_drift := by decide +kernel
  refine lv_aload_n S.1 S.2.1 dX8_drift_0 rfl (lv_at hl 0 rfl) ?_
  refine gget S hE M (C := RX8) (T := TX8) (N := 11) (ci := 8) (index := 42) hwi 0 rfl rfl 4 (by decide) (by decide +kernel) rfl dX8_drift_1 ?_
  refine lv_aload_n S.1 S.2.1 dX8_drift_4 rfl (lv_at hl 0 rfl) ?_
  refine gget S hE M (C := RX8) (T := TX8) (N := 11) (ci := 8) (index := 21) hwi 0 rfl rfl 1 (by decide) (by decide +kernel) rfl dX8_drift_5 ?_
  refine gcallv (L := [[(ad 0, .inr (8, [.ref (ad 1), .ref (ad 4), .ref (ad 15), .ref (ad 32), .ref (ad 33), .ref (ad 38), .ref (ad 41), .int z.mn, .int z.mk, .int z.mg, .int z.jp]))], tapW E ad z.tp, spuW E ad z.sp, surW E ad z.sg, sheW E ad z.sh, wisW E ad z.wi]) (Mid := [linW E ad z.ln, arrW E ad z.ar]) (Rr := []) (Mid' := [linW E ad (LinS.fit z.ln z.ar), arrW E ad z.ar]) hE M rfl (by simp only [linW, List.flatten_append, List.flatten_cons, List.flatten_nil, List.append_nil, List.append_assoc]) (by simp only [linW, List.flatten_append, List.flatten_cons, List.flatten_nil, List.append_nil, List.append_assoc]) (fun hp => va_runV (As := [.ref (ad 4)]) (rest := []) S (c_X1_fitUnder l E ad z.ln z.ar   _) (cwV 1 S.2.2.2.2 gX8_drift_X1_fitUnder rfl rfl rfl kd_X1_fitUnder ⟨Nat.le_of_ble_eq_true rfl, Nat.le_of_ble_eq_true rfl⟩) (hp.V hE (show vwCl[1]? = some (RX1, TX1, 5) from rfl) rfl) rfl rfl hl.1 rfl (lv_room (Nat.le_of_ble_eq_true rfl)) dX8_drift_8 ⟨Nat.zero_le _, Nat.zero_le _⟩) (fun H locs M => ?_)
  have M : gM E A s.heap [[(ad 0, .inr (8, [.ref (ad 1), .ref (ad 4), .ref (ad 15), .ref (ad 32), .ref (ad 33), .ref (ad 38), .ref (ad 41), .int z.mn, .int z.mk, .int z.mg, .int z.jp]))], tapW E ad z.tp, spuW E ad z.sp, surW E ad z.sg, sheW E ad z.sh, wisW E ad z.wi, linW E ad (LinS.fit z.ln z.ar), arrW E ad z.ar] H locs := M
  refine lv_iload_n S.1 S.2.1 dX8_drift_11 rfl (lv_at hl 1 rfl) ?_
  by_cases c12_0 : w = 0
  ·
    refine gtop (x' := 0) c12_0 ?_
    refine lv_lookup (off := 28) (tgt := 40) S.1 S.2.1 dX8_drift_12 (by decide) (by decide) (by decide) ?_
    refine lv_aload_n S.1 S.2.1 dX8_drift_40 rfl (lv_at hl 0 rfl) ?_
    refine gget S hE M (C := RX8) (T := TX8) (N := 11) (ci := 8) (index := 42) hwi 0 rfl rfl 4 (by decide) (by decide +kernel) rfl dX8_drift_41 ?_
    refine gcalli (L := [[(ad 0, .inr (8, [.ref (ad 1), .ref (ad 4), .ref (ad 15), .ref (ad 32), .ref (ad 33), .ref (ad 38), .ref (ad 41), .int z.mn, .int z.mk, .int z.mg, .int z.jp]))], tapW E ad z.tp, spuW E ad z.sp, surW E ad z.sg, sheW E ad z.sh, wisW E ad z.wi]) (Mid := [linW E ad (LinS.fit z.ln z.ar)]) (Rr := [arrW E ad z.ar]) (Mid' := [linW E ad (LinS.fit z.ln z.ar)]) hE M rfl (List.append_nil _) (List.append_nil _) (fun hp => va_runV (As := []) (rest := []) S (c_X1_upper l E ad (LinS.fit z.ln z.ar)   _) (cwV 0 S.2.2.2.2 gX8_drift_X1_upper rfl rfl rfl kd_X1_upper ⟨Nat.le_of_ble_eq_true rfl, Nat.le_of_ble_eq_true rfl⟩) (hp.V hE (show vwCl[1]? = some (RX1, TX1, 5) from rfl) rfl) rfl rfl hl.1 rfl (lv_room (Nat.le_of_ble_eq_true rfl)) dX8_drift_44 ⟨Nat.zero_le _, Nat.zero_le _⟩) (fun H locs M => ?_)
    have M : gM E A s.heap [[(ad 0, .inr (8, [.ref (ad 1), .ref (ad 4), .ref (ad 15), .ref (ad 32), .ref (ad 33), .ref (ad 38), .ref (ad 41), .int z.mn, .int z.mk, .int z.mg, .int z.jp]))], tapW E ad z.tp, spuW E ad z.sp, surW E ad z.sg, sheW E ad z.sh, wisW E ad z.wi, linW E ad (LinS.fit z.ln z.ar), arrW E ad z.ar] H locs := M
    refine lv_i2l S.1 S.2.1 dX8_drift_47 rfl ?_
    exact glret S hr hlk M (by unfold SpcS.drift; rw [if_pos c12_0]) (rfl) dX8_drift_48
  by_cases c12_1 : w = 1
  ·
    refine gtop (x' := 1) c12_1 ?_
    refine lv_lookup (off := 37) (tgt := 49) S.1 S.2.1 dX8_drift_12 (by decide) (by decide) (by decide) ?_
    refine lv_aload_n S.1 S.2.1 dX8_drift_49 rfl (lv_at hl 0 rfl) ?_
    refine gget S hE M (C := RX8) (T := TX8) (N := 11) (ci := 8) (index := 42) hwi 0 rfl rfl 4 (by decide) (by decide +kernel) rfl dX8_drift_50 ?_
    refine gcalli (L := [[(ad 0, .inr (8, [.ref (ad 1), .ref (ad 4), .ref (ad 15), .ref (ad 32), .ref (ad 33), .ref (ad 38), .ref (ad 41), .int z.mn, .int z.mk, .int z.mg, .int z.jp]))], tapW E ad z.tp, spuW E ad z.sp, surW E ad z.sg, sheW E ad z.sh, wisW E ad z.wi]) (Mid := [linW E ad (LinS.fit z.ln z.ar)]) (Rr := [arrW E ad z.ar]) (Mid' := [linW E ad (LinS.fit z.ln z.ar)]) hE M rfl (List.append_nil _) (List.append_nil _) (fun hp => va_runV (As := []) (rest := []) S (c_X1_lower l E ad (LinS.fit z.ln z.ar)   _) (cwV 0 S.2.2.2.2 gX8_drift_X1_lower rfl rfl rfl kd_X1_lower ⟨Nat.le_of_ble_eq_true rfl, Nat.le_of_ble_eq_true rfl⟩) (hp.V hE (show vwCl[1]? = some (RX1, TX1, 5) from rfl) rfl) rfl rfl hl.1 rfl (lv_room (Nat.le_of_ble_eq_true rfl)) dX8_drift_53 ⟨Nat.zero_le _, Nat.zero_le _⟩) (fun H locs M => ?_)
    have M : gM E A s.heap [[(ad 0, .inr (8, [.ref (ad 1), .ref (ad 4), .ref (ad 15), .ref (ad 32), .ref (ad 33), .ref (ad 38), .ref (ad 41), .int z.mn, .int z.mk, .int z.mg, .int z.jp]))], tapW E ad z.tp, spuW E ad z.sp, surW E ad z.sg, sheW E ad z.sh, wisW E ad z.wi, linW E ad (LinS.fit z.ln z.ar), arrW E ad z.ar] H locs := M
    refine lv_i2l S.1 S.2.1 dX8_drift_56 rfl ?_
    exact glret S hr hlk M (by unfold SpcS.drift; rw [if_neg c12_0, if_pos c12_1]) (rfl) dX8_drift_57
  refine lv_lookup (off := 46) (tgt := 58) S.1 S.2.1 dX8_drift_12 (by decide) (by show Op.lookupswitch.offset ((0, 28) :: (1, 37) :: []) 46 _ = _; rw [lv_osw (a := 0) c12_0 rfl, lv_osw (a := 1) c12_1 rfl]; rfl) (by decide) ?_
  refine lv_ldc2 (v := (-9223372036854775808)) S.1 S.2.1 S.2.2.2.1 (S.2.2.2.2 (.constantLong RX8 198 (-9223372036854775808)) (by decide +kernel)) dX8_drift_58 ?_
  exact glret S hr hlk M (by unfold SpcS.drift; rw [if_neg c12_0, if_neg c12_1]) (rfl) dX8_drift_61

set_option maxHeartbeats 4000000 in
set_option maxRecDepth 100000 in
theorem c_X8_waiting (l : Launch) (E : xE) (ad : Nat → Nat) (z : SpcS) (t : Int32) (hA : z.ar.ct ≤ 120) : mI l yX8_waiting wsX8_waiting (xrm 2 42) E [.ref (ad 0), .int t] (spcGs E ad z) (z.waiting t) (spcGs E ad z) := by
  intro sz
  refine Met.ofW (cc := cX8_waiting) (maxL := 4) (ret := (some .int)) (by decide +kernel) rfl ?_
  intro vp ve s vm args below meth vc s₁ B hml hv
  obtain ⟨rfl, S, hr, hlk, hnm, A, hA, hE, M⟩ := genter B hml hv
  rw [hA]
  obtain ⟨ls, hfr, hl⟩ := gst (m := vm) (as := [.ref (ad 0), .int t]) (n := 4) (Nat.le_of_ble_eq_true rfl)
  rw [hfr]
  clear hfr hA
  have hl : lv_has ls 4 [(0, .ref (ad 0)), (1, .int t)] := hl
  have M : gM E A s.heap [[(ad 0, .inr (8, [.ref (ad 1), .ref (ad 4), .ref (ad 15), .ref (ad 32), .ref (ad 33), .ref (ad 38), .ref (ad 41), .int z.mn, .int z.mk, .int z.mg, .int z.jp]))], tapW E ad z.tp, spuW E ad z.sp, surW E ad z.sg, sheW E ad z.sh, wisW E ad z.wi, linW E ad z.ln, arrW E ad z.ar] s.heap [] := M
  have hwi : ∀ w ∈ u_ws RX8 TX8 11, w ∈ wsX8_waiting := by decide +kernel
  obtain ⟨Q, hQ⟩ : ∃ Q : State → Prop, MQ below (va_Qi (fun x (_ : Unit) => x = (z.waiting t)) (fun _ => kQ E A (spcGs E ad z)) A) ([.ref (ad 0), .int t] : List Value).toArray s 0 0 A = Q := ⟨_, rfl⟩
  rw [hQ]
  have hL : ∀ (n : Nat), ∀ (i : Nat) (a : Int32), iout t 0 100000 = 0 → i + n = z.ar.ct → wail z.ar t z.ar.ct 0 0 = wail z.ar t n i a → ∀ (H : Heap) (locs : List Loc), gM E A s.heap [[(ad 0, .inr (8, [.ref (ad 1), .ref (ad 4), .ref (ad 15), .ref (ad 32), .ref (ad 33), .ref (ad 38), .ref (ad 41), .int z.mn, .int z.mk, .int z.mg, .int z.jp]))], tapW E ad z.tp, spuW E ad z.sp, surW E ad z.sg, sheW E ad z.sh, wisW E ad z.wi, linW E ad z.ln, arrW E ad z.ar] H locs → ∀ ls : Array Slot, lv_has ls 4 [(0, .ref (ad 0)), (1, .int t), (2, .int a), (3, .int (nI i))] → W vp l ve (headSpec wsX8_waiting (xrm 2 42)).room s vm ([.ref (ad 0), .int t] : List Value).toArray below meth vc H locs 0 0 Q (F0 vm 17 ls []) := by
    intro n
    induction n with
    | zero =>
      intro i a c7 hi hI H locs M ls hl
      refine lv_iload_n S.1 S.2.1 dX8_waiting_17 rfl (lv_at hl 3 rfl) ?_
      refine lv_aload_n S.1 S.2.1 dX8_waiting_18 rfl (lv_at hl 0 rfl) ?_
      refine gget S hE M (C := RX8) (T := TX8) (N := 11) (ci := 8) (index := 21) hwi 0 rfl rfl 1 (by decide) (by decide +kernel) rfl dX8_waiting_19 ?_
      refine gcalli (L := [[(ad 0, .inr (8, [.ref (ad 1), .ref (ad 4), .ref (ad 15), .ref (ad 32), .ref (ad 33), .ref (ad 38), .ref (ad 41), .int z.mn, .int z.mk, .int z.mg, .int z.jp]))], tapW E ad z.tp, spuW E ad z.sp, surW E ad z.sg, sheW E ad z.sh, wisW E ad z.wi, linW E ad z.ln]) (Mid := [arrW E ad z.ar]) (Rr := []) (Mid' := [arrW E ad z.ar]) hE M rfl (List.append_nil _) (List.append_nil _) (fun hp => va_runV (As := []) (rest := [.int (nI i)]) S (c_X0_count l E ad z.ar   _) (cwV 0 S.2.2.2.2 gX8_waiting_X0_count rfl rfl rfl kd_X0_count ⟨Nat.le_of_ble_eq_true rfl, Nat.le_of_ble_eq_true rfl⟩) (hp.V hE (show vwCl[0]? = some (RX0, TX0, 6) from rfl) rfl) rfl rfl hl.1 rfl (lv_room (Nat.le_of_ble_eq_true rfl)) dX8_waiting_22 ⟨Nat.zero_le _, Nat.zero_le _⟩) (fun H locs M => ?_)
      have M : gM E A s.heap [[(ad 0, .inr (8, [.ref (ad 1), .ref (ad 4), .ref (ad 15), .ref (ad 32), .ref (ad 33), .ref (ad 38), .ref (ad 41), .int z.mn, .int z.mk, .int z.mg, .int z.jp]))], tapW E ad z.tp, spuW E ad z.sp, surW E ad z.sg, sheW E ad z.sh, wisW E ad z.wi, linW E ad z.ln, arrW E ad z.ar] H locs := M
      refine lv_icmp_ge (tgt := 61) S.1 S.2.1 dX8_waiting_25 (by decide) (fun _ => ?_) (fun c_ => absurd (nI_le (by omega) (by omega)) c_)
      refine lv_iload_n S.1 S.2.1 dX8_waiting_61 rfl (lv_at hl 2 rfl) ?_
      rw [← hQ]
      exact giret S hr hlk M (by unfold SpcS.waiting; rw [if_pos c7, hI, wail]) (rfl) dX8_waiting_62
    | succ n ih =>
      intro i a c7 hi hI H locs M ls hl
      refine lv_iload_n S.1 S.2.1 dX8_waiting_17 rfl (lv_at hl 3 rfl) ?_
      refine lv_aload_n S.1 S.2.1 dX8_waiting_18 rfl (lv_at hl 0 rfl) ?_
      refine gget S hE M (C := RX8) (T := TX8) (N := 11) (ci := 8) (index := 21) hwi 0 rfl rfl 1 (by decide) (by decide +kernel) rfl dX8_waiting_19 ?_
      refine gcalli (L := [[(ad 0, .inr (8, [.ref (ad 1), .ref (ad 4), .ref (ad 15), .ref (ad 32), .ref (ad 33), .ref (ad 38), .ref (ad 41), .int z.mn, .int z.mk, .int z.mg, .int z.jp]))], tapW E ad z.tp, spuW E ad z.sp, surW E ad z.sg, sheW E ad z.sh, wisW E ad z.wi, linW E ad z.ln]) (Mid := [arrW E ad z.ar]) (Rr := []) (Mid' := [arrW E ad z.ar]) hE M rfl (List.append_nil _) (List.append_nil _) (fun hp => va_runV (As := []) (rest := [.int (nI i)]) S (c_X0_count l E ad z.ar   _) (cwV 0 S.2.2.2.2 gX8_waiting_X0_count rfl rfl rfl kd_X0_count ⟨Nat.le_of_ble_eq_true rfl, Nat.le_of_ble_eq_true rfl⟩) (hp.V hE (show vwCl[0]? = some (RX0, TX0, 6) from rfl) rfl) rfl rfl hl.1 rfl (lv_room (Nat.le_of_ble_eq_true rfl)) dX8_waiting_22 ⟨Nat.zero_le _, Nat.zero_le _⟩) (fun H locs M => ?_)
      have M : gM E A s.heap [[(ad 0, .inr (8, [.ref (ad 1), .ref (ad 4), .ref (ad 15), .ref (ad 32), .ref (ad 33), .ref (ad 38), .ref (ad 41), .int z.mn, .int z.mk, .int z.mg, .int z.jp]))], tapW E ad z.tp, spuW E ad z.sp, surW E ad z.sg, sheW E ad z.sh, wisW E ad z.wi, linW E ad z.ln, arrW E ad z.ar] H locs := M
      refine lv_icmp_ge (tgt := 61) S.1 S.2.1 dX8_waiting_25 (by decide) (fun c_ => absurd c_ (nI_ge (by omega) (by omega))) (fun _ => ?_)
      refine lv_aload_n S.1 S.2.1 dX8_waiting_28 rfl (lv_at hl 0 rfl) ?_
      refine gget S hE M (C := RX8) (T := TX8) (N := 11) (ci := 8) (index := 21) hwi 0 rfl rfl 1 (by decide) (by decide +kernel) rfl dX8_waiting_29 ?_
      refine lv_iload_n S.1 S.2.1 dX8_waiting_32 rfl (lv_at hl 3 rfl) ?_
      refine gcalli (L := [[(ad 0, .inr (8, [.ref (ad 1), .ref (ad 4), .ref (ad 15), .ref (ad 32), .ref (ad 33), .ref (ad 38), .ref (ad 41), .int z.mn, .int z.mk, .int z.mg, .int z.jp]))], tapW E ad z.tp, spuW E ad z.sp, surW E ad z.sg, sheW E ad z.sh, wisW E ad z.wi, linW E ad z.ln]) (Mid := [arrW E ad z.ar]) (Rr := []) (Mid' := [arrW E ad z.ar]) hE M rfl (List.append_nil _) (List.append_nil _) (fun hp => va_runV (As := [.int (nI i)]) (rest := []) S (c_X0_whenAt l E ad z.ar (nI i)  _) (cwV 1 S.2.2.2.2 gX8_waiting_X0_whenAt rfl rfl rfl kd_X0_whenAt ⟨Nat.le_of_ble_eq_true rfl, Nat.le_of_ble_eq_true rfl⟩) (hp.V hE (show vwCl[0]? = some (RX0, TX0, 6) from rfl) rfl) rfl rfl hl.1 rfl (lv_room (Nat.le_of_ble_eq_true rfl)) dX8_waiting_33 ⟨Nat.zero_le _, Nat.zero_le _⟩) (fun H locs M => ?_)
      have M : gM E A s.heap [[(ad 0, .inr (8, [.ref (ad 1), .ref (ad 4), .ref (ad 15), .ref (ad 32), .ref (ad 33), .ref (ad 38), .ref (ad 41), .int z.mn, .int z.mk, .int z.mg, .int z.jp]))], tapW E ad z.tp, spuW E ad z.sp, surW E ad z.sg, sheW E ad z.sh, wisW E ad z.wi, linW E ad z.ln, arrW E ad z.ar] H locs := M
      refine lv_iload_n S.1 S.2.1 dX8_waiting_36 rfl (lv_at hl 1 rfl) ?_
      refine lv_icmp_gt (tgt := 55) S.1 S.2.1 dX8_waiting_37 (by decide) (fun c37 => ?_) (fun c37 => ?_)
      ·
        refine lv_iinc (v := nI (i + 1)) (lv' := [(3, .int (nI (i + 1))), (0, .ref (ad 0)), (1, .int t), (2, .int a)]) S.1 S.2.1 dX8_waiting_55 hl (k := 3) rfl (nI_1 _) (by decide) rfl (fun ls hl => ?_)
        refine lv_goto (tgt := 17) S.1 S.2.1 dX8_waiting_58 (by decide) ?_
        exact ih (i + 1) _ c7 (by omega) (by rw [hI, wail, if_pos c37]) _ _ M ls (lv_sub hl [1, 2, 3, 0] rfl)
      ·
        refine lv_aload_n S.1 S.2.1 dX8_waiting_40 rfl (lv_at hl 0 rfl) ?_
        refine gget S hE M (C := RX8) (T := TX8) (N := 11) (ci := 8) (index := 21) hwi 0 rfl rfl 1 (by decide) (by decide +kernel) rfl dX8_waiting_41 ?_
        refine lv_iload_n S.1 S.2.1 dX8_waiting_44 rfl (lv_at hl 3 rfl) ?_
        refine gcalli (L := [[(ad 0, .inr (8, [.ref (ad 1), .ref (ad 4), .ref (ad 15), .ref (ad 32), .ref (ad 33), .ref (ad 38), .ref (ad 41), .int z.mn, .int z.mk, .int z.mg, .int z.jp]))], tapW E ad z.tp, spuW E ad z.sp, surW E ad z.sg, sheW E ad z.sh, wisW E ad z.wi, linW E ad z.ln]) (Mid := [arrW E ad z.ar]) (Rr := []) (Mid' := [arrW E ad z.ar]) hE M rfl (List.append_nil _) (List.append_nil _) (fun hp => va_runV (As := [.int (nI i)]) (rest := []) S (c_X0_playedAt l E ad z.ar (nI i)  _) (cwV 1 S.2.2.2.2 gX8_waiting_X0_playedAt rfl rfl rfl kd_X0_playedAt ⟨Nat.le_of_ble_eq_true rfl, Nat.le_of_ble_eq_true rfl⟩) (hp.V hE (show vwCl[0]? = some (RX0, TX0, 6) from rfl) rfl) rfl rfl hl.1 rfl (lv_room (Nat.le_of_ble_eq_true rfl)) dX8_waiting_45 ⟨Nat.zero_le _, Nat.zero_le _⟩) (fun H locs M => ?_)
        have M : gM E A s.heap [[(ad 0, .inr (8, [.ref (ad 1), .ref (ad 4), .ref (ad 15), .ref (ad 32), .ref (ad 33), .ref (ad 38), .ref (ad 41), .int z.mn, .int z.mk, .int z.mg, .int z.jp]))], tapW E ad z.tp, spuW E ad z.sp, surW E ad z.sg, sheW E ad z.sh, wisW E ad z.wi, linW E ad z.ln, arrW E ad z.ar] H locs := M
        refine lv_iload_n S.1 S.2.1 dX8_waiting_48 rfl (lv_at hl 1 rfl) ?_
        refine lv_icmp_le (tgt := 55) S.1 S.2.1 dX8_waiting_49 (by decide) (fun c49 => ?_) (fun c49 => ?_)
        ·
          refine lv_iinc (v := nI (i + 1)) (lv' := [(3, .int (nI (i + 1))), (0, .ref (ad 0)), (1, .int t), (2, .int a)]) S.1 S.2.1 dX8_waiting_55 hl (k := 3) rfl (nI_1 _) (by decide) rfl (fun ls hl => ?_)
          refine lv_goto (tgt := 17) S.1 S.2.1 dX8_waiting_58 (by decide) ?_
          exact ih (i + 1) _ c7 (by omega) (by rw [hI, wail, if_neg c37, if_pos c49]) _ _ M ls (lv_sub hl [1, 2, 3, 0] rfl)
        ·
          refine lv_iinc (v := a + 1) (lv' := [(2, .int (a + 1)), (0, .ref (ad 0)), (1, .int t), (3, .int (nI i))]) S.1 S.2.1 dX8_waiting_52 hl (k := 2) rfl (rfl) (by decide) rfl (fun ls hl => ?_)
          refine lv_iinc (v := nI (i + 1)) (lv' := [(3, .int (nI (i + 1))), (2, .int (a + 1)), (0, .ref (ad 0)), (1, .int t)]) S.1 S.2.1 dX8_waiting_55 hl (k := 3) rfl (nI_1 _) (by decide) rfl (fun ls hl => ?_)
          refine lv_goto (tgt := 17) S.1 S.2.1 dX8_waiting_58 (by decide) ?_
          exact ih (i + 1) _ c7 (by omega) (by rw [hI, wail, if_neg c37, if_neg c49]) _ _ M ls (lv_sub hl [2, 3, 1, 0] rfl)
  refine lv_iload_n S.1 S.2.1 dX8_waiting_0 rfl (lv_at hl 1 rfl) ?_
  refine lv_iconst (v := 0) S.1 S.2.1 dX8_waiting_1 (by decide) ?_
  refine lv_ldc (v := 100000) S.1 S.2.1 S.2.2.2.1 (S.2.2.2.2 (.constant RX8 200 100000) (by decide +kernel)) dX8_waiting_2 ?_
  refine gcalli (L := []) (Mid := []) (Rr := [[(ad 0, .inr (8, [.ref (ad 1), .ref (ad 4), .ref (ad 15), .ref (ad 32), .ref (ad 33), .ref (ad 38), .ref (ad 41), .int z.mn, .int z.mk, .int z.mg, .int z.jp]))], tapW E ad z.tp, spuW E ad z.sp, surW E ad z.sg, sheW E ad z.sh, wisW E ad z.wi, linW E ad z.ln, arrW E ad z.ar]) (Mid' := []) hE M rfl (rfl) (rfl) (fun hp => va_runS (As := [.int t, .int 0, .int 100000]) (rest := []) S (c_X8_isOutside l E t 0 100000 _) (va_cwS 3 S.2.2.2.2 gX8_waiting_X8_isOutside rfl rfl rfl kd_X8_isOutside.2 ⟨Nat.le_of_ble_eq_true rfl, Nat.le_of_ble_eq_true rfl⟩) hp.S rfl rfl hl.1 rfl (lv_room (Nat.le_of_ble_eq_true rfl)) dX8_waiting_4 ⟨Nat.zero_le _, Nat.zero_le _⟩) (fun H locs M => ?_)
  have M : gM E A s.heap [[(ad 0, .inr (8, [.ref (ad 1), .ref (ad 4), .ref (ad 15), .ref (ad 32), .ref (ad 33), .ref (ad 38), .ref (ad 41), .int z.mn, .int z.mk, .int z.mg, .int z.jp]))], tapW E ad z.tp, spuW E ad z.sp, surW E ad z.sg, sheW E ad z.sh, wisW E ad z.wi, linW E ad z.ln, arrW E ad z.ar] H locs := M
  refine lv_if_eq (tgt := 13) S.1 S.2.1 dX8_waiting_7 (by decide) (fun c7 => ?_) (fun c7 => ?_)
  ·
    refine lv_iconst (v := 0) S.1 S.2.1 dX8_waiting_13 (by decide) ?_
    refine lv_istore_n (lv' := [(2, .int 0), (0, .ref (ad 0)), (1, .int t)]) S.1 S.2.1 dX8_waiting_14 rfl hl (by decide) rfl (fun ls hl => ?_)
    refine lv_iconst (v := 0) S.1 S.2.1 dX8_waiting_15 (by decide) ?_
    refine lv_istore_n (lv' := [(3, .int 0), (2, .int 0), (0, .ref (ad 0)), (1, .int t)]) S.1 S.2.1 dX8_waiting_16 rfl hl (by decide) rfl (fun ls hl => ?_)
    exact hL z.ar.ct 0 0 c7 (by omega) rfl _ _ M ls (lv_sub hl [2, 3, 1, 0] rfl)
  ·
    refine lv_bipush (v := (-2)) S.1 S.2.1 dX8_waiting_10 (by decide) ?_
    rw [← hQ]
    exact giret S hr hlk M (by unfold SpcS.waiting; rw [if_neg c7]) (rfl) dX8_waiting_12

set_option maxHeartbeats 4000000 in
set_option maxRecDepth 100000 in
theorem c_X8_playing (l : Launch) (E : xE) (ad : Nat → Nat) (z : SpcS) (t : Int32) (hA : z.ar.ct ≤ 120) : mI l yX8_playing wsX8_playing (xrm 2 42) E [.ref (ad 0), .int t] (spcGs E ad z) (z.playing t) (spcGs E ad z) := by
  intro sz
  refine Met.ofW (cc := cX8_playing) (maxL := 4) (ret := (some .int)) (by decide +kernel) rfl ?_
  intro vp ve s vm args below meth vc s₁ B hml hv
  obtain ⟨rfl, S, hr, hlk, hnm, A, hA, hE, M⟩ := genter B hml hv
  rw [hA]
  obtain ⟨ls, hfr, hl⟩ := gst (m := vm) (as := [.ref (ad 0), .int t]) (n := 4) (Nat.le_of_ble_eq_true rfl)
  rw [hfr]
  clear hfr hA
  have hl : lv_has ls 4 [(0, .ref (ad 0)), (1, .int t)] := hl
  have M : gM E A s.heap [[(ad 0, .inr (8, [.ref (ad 1), .ref (ad 4), .ref (ad 15), .ref (ad 32), .ref (ad 33), .ref (ad 38), .ref (ad 41), .int z.mn, .int z.mk, .int z.mg, .int z.jp]))], tapW E ad z.tp, spuW E ad z.sp, surW E ad z.sg, sheW E ad z.sh, wisW E ad z.wi, linW E ad z.ln, arrW E ad z.ar] s.heap [] := M
  have hwi : ∀ w ∈ u_ws RX8 TX8 11, w ∈ wsX8_playing := by decide +kernel
  obtain ⟨Q, hQ⟩ : ∃ Q : State → Prop, MQ below (va_Qi (fun x (_ : Unit) => x = (z.playing t)) (fun _ => kQ E A (spcGs E ad z)) A) ([.ref (ad 0), .int t] : List Value).toArray s 0 0 A = Q := ⟨_, rfl⟩
  rw [hQ]
  have hL : ∀ (n : Nat), ∀ (i : Nat), iout t 0 100000 = 0 → i + n = z.ar.ct → plal z.ar t z.ar.ct 0 = plal z.ar t n i → ∀ (H : Heap) (locs : List Loc), gM E A s.heap [[(ad 0, .inr (8, [.ref (ad 1), .ref (ad 4), .ref (ad 15), .ref (ad 32), .ref (ad 33), .ref (ad 38), .ref (ad 41), .int z.mn, .int z.mk, .int z.mg, .int z.jp]))], tapW E ad z.tp, spuW E ad z.sp, surW E ad z.sg, sheW E ad z.sh, wisW E ad z.wi, linW E ad z.ln, arrW E ad z.ar] H locs → ∀ ls : Array Slot, lv_has ls 4 [(0, .ref (ad 0)), (1, .int t), (2, .int (nI i))] → W vp l ve (headSpec wsX8_playing (xrm 2 42)).room s vm ([.ref (ad 0), .int t] : List Value).toArray below meth vc H locs 0 0 Q (F0 vm 15 ls []) := by
    intro n
    induction n with
    | zero =>
      intro i c7 hi hI H locs M ls hl
      refine lv_iload_n S.1 S.2.1 dX8_playing_15 rfl (lv_at hl 2 rfl) ?_
      refine lv_aload_n S.1 S.2.1 dX8_playing_16 rfl (lv_at hl 0 rfl) ?_
      refine gget S hE M (C := RX8) (T := TX8) (N := 11) (ci := 8) (index := 21) hwi 0 rfl rfl 1 (by decide) (by decide +kernel) rfl dX8_playing_17 ?_
      refine gcalli (L := [[(ad 0, .inr (8, [.ref (ad 1), .ref (ad 4), .ref (ad 15), .ref (ad 32), .ref (ad 33), .ref (ad 38), .ref (ad 41), .int z.mn, .int z.mk, .int z.mg, .int z.jp]))], tapW E ad z.tp, spuW E ad z.sp, surW E ad z.sg, sheW E ad z.sh, wisW E ad z.wi, linW E ad z.ln]) (Mid := [arrW E ad z.ar]) (Rr := []) (Mid' := [arrW E ad z.ar]) hE M rfl (List.append_nil _) (List.append_nil _) (fun hp => va_runV (As := []) (rest := [.int (nI i)]) S (c_X0_count l E ad z.ar   _) (cwV 0 S.2.2.2.2 gX8_playing_X0_count rfl rfl rfl kd_X0_count ⟨Nat.le_of_ble_eq_true rfl, Nat.le_of_ble_eq_true rfl⟩) (hp.V hE (show vwCl[0]? = some (RX0, TX0, 6) from rfl) rfl) rfl rfl hl.1 rfl (lv_room (Nat.le_of_ble_eq_true rfl)) dX8_playing_20 ⟨Nat.zero_le _, Nat.zero_le _⟩) (fun H locs M => ?_)
      have M : gM E A s.heap [[(ad 0, .inr (8, [.ref (ad 1), .ref (ad 4), .ref (ad 15), .ref (ad 32), .ref (ad 33), .ref (ad 38), .ref (ad 41), .int z.mn, .int z.mk, .int z.mg, .int z.jp]))], tapW E ad z.tp, spuW E ad z.sp, surW E ad z.sg, sheW E ad z.sh, wisW E ad z.wi, linW E ad z.ln, arrW E ad z.ar] H locs := M
      refine lv_icmp_ge (tgt := 69) S.1 S.2.1 dX8_playing_23 (by decide) (fun _ => ?_) (fun c_ => absurd (nI_le (by omega) (by omega)) c_)
      refine lv_bipush (v := (-9)) S.1 S.2.1 dX8_playing_69 (by decide) ?_
      rw [← hQ]
      exact giret S hr hlk M (by unfold SpcS.playing; rw [if_pos c7, hI, plal]) (rfl) dX8_playing_71
    | succ n ih =>
      intro i c7 hi hI H locs M ls hl
      refine lv_iload_n S.1 S.2.1 dX8_playing_15 rfl (lv_at hl 2 rfl) ?_
      refine lv_aload_n S.1 S.2.1 dX8_playing_16 rfl (lv_at hl 0 rfl) ?_
      refine gget S hE M (C := RX8) (T := TX8) (N := 11) (ci := 8) (index := 21) hwi 0 rfl rfl 1 (by decide) (by decide +kernel) rfl dX8_playing_17 ?_
      refine gcalli (L := [[(ad 0, .inr (8, [.ref (ad 1), .ref (ad 4), .ref (ad 15), .ref (ad 32), .ref (ad 33), .ref (ad 38), .ref (ad 41), .int z.mn, .int z.mk, .int z.mg, .int z.jp]))], tapW E ad z.tp, spuW E ad z.sp, surW E ad z.sg, sheW E ad z.sh, wisW E ad z.wi, linW E ad z.ln]) (Mid := [arrW E ad z.ar]) (Rr := []) (Mid' := [arrW E ad z.ar]) hE M rfl (List.append_nil _) (List.append_nil _) (fun hp => va_runV (As := []) (rest := [.int (nI i)]) S (c_X0_count l E ad z.ar   _) (cwV 0 S.2.2.2.2 gX8_playing_X0_count rfl rfl rfl kd_X0_count ⟨Nat.le_of_ble_eq_true rfl, Nat.le_of_ble_eq_true rfl⟩) (hp.V hE (show vwCl[0]? = some (RX0, TX0, 6) from rfl) rfl) rfl rfl hl.1 rfl (lv_room (Nat.le_of_ble_eq_true rfl)) dX8_playing_20 ⟨Nat.zero_le _, Nat.zero_le _⟩) (fun H locs M => ?_)
      have M : gM E A s.heap [[(ad 0, .inr (8, [.ref (ad 1), .ref (ad 4), .ref (ad 15), .ref (ad 32), .ref (ad 33), .ref (ad 38), .ref (ad 41), .int z.mn, .int z.mk, .int z.mg, .int z.jp]))], tapW E ad z.tp, spuW E ad z.sp, surW E ad z.sg, sheW E ad z.sh, wisW E ad z.wi, linW E ad z.ln, arrW E ad z.ar] H locs := M
      refine lv_icmp_ge (tgt := 69) S.1 S.2.1 dX8_playing_23 (by decide) (fun c_ => absurd c_ (nI_ge (by omega) (by omega))) (fun _ => ?_)
      refine lv_aload_n S.1 S.2.1 dX8_playing_26 rfl (lv_at hl 0 rfl) ?_
      refine gget S hE M (C := RX8) (T := TX8) (N := 11) (ci := 8) (index := 21) hwi 0 rfl rfl 1 (by decide) (by decide +kernel) rfl dX8_playing_27 ?_
      refine lv_iload_n S.1 S.2.1 dX8_playing_30 rfl (lv_at hl 2 rfl) ?_
      refine gcalli (L := [[(ad 0, .inr (8, [.ref (ad 1), .ref (ad 4), .ref (ad 15), .ref (ad 32), .ref (ad 33), .ref (ad 38), .ref (ad 41), .int z.mn, .int z.mk, .int z.mg, .int z.jp]))], tapW E ad z.tp, spuW E ad z.sp, surW E ad z.sg, sheW E ad z.sh, wisW E ad z.wi, linW E ad z.ln]) (Mid := [arrW E ad z.ar]) (Rr := []) (Mid' := [arrW E ad z.ar]) hE M rfl (List.append_nil _) (List.append_nil _) (fun hp => va_runV (As := [.int (nI i)]) (rest := []) S (c_X0_playedAt l E ad z.ar (nI i)  _) (cwV 1 S.2.2.2.2 gX8_playing_X0_playedAt rfl rfl rfl kd_X0_playedAt ⟨Nat.le_of_ble_eq_true rfl, Nat.le_of_ble_eq_true rfl⟩) (hp.V hE (show vwCl[0]? = some (RX0, TX0, 6) from rfl) rfl) rfl rfl hl.1 rfl (lv_room (Nat.le_of_ble_eq_true rfl)) dX8_playing_31 ⟨Nat.zero_le _, Nat.zero_le _⟩) (fun H locs M => ?_)
      have M : gM E A s.heap [[(ad 0, .inr (8, [.ref (ad 1), .ref (ad 4), .ref (ad 15), .ref (ad 32), .ref (ad 33), .ref (ad 38), .ref (ad 41), .int z.mn, .int z.mk, .int z.mg, .int z.jp]))], tapW E ad z.tp, spuW E ad z.sp, surW E ad z.sg, sheW E ad z.sh, wisW E ad z.wi, linW E ad z.ln, arrW E ad z.ar] H locs := M
      refine lv_istore_n (lv' := [(3, .int (rg 120 z.ar.pt (nI i))), (0, .ref (ad 0)), (1, .int t), (2, .int (nI i))]) S.1 S.2.1 dX8_playing_34 rfl hl (by decide) rfl (fun ls hl => ?_)
      refine lv_iload_n S.1 S.2.1 dX8_playing_35 rfl (lv_at hl 0 rfl) ?_
      refine lv_bipush (v := (-9)) S.1 S.2.1 dX8_playing_36 (by decide) ?_
      refine lv_icmp_eq (tgt := 63) S.1 S.2.1 dX8_playing_38 (by decide) (fun c38 => ?_) (fun c38 => ?_)
      ·
        refine lv_iinc (v := nI (i + 1)) (lv' := [(2, .int (nI (i + 1))), (3, .int (rg 120 z.ar.pt (nI i))), (0, .ref (ad 0)), (1, .int t)]) S.1 S.2.1 dX8_playing_63 hl (k := 3) rfl (nI_1 _) (by decide) rfl (fun ls hl => ?_)
        refine lv_goto (tgt := 15) S.1 S.2.1 dX8_playing_66 (by decide) ?_
        exact ih (i + 1) c7 (by omega) (by rw [hI, plal, if_pos c38]) _ _ M ls (lv_sub hl [2, 3, 0] rfl)
      ·
        refine lv_iload_n S.1 S.2.1 dX8_playing_41 rfl (lv_at hl 0 rfl) ?_
        refine lv_iload_n S.1 S.2.1 dX8_playing_42 rfl (lv_at hl 2 rfl) ?_
        refine lv_icmp_gt (tgt := 63) S.1 S.2.1 dX8_playing_43 (by decide) (fun c43 => ?_) (fun c43 => ?_)
        ·
          refine lv_iinc (v := nI (i + 1)) (lv' := [(2, .int (nI (i + 1))), (3, .int (rg 120 z.ar.pt (nI i))), (0, .ref (ad 0)), (1, .int t)]) S.1 S.2.1 dX8_playing_63 hl (k := 3) rfl (nI_1 _) (by decide) rfl (fun ls hl => ?_)
          refine lv_goto (tgt := 15) S.1 S.2.1 dX8_playing_66 (by decide) ?_
          exact ih (i + 1) c7 (by omega) (by rw [hI, plal, if_neg c38, if_pos c43]) _ _ M ls (lv_sub hl [2, 3, 0] rfl)
        ·
          refine lv_iload_n S.1 S.2.1 dX8_playing_46 rfl (lv_at hl 2 rfl) ?_
          refine lv_iload_n S.1 S.2.1 dX8_playing_47 rfl (lv_at hl 0 rfl) ?_
          refine lv_isub S.1 S.2.1 dX8_playing_48 ?_
          refine lv_bipush (v := 20) S.1 S.2.1 dX8_playing_49 (by decide) ?_
          refine lv_icmp_ge (tgt := 63) S.1 S.2.1 dX8_playing_51 (by decide) (fun c51 => ?_) (fun c51 => ?_)
          ·
            refine lv_iinc (v := nI (i + 1)) (lv' := [(2, .int (nI (i + 1))), (3, .int (rg 120 z.ar.pt (nI i))), (0, .ref (ad 0)), (1, .int t)]) S.1 S.2.1 dX8_playing_63 hl (k := 3) rfl (nI_1 _) (by decide) rfl (fun ls hl => ?_)
            refine lv_goto (tgt := 15) S.1 S.2.1 dX8_playing_66 (by decide) ?_
            exact ih (i + 1) c7 (by omega) (by rw [hI, plal, if_neg c38, if_neg c43, if_pos c51]) _ _ M ls (lv_sub hl [2, 3, 0] rfl)
          ·
            refine lv_aload_n S.1 S.2.1 dX8_playing_54 rfl (lv_at hl 1 rfl) ?_
            refine gget S hE M (C := RX8) (T := TX8) (N := 11) (ci := 8) (index := 21) hwi 0 rfl rfl 1 (by decide) (by decide +kernel) rfl dX8_playing_55 ?_
            refine lv_iload_n S.1 S.2.1 dX8_playing_58 rfl (lv_at hl 3 rfl) ?_
            refine gcalli (L := [[(ad 0, .inr (8, [.ref (ad 1), .ref (ad 4), .ref (ad 15), .ref (ad 32), .ref (ad 33), .ref (ad 38), .ref (ad 41), .int z.mn, .int z.mk, .int z.mg, .int z.jp]))], tapW E ad z.tp, spuW E ad z.sp, surW E ad z.sg, sheW E ad z.sh, wisW E ad z.wi, linW E ad z.ln]) (Mid := [arrW E ad z.ar]) (Rr := []) (Mid' := [arrW E ad z.ar]) hE M rfl (List.append_nil _) (List.append_nil _) (fun hp => va_runV (As := [.int (nI i)]) (rest := []) S (c_X0_frameAt l E ad z.ar (nI i)  _) (cwV 1 S.2.2.2.2 gX8_playing_X0_frameAt rfl rfl rfl kd_X0_frameAt ⟨Nat.le_of_ble_eq_true rfl, Nat.le_of_ble_eq_true rfl⟩) (hp.V hE (show vwCl[0]? = some (RX0, TX0, 6) from rfl) rfl) rfl rfl hl.1 rfl (lv_room (Nat.le_of_ble_eq_true rfl)) dX8_playing_59 ⟨Nat.zero_le _, Nat.zero_le _⟩) (fun H locs M => ?_)
            have M : gM E A s.heap [[(ad 0, .inr (8, [.ref (ad 1), .ref (ad 4), .ref (ad 15), .ref (ad 32), .ref (ad 33), .ref (ad 38), .ref (ad 41), .int z.mn, .int z.mk, .int z.mg, .int z.jp]))], tapW E ad z.tp, spuW E ad z.sp, surW E ad z.sg, sheW E ad z.sh, wisW E ad z.wi, linW E ad z.ln, arrW E ad z.ar] H locs := M
            rw [← hQ]
            exact giret S hr hlk M (by unfold SpcS.playing; rw [if_pos c7, hI, plal, if_neg c38, if_neg c43, if_neg c51]) (rfl) dX8_playing_62
  refine lv_iload_n S.1 S.2.1 dX8_playing_0 rfl (lv_at hl 1 rfl) ?_
  refine lv_iconst (v := 0) S.1 S.2.1 dX8_playing_1 (by decide) ?_
  refine lv_ldc (v := 100000) S.1 S.2.1 S.2.2.2.1 (S.2.2.2.2 (.constant RX8 200 100000) (by decide +kernel)) dX8_playing_2 ?_
  refine gcalli (L := []) (Mid := []) (Rr := [[(ad 0, .inr (8, [.ref (ad 1), .ref (ad 4), .ref (ad 15), .ref (ad 32), .ref (ad 33), .ref (ad 38), .ref (ad 41), .int z.mn, .int z.mk, .int z.mg, .int z.jp]))], tapW E ad z.tp, spuW E ad z.sp, surW E ad z.sg, sheW E ad z.sh, wisW E ad z.wi, linW E ad z.ln, arrW E ad z.ar]) (Mid' := []) hE M rfl (rfl) (rfl) (fun hp => va_runS (As := [.int t, .int 0, .int 100000]) (rest := []) S (c_X8_isOutside l E t 0 100000 _) (va_cwS 3 S.2.2.2.2 gX8_playing_X8_isOutside rfl rfl rfl kd_X8_isOutside.2 ⟨Nat.le_of_ble_eq_true rfl, Nat.le_of_ble_eq_true rfl⟩) hp.S rfl rfl hl.1 rfl (lv_room (Nat.le_of_ble_eq_true rfl)) dX8_playing_4 ⟨Nat.zero_le _, Nat.zero_le _⟩) (fun H locs M => ?_)
  have M : gM E A s.heap [[(ad 0, .inr (8, [.ref (ad 1), .ref (ad 4), .ref (ad 15), .ref (ad 32), .ref (ad 33), .ref (ad 38), .ref (ad 41), .int z.mn, .int z.mk, .int z.mg, .int z.jp]))], tapW E ad z.tp, spuW E ad z.sp, surW E ad z.sg, sheW E ad z.sh, wisW E ad z.wi, linW E ad z.ln, arrW E ad z.ar] H locs := M
  refine lv_if_eq (tgt := 13) S.1 S.2.1 dX8_playing_7 (by decide) (fun c7 => ?_) (fun c7 => ?_)
  ·
    refine lv_iconst (v := 0) S.1 S.2.1 dX8_playing_13 (by decide) ?_
    refine lv_istore_n (lv' := [(2, .int 0), (0, .ref (ad 0)), (1, .int t)]) S.1 S.2.1 dX8_playing_14 rfl hl (by decide) rfl (fun ls hl => ?_)
    exact hL z.ar.ct 0 c7 (by omega) rfl _ _ M ls (lv_sub hl [1, 2, 0] rfl)
  ·
    refine lv_bipush (v := (-2)) S.1 S.2.1 dX8_playing_10 (by decide) ?_
    rw [← hQ]
    exact giret S hr hlk M (by unfold SpcS.playing; rw [if_neg c7]) (rfl) dX8_playing_12

set_option maxHeartbeats 4000000 in
set_option maxRecDepth 100000 in
theorem c_X8_writeOpening (l : Launch) (E : xE) (ad : Nat → Nat) (z : SpcS) (k : Int32) : mV l yX8_writeOpening wsX8_writeOpening (xrm 5 107) E [.ref (ad 0), .int k] (spcGs E ad z) (spcGs E ad (z.opening k)) := by
  intro sz
  refine Met.ofW (cc := cX8_writeOpening) (maxL := 2) (ret := none) (by decide +kernel) rfl ?_
  intro vp ve s vm args below meth vc s₁ B hml hv
  obtain ⟨rfl, S, hr, hlk, hnm, A, hA, hE, M⟩ := genter B hml hv
  rw [hA]
  obtain ⟨ls, hfr, hl⟩ := gst (m := vm) (as := [.ref (ad 0), .int k]) (n := 2) (Nat.le_of_ble_eq_true rfl)
  rw [hfr]
  clear hfr hA
  have hl : lv_has ls 2 [(0, .ref (ad 0)), (1, .int k)] := hl
  have M : gM E A s.heap [[(ad 0, .inr (8, [.ref (ad 1), .ref (ad 4), .ref (ad 15), .ref (ad 32), .ref (ad 33), .ref (ad 38), .ref (ad 41), .int z.mn, .int z.mk, .int z.mg, .int z.jp]))], tapW E ad z.tp, spuW E ad z.sp, surW E ad z.sg, sheW E ad z.sh, wisW E ad z.wi, linW E ad z.ln, arrW E ad z.ar] s.heap [] := M
  have hwi : ∀ w ∈ u_ws RX8 TX8 11, w ∈ wsX8_writeOpening := by decide +kernel
  refine lv_aload_n S.1 S.2.1 dX8_writeOpening_0 rfl (lv_at hl 0 rfl) ?_
  refine gget S hE M (C := RX8) (T := TX8) (N := 11) (ci := 8) (index := 56) hwi 0 rfl rfl 6 (by decide) (by decide +kernel) rfl dX8_writeOpening_1 ?_
  refine gcallv (L := [[(ad 0, .inr (8, [.ref (ad 1), .ref (ad 4), .ref (ad 15), .ref (ad 32), .ref (ad 33), .ref (ad 38), .ref (ad 41), .int z.mn, .int z.mk, .int z.mg, .int z.jp]))], tapW E ad z.tp, spuW E ad z.sp, surW E ad z.sg]) (Mid := [sheW E ad z.sh]) (Rr := [wisW E ad z.wi, linW E ad z.ln, arrW E ad z.ar]) (Mid' := [sheW E ad (z.sh.cs, 0)]) hE M rfl (List.append_nil _) (List.append_nil _) (fun hp => va_runV (As := []) (rest := []) S (c_X3_clear l E ad z.sh   _) (cwV 0 S.2.2.2.2 gX8_writeOpening_X3_clear rfl rfl rfl kd_X3_clear ⟨Nat.le_of_ble_eq_true rfl, Nat.le_of_ble_eq_true rfl⟩) (hp.V hE (show vwCl[3]? = some (RX3, TX3, 2) from rfl) rfl) rfl rfl hl.1 rfl (lv_room (Nat.le_of_ble_eq_true rfl)) dX8_writeOpening_4 ⟨Nat.zero_le _, Nat.zero_le _⟩) (fun H locs M => ?_)
  have M : gM E A s.heap [[(ad 0, .inr (8, [.ref (ad 1), .ref (ad 4), .ref (ad 15), .ref (ad 32), .ref (ad 33), .ref (ad 38), .ref (ad 41), .int z.mn, .int z.mk, .int z.mg, .int z.jp]))], tapW E ad z.tp, spuW E ad z.sp, surW E ad z.sg, sheW E ad (z.sh.cs, 0), wisW E ad z.wi, linW E ad z.ln, arrW E ad z.ar] H locs := M
  refine lv_aload_n S.1 S.2.1 dX8_writeOpening_7 rfl (lv_at hl 0 rfl) ?_
  refine gget S hE M (C := RX8) (T := TX8) (N := 11) (ci := 8) (index := 56) hwi 0 rfl rfl 6 (by decide) (by decide +kernel) rfl dX8_writeOpening_8 ?_
  refine lv_bipush (v := 83) S.1 S.2.1 dX8_writeOpening_11 (by decide) ?_
  refine gcallv (L := [[(ad 0, .inr (8, [.ref (ad 1), .ref (ad 4), .ref (ad 15), .ref (ad 32), .ref (ad 33), .ref (ad 38), .ref (ad 41), .int z.mn, .int z.mk, .int z.mg, .int z.jp]))], tapW E ad z.tp, spuW E ad z.sp, surW E ad z.sg]) (Mid := [sheW E ad (z.sh.cs, 0)]) (Rr := [wisW E ad z.wi, linW E ad z.ln, arrW E ad z.ar]) (Mid' := [sheW E ad (SheS.put (z.sh.cs, 0) 83)]) hE M rfl (List.append_nil _) (List.append_nil _) (fun hp => va_runV (As := [.int 83]) (rest := []) S (c_X3_put l E ad (z.sh.cs, 0) 83  _) (cwV 1 S.2.2.2.2 gX8_writeOpening_X3_put rfl rfl rfl kd_X3_put ⟨Nat.le_of_ble_eq_true rfl, Nat.le_of_ble_eq_true rfl⟩) (hp.V hE (show vwCl[3]? = some (RX3, TX3, 2) from rfl) rfl) rfl rfl hl.1 rfl (lv_room (Nat.le_of_ble_eq_true rfl)) dX8_writeOpening_13 ⟨Nat.zero_le _, Nat.zero_le _⟩) (fun H locs M => ?_)
  have M : gM E A s.heap [[(ad 0, .inr (8, [.ref (ad 1), .ref (ad 4), .ref (ad 15), .ref (ad 32), .ref (ad 33), .ref (ad 38), .ref (ad 41), .int z.mn, .int z.mk, .int z.mg, .int z.jp]))], tapW E ad z.tp, spuW E ad z.sp, surW E ad z.sg, sheW E ad (SheS.put (z.sh.cs, 0) 83), wisW E ad z.wi, linW E ad z.ln, arrW E ad z.ar] H locs := M
  refine lv_aload_n S.1 S.2.1 dX8_writeOpening_16 rfl (lv_at hl 0 rfl) ?_
  refine gget S hE M (C := RX8) (T := TX8) (N := 11) (ci := 8) (index := 56) hwi 0 rfl rfl 6 (by decide) (by decide +kernel) rfl dX8_writeOpening_17 ?_
  refine lv_aload_n S.1 S.2.1 dX8_writeOpening_20 rfl (lv_at hl 0 rfl) ?_
  refine gget S hE M (C := RX8) (T := TX8) (N := 11) (ci := 8) (index := 28) hwi 0 rfl rfl 2 (by decide) (by decide +kernel) rfl dX8_writeOpening_21 ?_
  refine lv_iload_n S.1 S.2.1 dX8_writeOpening_24 rfl (lv_at hl 1 rfl) ?_
  refine gcalli (L := [[(ad 0, .inr (8, [.ref (ad 1), .ref (ad 4), .ref (ad 15), .ref (ad 32), .ref (ad 33), .ref (ad 38), .ref (ad 41), .int z.mn, .int z.mk, .int z.mg, .int z.jp]))], tapW E ad z.tp]) (Mid := [spuW E ad z.sp]) (Rr := [surW E ad z.sg, sheW E ad (SheS.put (z.sh.cs, 0) 83), wisW E ad z.wi, linW E ad z.ln, arrW E ad z.ar]) (Mid' := [spuW E ad z.sp]) hE M rfl (List.append_nil _) (List.append_nil _) (fun hp => va_runV (As := [.int k]) (rest := [.ref (ad 41)]) S (c_X4_headOf l E ad z.sp k  _) (cwV 1 S.2.2.2.2 gX8_writeOpening_X4_headOf rfl rfl rfl kd_X4_headOf ⟨Nat.le_of_ble_eq_true rfl, Nat.le_of_ble_eq_true rfl⟩) (hp.V hE (show vwCl[4]? = some (RX4, TX4, 9) from rfl) rfl) rfl rfl hl.1 rfl (lv_room (Nat.le_of_ble_eq_true rfl)) dX8_writeOpening_25 ⟨Nat.zero_le _, Nat.zero_le _⟩) (fun H locs M => ?_)
  have M : gM E A s.heap [[(ad 0, .inr (8, [.ref (ad 1), .ref (ad 4), .ref (ad 15), .ref (ad 32), .ref (ad 33), .ref (ad 38), .ref (ad 41), .int z.mn, .int z.mk, .int z.mg, .int z.jp]))], tapW E ad z.tp, spuW E ad z.sp, surW E ad z.sg, sheW E ad (SheS.put (z.sh.cs, 0) 83), wisW E ad z.wi, linW E ad z.ln, arrW E ad z.ar] H locs := M
  refine gcallv (L := [[(ad 0, .inr (8, [.ref (ad 1), .ref (ad 4), .ref (ad 15), .ref (ad 32), .ref (ad 33), .ref (ad 38), .ref (ad 41), .int z.mn, .int z.mk, .int z.mg, .int z.jp]))], tapW E ad z.tp, spuW E ad z.sp, surW E ad z.sg]) (Mid := [sheW E ad (SheS.put (z.sh.cs, 0) 83)]) (Rr := [wisW E ad z.wi, linW E ad z.ln, arrW E ad z.ar]) (Mid' := [sheW E ad (SheS.number (SheS.put (z.sh.cs, 0) 83) (rg 120 z.sp.hd k))]) hE M rfl (List.append_nil _) (List.append_nil _) (fun hp => va_runV (As := [.int (rg 120 z.sp.hd k)]) (rest := []) S (c_X3_putNumber l E ad (SheS.put (z.sh.cs, 0) 83) (rg 120 z.sp.hd k)  _) (cwV 1 S.2.2.2.2 gX8_writeOpening_X3_putNumber rfl rfl rfl kd_X3_putNumber ⟨Nat.le_of_ble_eq_true rfl, Nat.le_of_ble_eq_true rfl⟩) (hp.V hE (show vwCl[3]? = some (RX3, TX3, 2) from rfl) rfl) rfl rfl hl.1 rfl (lv_room (Nat.le_of_ble_eq_true rfl)) dX8_writeOpening_28 ⟨Nat.zero_le _, Nat.zero_le _⟩) (fun H locs M => ?_)
  have M : gM E A s.heap [[(ad 0, .inr (8, [.ref (ad 1), .ref (ad 4), .ref (ad 15), .ref (ad 32), .ref (ad 33), .ref (ad 38), .ref (ad 41), .int z.mn, .int z.mk, .int z.mg, .int z.jp]))], tapW E ad z.tp, spuW E ad z.sp, surW E ad z.sg, sheW E ad (SheS.number (SheS.put (z.sh.cs, 0) 83) (rg 120 z.sp.hd k)), wisW E ad z.wi, linW E ad z.ln, arrW E ad z.ar] H locs := M
  refine lv_aload_n S.1 S.2.1 dX8_writeOpening_31 rfl (lv_at hl 0 rfl) ?_
  refine gget S hE M (C := RX8) (T := TX8) (N := 11) (ci := 8) (index := 56) hwi 0 rfl rfl 6 (by decide) (by decide +kernel) rfl dX8_writeOpening_32 ?_
  refine lv_bipush (v := 32) S.1 S.2.1 dX8_writeOpening_35 (by decide) ?_
  refine gcallv (L := [[(ad 0, .inr (8, [.ref (ad 1), .ref (ad 4), .ref (ad 15), .ref (ad 32), .ref (ad 33), .ref (ad 38), .ref (ad 41), .int z.mn, .int z.mk, .int z.mg, .int z.jp]))], tapW E ad z.tp, spuW E ad z.sp, surW E ad z.sg]) (Mid := [sheW E ad (SheS.number (SheS.put (z.sh.cs, 0) 83) (rg 120 z.sp.hd k))]) (Rr := [wisW E ad z.wi, linW E ad z.ln, arrW E ad z.ar]) (Mid' := [sheW E ad (SheS.put (SheS.number (SheS.put (z.sh.cs, 0) 83) (rg 120 z.sp.hd k)) 32)]) hE M rfl (List.append_nil _) (List.append_nil _) (fun hp => va_runV (As := [.int 32]) (rest := []) S (c_X3_put l E ad (SheS.number (SheS.put (z.sh.cs, 0) 83) (rg 120 z.sp.hd k)) 32  _) (cwV 1 S.2.2.2.2 gX8_writeOpening_X3_put rfl rfl rfl kd_X3_put ⟨Nat.le_of_ble_eq_true rfl, Nat.le_of_ble_eq_true rfl⟩) (hp.V hE (show vwCl[3]? = some (RX3, TX3, 2) from rfl) rfl) rfl rfl hl.1 rfl (lv_room (Nat.le_of_ble_eq_true rfl)) dX8_writeOpening_37 ⟨Nat.zero_le _, Nat.zero_le _⟩) (fun H locs M => ?_)
  have M : gM E A s.heap [[(ad 0, .inr (8, [.ref (ad 1), .ref (ad 4), .ref (ad 15), .ref (ad 32), .ref (ad 33), .ref (ad 38), .ref (ad 41), .int z.mn, .int z.mk, .int z.mg, .int z.jp]))], tapW E ad z.tp, spuW E ad z.sp, surW E ad z.sg, sheW E ad (SheS.put (SheS.number (SheS.put (z.sh.cs, 0) 83) (rg 120 z.sp.hd k)) 32), wisW E ad z.wi, linW E ad z.ln, arrW E ad z.ar] H locs := M
  refine lv_aload_n S.1 S.2.1 dX8_writeOpening_40 rfl (lv_at hl 0 rfl) ?_
  refine gget S hE M (C := RX8) (T := TX8) (N := 11) (ci := 8) (index := 56) hwi 0 rfl rfl 6 (by decide) (by decide +kernel) rfl dX8_writeOpening_41 ?_
  refine lv_aload_n S.1 S.2.1 dX8_writeOpening_44 rfl (lv_at hl 0 rfl) ?_
  refine gget S hE M (C := RX8) (T := TX8) (N := 11) (ci := 8) (index := 28) hwi 0 rfl rfl 2 (by decide) (by decide +kernel) rfl dX8_writeOpening_45 ?_
  refine lv_iload_n S.1 S.2.1 dX8_writeOpening_48 rfl (lv_at hl 1 rfl) ?_
  refine gcalli (L := [[(ad 0, .inr (8, [.ref (ad 1), .ref (ad 4), .ref (ad 15), .ref (ad 32), .ref (ad 33), .ref (ad 38), .ref (ad 41), .int z.mn, .int z.mk, .int z.mg, .int z.jp]))], tapW E ad z.tp]) (Mid := [spuW E ad z.sp]) (Rr := [surW E ad z.sg, sheW E ad (SheS.put (SheS.number (SheS.put (z.sh.cs, 0) 83) (rg 120 z.sp.hd k)) 32), wisW E ad z.wi, linW E ad z.ln, arrW E ad z.ar]) (Mid' := [spuW E ad z.sp]) hE M rfl (List.append_nil _) (List.append_nil _) (fun hp => va_runV (As := [.int k]) (rest := [.ref (ad 41)]) S (c_X4_mannerOf l E ad z.sp k  _) (cwV 1 S.2.2.2.2 gX8_writeOpening_X4_mannerOf rfl rfl rfl kd_X4_mannerOf ⟨Nat.le_of_ble_eq_true rfl, Nat.le_of_ble_eq_true rfl⟩) (hp.V hE (show vwCl[4]? = some (RX4, TX4, 9) from rfl) rfl) rfl rfl hl.1 rfl (lv_room (Nat.le_of_ble_eq_true rfl)) dX8_writeOpening_49 ⟨Nat.zero_le _, Nat.zero_le _⟩) (fun H locs M => ?_)
  have M : gM E A s.heap [[(ad 0, .inr (8, [.ref (ad 1), .ref (ad 4), .ref (ad 15), .ref (ad 32), .ref (ad 33), .ref (ad 38), .ref (ad 41), .int z.mn, .int z.mk, .int z.mg, .int z.jp]))], tapW E ad z.tp, spuW E ad z.sp, surW E ad z.sg, sheW E ad (SheS.put (SheS.number (SheS.put (z.sh.cs, 0) 83) (rg 120 z.sp.hd k)) 32), wisW E ad z.wi, linW E ad z.ln, arrW E ad z.ar] H locs := M
  refine gcallr (L := []) (Mid := []) (Rr := [[(ad 0, .inr (8, [.ref (ad 1), .ref (ad 4), .ref (ad 15), .ref (ad 32), .ref (ad 33), .ref (ad 38), .ref (ad 41), .int z.mn, .int z.mk, .int z.mg, .int z.jp]))], tapW E ad z.tp, spuW E ad z.sp, surW E ad z.sg, sheW E ad (SheS.put (SheS.number (SheS.put (z.sh.cs, 0) 83) (rg 120 z.sp.hd k)) 32), wisW E ad z.wi, linW E ad z.ln, arrW E ad z.ar]) (Mid' := []) hE M rfl (rfl) (rfl) (fun hp => va_runS (As := [.int (rg 120 z.sp.mn k)]) (rest := [.ref (ad 41)]) S (c_X8_wordOf l E (rg 120 z.sp.mn k) _) (va_cwS 1 S.2.2.2.2 gX8_writeOpening_X8_wordOf rfl rfl rfl kd_X8_wordOf.2 ⟨Nat.le_of_ble_eq_true rfl, Nat.le_of_ble_eq_true rfl⟩) hp.S rfl rfl hl.1 rfl (lv_room (Nat.le_of_ble_eq_true rfl)) dX8_writeOpening_52 ⟨Nat.zero_le _, Nat.zero_le _⟩) (fun H locs M => ?_)
  have M : gM E A s.heap [[(ad 0, .inr (8, [.ref (ad 1), .ref (ad 4), .ref (ad 15), .ref (ad 32), .ref (ad 33), .ref (ad 38), .ref (ad 41), .int z.mn, .int z.mk, .int z.mg, .int z.jp]))], tapW E ad z.tp, spuW E ad z.sp, surW E ad z.sg, sheW E ad (SheS.put (SheS.number (SheS.put (z.sh.cs, 0) 83) (rg 120 z.sp.hd k)) 32), wisW E ad z.wi, linW E ad z.ln, arrW E ad z.ar] H locs := M
  refine gcallv (L := [[(ad 0, .inr (8, [.ref (ad 1), .ref (ad 4), .ref (ad 15), .ref (ad 32), .ref (ad 33), .ref (ad 38), .ref (ad 41), .int z.mn, .int z.mk, .int z.mg, .int z.jp]))], tapW E ad z.tp, spuW E ad z.sp, surW E ad z.sg]) (Mid := [sheW E ad (SheS.put (SheS.number (SheS.put (z.sh.cs, 0) 83) (rg 120 z.sp.hd k)) 32)]) (Rr := [wisW E ad z.wi, linW E ad z.ln, arrW E ad z.ar]) (Mid' := [sheW E ad (SheS.word (SheS.put (SheS.number (SheS.put (z.sh.cs, 0) 83) (rg 120 z.sp.hd k)) 32) (mOf (rg 120 z.sp.mn k)))]) hE M rfl (List.append_nil _) (List.append_nil _) (fun hp => va_runV (As := [.ref (xK E (mOf (rg 120 z.sp.mn k)))]) (rest := []) S (c_X3_putWord l E ad (SheS.put (SheS.number (SheS.put (z.sh.cs, 0) 83) (rg 120 z.sp.hd k)) 32) (mOf (rg 120 z.sp.mn k))  (mOf_lt _) _) (cwV 1 S.2.2.2.2 gX8_writeOpening_X3_putWord rfl rfl rfl kd_X3_putWord ⟨Nat.le_of_ble_eq_true rfl, Nat.le_of_ble_eq_true rfl⟩) (hp.V hE (show vwCl[3]? = some (RX3, TX3, 2) from rfl) rfl) rfl rfl hl.1 rfl (lv_room (Nat.le_of_ble_eq_true rfl)) dX8_writeOpening_55 ⟨Nat.zero_le _, Nat.zero_le _⟩) (fun H locs M => ?_)
  have M : gM E A s.heap [[(ad 0, .inr (8, [.ref (ad 1), .ref (ad 4), .ref (ad 15), .ref (ad 32), .ref (ad 33), .ref (ad 38), .ref (ad 41), .int z.mn, .int z.mk, .int z.mg, .int z.jp]))], tapW E ad z.tp, spuW E ad z.sp, surW E ad z.sg, sheW E ad (SheS.word (SheS.put (SheS.number (SheS.put (z.sh.cs, 0) 83) (rg 120 z.sp.hd k)) 32) (mOf (rg 120 z.sp.mn k))), wisW E ad z.wi, linW E ad z.ln, arrW E ad z.ar] H locs := M
  refine lv_aload_n S.1 S.2.1 dX8_writeOpening_58 rfl (lv_at hl 0 rfl) ?_
  refine gget S hE M (C := RX8) (T := TX8) (N := 11) (ci := 8) (index := 56) hwi 0 rfl rfl 6 (by decide) (by decide +kernel) rfl dX8_writeOpening_59 ?_
  refine lv_bipush (v := 32) S.1 S.2.1 dX8_writeOpening_62 (by decide) ?_
  refine gcallv (L := [[(ad 0, .inr (8, [.ref (ad 1), .ref (ad 4), .ref (ad 15), .ref (ad 32), .ref (ad 33), .ref (ad 38), .ref (ad 41), .int z.mn, .int z.mk, .int z.mg, .int z.jp]))], tapW E ad z.tp, spuW E ad z.sp, surW E ad z.sg]) (Mid := [sheW E ad (SheS.word (SheS.put (SheS.number (SheS.put (z.sh.cs, 0) 83) (rg 120 z.sp.hd k)) 32) (mOf (rg 120 z.sp.mn k)))]) (Rr := [wisW E ad z.wi, linW E ad z.ln, arrW E ad z.ar]) (Mid' := [sheW E ad (SheS.put (SheS.word (SheS.put (SheS.number (SheS.put (z.sh.cs, 0) 83) (rg 120 z.sp.hd k)) 32) (mOf (rg 120 z.sp.mn k))) 32)]) hE M rfl (List.append_nil _) (List.append_nil _) (fun hp => va_runV (As := [.int 32]) (rest := []) S (c_X3_put l E ad (SheS.word (SheS.put (SheS.number (SheS.put (z.sh.cs, 0) 83) (rg 120 z.sp.hd k)) 32) (mOf (rg 120 z.sp.mn k))) 32  _) (cwV 1 S.2.2.2.2 gX8_writeOpening_X3_put rfl rfl rfl kd_X3_put ⟨Nat.le_of_ble_eq_true rfl, Nat.le_of_ble_eq_true rfl⟩) (hp.V hE (show vwCl[3]? = some (RX3, TX3, 2) from rfl) rfl) rfl rfl hl.1 rfl (lv_room (Nat.le_of_ble_eq_true rfl)) dX8_writeOpening_64 ⟨Nat.zero_le _, Nat.zero_le _⟩) (fun H locs M => ?_)
  have M : gM E A s.heap [[(ad 0, .inr (8, [.ref (ad 1), .ref (ad 4), .ref (ad 15), .ref (ad 32), .ref (ad 33), .ref (ad 38), .ref (ad 41), .int z.mn, .int z.mk, .int z.mg, .int z.jp]))], tapW E ad z.tp, spuW E ad z.sp, surW E ad z.sg, sheW E ad (SheS.put (SheS.word (SheS.put (SheS.number (SheS.put (z.sh.cs, 0) 83) (rg 120 z.sp.hd k)) 32) (mOf (rg 120 z.sp.mn k))) 32), wisW E ad z.wi, linW E ad z.ln, arrW E ad z.ar] H locs := M
  refine lv_aload_n S.1 S.2.1 dX8_writeOpening_67 rfl (lv_at hl 0 rfl) ?_
  refine gget S hE M (C := RX8) (T := TX8) (N := 11) (ci := 8) (index := 56) hwi 0 rfl rfl 6 (by decide) (by decide +kernel) rfl dX8_writeOpening_68 ?_
  refine lv_bipush (v := 80) S.1 S.2.1 dX8_writeOpening_71 (by decide) ?_
  refine gcallv (L := [[(ad 0, .inr (8, [.ref (ad 1), .ref (ad 4), .ref (ad 15), .ref (ad 32), .ref (ad 33), .ref (ad 38), .ref (ad 41), .int z.mn, .int z.mk, .int z.mg, .int z.jp]))], tapW E ad z.tp, spuW E ad z.sp, surW E ad z.sg]) (Mid := [sheW E ad (SheS.put (SheS.word (SheS.put (SheS.number (SheS.put (z.sh.cs, 0) 83) (rg 120 z.sp.hd k)) 32) (mOf (rg 120 z.sp.mn k))) 32)]) (Rr := [wisW E ad z.wi, linW E ad z.ln, arrW E ad z.ar]) (Mid' := [sheW E ad (SheS.put (SheS.put (SheS.word (SheS.put (SheS.number (SheS.put (z.sh.cs, 0) 83) (rg 120 z.sp.hd k)) 32) (mOf (rg 120 z.sp.mn k))) 32) 80)]) hE M rfl (List.append_nil _) (List.append_nil _) (fun hp => va_runV (As := [.int 80]) (rest := []) S (c_X3_put l E ad (SheS.put (SheS.word (SheS.put (SheS.number (SheS.put (z.sh.cs, 0) 83) (rg 120 z.sp.hd k)) 32) (mOf (rg 120 z.sp.mn k))) 32) 80  _) (cwV 1 S.2.2.2.2 gX8_writeOpening_X3_put rfl rfl rfl kd_X3_put ⟨Nat.le_of_ble_eq_true rfl, Nat.le_of_ble_eq_true rfl⟩) (hp.V hE (show vwCl[3]? = some (RX3, TX3, 2) from rfl) rfl) rfl rfl hl.1 rfl (lv_room (Nat.le_of_ble_eq_true rfl)) dX8_writeOpening_73 ⟨Nat.zero_le _, Nat.zero_le _⟩) (fun H locs M => ?_)
  have M : gM E A s.heap [[(ad 0, .inr (8, [.ref (ad 1), .ref (ad 4), .ref (ad 15), .ref (ad 32), .ref (ad 33), .ref (ad 38), .ref (ad 41), .int z.mn, .int z.mk, .int z.mg, .int z.jp]))], tapW E ad z.tp, spuW E ad z.sp, surW E ad z.sg, sheW E ad (SheS.put (SheS.put (SheS.word (SheS.put (SheS.number (SheS.put (z.sh.cs, 0) 83) (rg 120 z.sp.hd k)) 32) (mOf (rg 120 z.sp.mn k))) 32) 80), wisW E ad z.wi, linW E ad z.ln, arrW E ad z.ar] H locs := M
  refine lv_aload_n S.1 S.2.1 dX8_writeOpening_76 rfl (lv_at hl 0 rfl) ?_
  refine gget S hE M (C := RX8) (T := TX8) (N := 11) (ci := 8) (index := 56) hwi 0 rfl rfl 6 (by decide) (by decide +kernel) rfl dX8_writeOpening_77 ?_
  refine lv_aload_n S.1 S.2.1 dX8_writeOpening_80 rfl (lv_at hl 0 rfl) ?_
  refine gget S hE M (C := RX8) (T := TX8) (N := 11) (ci := 8) (index := 28) hwi 0 rfl rfl 2 (by decide) (by decide +kernel) rfl dX8_writeOpening_81 ?_
  refine lv_iload_n S.1 S.2.1 dX8_writeOpening_84 rfl (lv_at hl 1 rfl) ?_
  refine gcalli (L := [[(ad 0, .inr (8, [.ref (ad 1), .ref (ad 4), .ref (ad 15), .ref (ad 32), .ref (ad 33), .ref (ad 38), .ref (ad 41), .int z.mn, .int z.mk, .int z.mg, .int z.jp]))], tapW E ad z.tp]) (Mid := [spuW E ad z.sp]) (Rr := [surW E ad z.sg, sheW E ad (SheS.put (SheS.put (SheS.word (SheS.put (SheS.number (SheS.put (z.sh.cs, 0) 83) (rg 120 z.sp.hd k)) 32) (mOf (rg 120 z.sp.mn k))) 32) 80), wisW E ad z.wi, linW E ad z.ln, arrW E ad z.ar]) (Mid' := [spuW E ad z.sp]) hE M rfl (List.append_nil _) (List.append_nil _) (fun hp => va_runV (As := [.int k]) (rest := [.ref (ad 41)]) S (c_X4_timeOf l E ad z.sp k  _) (cwV 1 S.2.2.2.2 gX8_writeOpening_X4_timeOf rfl rfl rfl kd_X4_timeOf ⟨Nat.le_of_ble_eq_true rfl, Nat.le_of_ble_eq_true rfl⟩) (hp.V hE (show vwCl[4]? = some (RX4, TX4, 9) from rfl) rfl) rfl rfl hl.1 rfl (lv_room (Nat.le_of_ble_eq_true rfl)) dX8_writeOpening_85 ⟨Nat.zero_le _, Nat.zero_le _⟩) (fun H locs M => ?_)
  have M : gM E A s.heap [[(ad 0, .inr (8, [.ref (ad 1), .ref (ad 4), .ref (ad 15), .ref (ad 32), .ref (ad 33), .ref (ad 38), .ref (ad 41), .int z.mn, .int z.mk, .int z.mg, .int z.jp]))], tapW E ad z.tp, spuW E ad z.sp, surW E ad z.sg, sheW E ad (SheS.put (SheS.put (SheS.word (SheS.put (SheS.number (SheS.put (z.sh.cs, 0) 83) (rg 120 z.sp.hd k)) 32) (mOf (rg 120 z.sp.mn k))) 32) 80), wisW E ad z.wi, linW E ad z.ln, arrW E ad z.ar] H locs := M
  refine gcallv (L := [[(ad 0, .inr (8, [.ref (ad 1), .ref (ad 4), .ref (ad 15), .ref (ad 32), .ref (ad 33), .ref (ad 38), .ref (ad 41), .int z.mn, .int z.mk, .int z.mg, .int z.jp]))], tapW E ad z.tp, spuW E ad z.sp, surW E ad z.sg]) (Mid := [sheW E ad (SheS.put (SheS.put (SheS.word (SheS.put (SheS.number (SheS.put (z.sh.cs, 0) 83) (rg 120 z.sp.hd k)) 32) (mOf (rg 120 z.sp.mn k))) 32) 80)]) (Rr := [wisW E ad z.wi, linW E ad z.ln, arrW E ad z.ar]) (Mid' := [sheW E ad (SheS.number (SheS.put (SheS.put (SheS.word (SheS.put (SheS.number (SheS.put (z.sh.cs, 0) 83) (rg 120 z.sp.hd k)) 32) (mOf (rg 120 z.sp.mn k))) 32) 80) (rg 120 z.sp.tm k))]) hE M rfl (List.append_nil _) (List.append_nil _) (fun hp => va_runV (As := [.int (rg 120 z.sp.tm k)]) (rest := []) S (c_X3_putNumber l E ad (SheS.put (SheS.put (SheS.word (SheS.put (SheS.number (SheS.put (z.sh.cs, 0) 83) (rg 120 z.sp.hd k)) 32) (mOf (rg 120 z.sp.mn k))) 32) 80) (rg 120 z.sp.tm k)  _) (cwV 1 S.2.2.2.2 gX8_writeOpening_X3_putNumber rfl rfl rfl kd_X3_putNumber ⟨Nat.le_of_ble_eq_true rfl, Nat.le_of_ble_eq_true rfl⟩) (hp.V hE (show vwCl[3]? = some (RX3, TX3, 2) from rfl) rfl) rfl rfl hl.1 rfl (lv_room (Nat.le_of_ble_eq_true rfl)) dX8_writeOpening_88 ⟨Nat.zero_le _, Nat.zero_le _⟩) (fun H locs M => ?_)
  have M : gM E A s.heap [[(ad 0, .inr (8, [.ref (ad 1), .ref (ad 4), .ref (ad 15), .ref (ad 32), .ref (ad 33), .ref (ad 38), .ref (ad 41), .int z.mn, .int z.mk, .int z.mg, .int z.jp]))], tapW E ad z.tp, spuW E ad z.sp, surW E ad z.sg, sheW E ad (SheS.number (SheS.put (SheS.put (SheS.word (SheS.put (SheS.number (SheS.put (z.sh.cs, 0) 83) (rg 120 z.sp.hd k)) 32) (mOf (rg 120 z.sp.mn k))) 32) 80) (rg 120 z.sp.tm k)), wisW E ad z.wi, linW E ad z.ln, arrW E ad z.ar] H locs := M
  refine lv_aload_n S.1 S.2.1 dX8_writeOpening_91 rfl (lv_at hl 0 rfl) ?_
  refine gget S hE M (C := RX8) (T := TX8) (N := 11) (ci := 8) (index := 56) hwi 0 rfl rfl 6 (by decide) (by decide +kernel) rfl dX8_writeOpening_92 ?_
  refine lv_bipush (v := 32) S.1 S.2.1 dX8_writeOpening_95 (by decide) ?_
  refine gcallv (L := [[(ad 0, .inr (8, [.ref (ad 1), .ref (ad 4), .ref (ad 15), .ref (ad 32), .ref (ad 33), .ref (ad 38), .ref (ad 41), .int z.mn, .int z.mk, .int z.mg, .int z.jp]))], tapW E ad z.tp, spuW E ad z.sp, surW E ad z.sg]) (Mid := [sheW E ad (SheS.number (SheS.put (SheS.put (SheS.word (SheS.put (SheS.number (SheS.put (z.sh.cs, 0) 83) (rg 120 z.sp.hd k)) 32) (mOf (rg 120 z.sp.mn k))) 32) 80) (rg 120 z.sp.tm k))]) (Rr := [wisW E ad z.wi, linW E ad z.ln, arrW E ad z.ar]) (Mid' := [sheW E ad (SheS.put (SheS.number (SheS.put (SheS.put (SheS.word (SheS.put (SheS.number (SheS.put (z.sh.cs, 0) 83) (rg 120 z.sp.hd k)) 32) (mOf (rg 120 z.sp.mn k))) 32) 80) (rg 120 z.sp.tm k)) 32)]) hE M rfl (List.append_nil _) (List.append_nil _) (fun hp => va_runV (As := [.int 32]) (rest := []) S (c_X3_put l E ad (SheS.number (SheS.put (SheS.put (SheS.word (SheS.put (SheS.number (SheS.put (z.sh.cs, 0) 83) (rg 120 z.sp.hd k)) 32) (mOf (rg 120 z.sp.mn k))) 32) 80) (rg 120 z.sp.tm k)) 32  _) (cwV 1 S.2.2.2.2 gX8_writeOpening_X3_put rfl rfl rfl kd_X3_put ⟨Nat.le_of_ble_eq_true rfl, Nat.le_of_ble_eq_true rfl⟩) (hp.V hE (show vwCl[3]? = some (RX3, TX3, 2) from rfl) rfl) rfl rfl hl.1 rfl (lv_room (Nat.le_of_ble_eq_true rfl)) dX8_writeOpening_97 ⟨Nat.zero_le _, Nat.zero_le _⟩) (fun H locs M => ?_)
  have M : gM E A s.heap [[(ad 0, .inr (8, [.ref (ad 1), .ref (ad 4), .ref (ad 15), .ref (ad 32), .ref (ad 33), .ref (ad 38), .ref (ad 41), .int z.mn, .int z.mk, .int z.mg, .int z.jp]))], tapW E ad z.tp, spuW E ad z.sp, surW E ad z.sg, sheW E ad (SheS.put (SheS.number (SheS.put (SheS.put (SheS.word (SheS.put (SheS.number (SheS.put (z.sh.cs, 0) 83) (rg 120 z.sp.hd k)) 32) (mOf (rg 120 z.sp.mn k))) 32) 80) (rg 120 z.sp.tm k)) 32), wisW E ad z.wi, linW E ad z.ln, arrW E ad z.ar] H locs := M
  exact gvret S hr hlk M (rfl) dX8_writeOpening_100

set_option maxHeartbeats 4000000 in
set_option maxRecDepth 100000 in
theorem c_X8_signOfFrame (l : Launch) (E : xE) (ad : Nat → Nat) (z : SpcS) (n : Int32) : mI l yX8_signOfFrame wsX8_signOfFrame (xrm 2 42) E [.ref (ad 0), .int n] (spcGs E ad z) (z.sign n) (spcGs E ad z) := by
  intro sz
  refine Met.ofW (cc := cX8_signOfFrame) (maxL := 3) (ret := (some .int)) (by decide +kernel) rfl ?_
  intro vp ve s vm args below meth vc s₁ B hml hv
  obtain ⟨rfl, S, hr, hlk, hnm, A, hA, hE, M⟩ := genter B hml hv
  rw [hA]
  obtain ⟨ls, hfr, hl⟩ := gst (m := vm) (as := [.ref (ad 0), .int n]) (n := 3) (Nat.le_of_ble_eq_true rfl)
  rw [hfr]
  clear hfr hA
  have hl : lv_has ls 3 [(0, .ref (ad 0)), (1, .int n)] := hl
  have M : gM E A s.heap [[(ad 0, .inr (8, [.ref (ad 1), .ref (ad 4), .ref (ad 15), .ref (ad 32), .ref (ad 33), .ref (ad 38), .ref (ad 41), .int z.mn, .int z.mk, .int z.mg, .int z.jp]))], tapW E ad z.tp, spuW E ad z.sp, surW E ad z.sg, sheW E ad z.sh, wisW E ad z.wi, linW E ad z.ln, arrW E ad z.ar] s.heap [] := M
  have hwi : ∀ w ∈ u_ws RX8 TX8 11, w ∈ wsX8_signOfFrame := by decide +kernel
  refine lv_aload_n S.1 S.2.1 dX8_signOfFrame_0 rfl (lv_at hl 0 rfl) ?_
  refine gget S hE M (C := RX8) (T := TX8) (N := 11) (ci := 8) (index := 21) hwi 0 rfl rfl 1 (by decide) (by decide +kernel) rfl dX8_signOfFrame_1 ?_
  refine lv_iload_n S.1 S.2.1 dX8_signOfFrame_4 rfl (lv_at hl 1 rfl) ?_
  refine gcalli (L := [[(ad 0, .inr (8, [.ref (ad 1), .ref (ad 4), .ref (ad 15), .ref (ad 32), .ref (ad 33), .ref (ad 38), .ref (ad 41), .int z.mn, .int z.mk, .int z.mg, .int z.jp]))], tapW E ad z.tp, spuW E ad z.sp, surW E ad z.sg, sheW E ad z.sh, wisW E ad z.wi, linW E ad z.ln]) (Mid := [arrW E ad z.ar]) (Rr := []) (Mid' := [arrW E ad z.ar]) hE M rfl (List.append_nil _) (List.append_nil _) (fun hp => va_runV (As := [.int n]) (rest := []) S (c_X0_placeOf l E ad z.ar n  _) (cwV 1 S.2.2.2.2 gX8_signOfFrame_X0_placeOf rfl rfl rfl kd_X0_placeOf ⟨Nat.le_of_ble_eq_true rfl, Nat.le_of_ble_eq_true rfl⟩) (hp.V hE (show vwCl[0]? = some (RX0, TX0, 6) from rfl) rfl) rfl rfl hl.1 rfl (lv_room (Nat.le_of_ble_eq_true rfl)) dX8_signOfFrame_5 ⟨Nat.zero_le _, Nat.zero_le _⟩) (fun H locs M => ?_)
  have M : gM E A s.heap [[(ad 0, .inr (8, [.ref (ad 1), .ref (ad 4), .ref (ad 15), .ref (ad 32), .ref (ad 33), .ref (ad 38), .ref (ad 41), .int z.mn, .int z.mk, .int z.mg, .int z.jp]))], tapW E ad z.tp, spuW E ad z.sp, surW E ad z.sg, sheW E ad z.sh, wisW E ad z.wi, linW E ad z.ln, arrW E ad z.ar] H locs := M
  refine lv_istore_n (lv' := [(2, .int (rg 300 z.ar.pa n - 1)), (0, .ref (ad 0)), (1, .int n)]) S.1 S.2.1 dX8_signOfFrame_8 rfl hl (by decide) rfl (fun ls hl => ?_)
  refine lv_iload_n S.1 S.2.1 dX8_signOfFrame_9 rfl (lv_at hl 0 rfl) ?_
  refine lv_iconst (v := (-1)) S.1 S.2.1 dX8_signOfFrame_10 (by decide) ?_
  refine lv_icmp_ne (tgt := 17) S.1 S.2.1 dX8_signOfFrame_11 (by decide) (fun c11 => ?_) (fun c11 => ?_)
  ·
    refine lv_aload_n S.1 S.2.1 dX8_signOfFrame_17 rfl (lv_at hl 1 rfl) ?_
    refine gget S hE M (C := RX8) (T := TX8) (N := 11) (ci := 8) (index := 21) hwi 0 rfl rfl 1 (by decide) (by decide +kernel) rfl dX8_signOfFrame_18 ?_
    refine lv_iload_n S.1 S.2.1 dX8_signOfFrame_21 rfl (lv_at hl 0 rfl) ?_
    refine gcalli (L := [[(ad 0, .inr (8, [.ref (ad 1), .ref (ad 4), .ref (ad 15), .ref (ad 32), .ref (ad 33), .ref (ad 38), .ref (ad 41), .int z.mn, .int z.mk, .int z.mg, .int z.jp]))], tapW E ad z.tp, spuW E ad z.sp, surW E ad z.sg, sheW E ad z.sh, wisW E ad z.wi, linW E ad z.ln]) (Mid := [arrW E ad z.ar]) (Rr := []) (Mid' := [arrW E ad z.ar]) hE M rfl (List.append_nil _) (List.append_nil _) (fun hp => va_runV (As := [.int (rg 300 z.ar.pa n - 1)]) (rest := []) S (c_X0_playedAt l E ad z.ar (rg 300 z.ar.pa n - 1)  _) (cwV 1 S.2.2.2.2 gX8_signOfFrame_X0_playedAt rfl rfl rfl kd_X0_playedAt ⟨Nat.le_of_ble_eq_true rfl, Nat.le_of_ble_eq_true rfl⟩) (hp.V hE (show vwCl[0]? = some (RX0, TX0, 6) from rfl) rfl) rfl rfl hl.1 rfl (lv_room (Nat.le_of_ble_eq_true rfl)) dX8_signOfFrame_22 ⟨Nat.zero_le _, Nat.zero_le _⟩) (fun H locs M => ?_)
    have M : gM E A s.heap [[(ad 0, .inr (8, [.ref (ad 1), .ref (ad 4), .ref (ad 15), .ref (ad 32), .ref (ad 33), .ref (ad 38), .ref (ad 41), .int z.mn, .int z.mk, .int z.mg, .int z.jp]))], tapW E ad z.tp, spuW E ad z.sp, surW E ad z.sg, sheW E ad z.sh, wisW E ad z.wi, linW E ad z.ln, arrW E ad z.ar] H locs := M
    refine lv_bipush (v := (-9)) S.1 S.2.1 dX8_signOfFrame_25 (by decide) ?_
    refine lv_icmp_ne (tgt := 35) S.1 S.2.1 dX8_signOfFrame_27 (by decide) (fun c27 => ?_) (fun c27 => ?_)
    ·
      refine lv_bipush (v := 43) S.1 S.2.1 dX8_signOfFrame_35 (by decide) ?_
      exact giret S hr hlk M (by unfold SpcS.sign; rw [if_neg c11, if_neg c27]) (rfl) dX8_signOfFrame_37
    ·
      refine lv_bipush (v := 45) S.1 S.2.1 dX8_signOfFrame_30 (by decide) ?_
      refine lv_goto (tgt := 37) S.1 S.2.1 dX8_signOfFrame_32 (by decide) ?_
      exact giret S hr hlk M (by unfold SpcS.sign; rw [if_neg c11, if_pos c27]) (rfl) dX8_signOfFrame_37
  ·
    refine lv_bipush (v := 46) S.1 S.2.1 dX8_signOfFrame_14 (by decide) ?_
    exact giret S hr hlk M (by unfold SpcS.sign; rw [if_pos c11]) (rfl) dX8_signOfFrame_16

set_option maxHeartbeats 4000000 in
set_option maxRecDepth 100000 in
theorem c_X8_text (l : Launch) (E : xE) (ad : Nat → Nat) (z : SpcS) (k : Int32) (i : Int32) : mI l yX8_text wsX8_text (xrm 6 128) E [.ref (ad 0), .int k, .int i] (spcGs E ad z) ((SpcS.text z k i).1) (spcGs E ad ((SpcS.text z k i).2)) := by
  intro sz
  refine Met.ofW (cc := cX8_text) (maxL := 5) (ret := (some .int)) (by decide +kernel) rfl ?_
  intro vp ve s vm args below meth vc s₁ B hml hv
  obtain ⟨rfl, S, hr, hlk, hnm, A, hA, hE, M⟩ := genter B hml hv
  rw [hA]
  obtain ⟨ls, hfr, hl⟩ := gst (m := vm) (as := [.ref (ad 0), .int k, .int i]) (n := 5) (Nat.le_of_ble_eq_true rfl)
  rw [hfr]
  clear hfr hA
  have hl : lv_has ls 5 [(0, .ref (ad 0)), (1, .int k), (2, .int i)] := hl
  have M : gM E A s.heap [[(ad 0, .inr (8, [.ref (ad 1), .ref (ad 4), .ref (ad 15), .ref (ad 32), .ref (ad 33), .ref (ad 38), .ref (ad 41), .int z.mn, .int z.mk, .int z.mg, .int z.jp]))], tapW E ad z.tp, spuW E ad z.sp, surW E ad z.sg, sheW E ad z.sh, wisW E ad z.wi, linW E ad z.ln, arrW E ad z.ar] s.heap [] := M
  have hwi : ∀ w ∈ u_ws RX8 TX8 11, w ∈ wsX8_text := by decide +kernel
  refine lv_iload_n S.1 S.2.1 dX8_text_0 rfl (lv_at hl 1 rfl) ?_
  refine lv_iconst (v := 0) S.1 S.2.1 dX8_text_1 (by decide) ?_
  refine lv_aload_n S.1 S.2.1 dX8_text_2 rfl (lv_at hl 0 rfl) ?_
  refine gget S hE M (C := RX8) (T := TX8) (N := 11) (ci := 8) (index := 28) hwi 0 rfl rfl 2 (by decide) (by decide +kernel) rfl dX8_text_3 ?_
  refine gcalli (L := [[(ad 0, .inr (8, [.ref (ad 1), .ref (ad 4), .ref (ad 15), .ref (ad 32), .ref (ad 33), .ref (ad 38), .ref (ad 41), .int z.mn, .int z.mk, .int z.mg, .int z.jp]))], tapW E ad z.tp]) (Mid := [spuW E ad z.sp]) (Rr := [surW E ad z.sg, sheW E ad z.sh, wisW E ad z.wi, linW E ad z.ln, arrW E ad z.ar]) (Mid' := [spuW E ad z.sp]) hE M rfl (List.append_nil _) (List.append_nil _) (fun hp => va_runV (As := []) (rest := [.int 0, .int k]) S (c_X4_count l E ad z.sp   _) (cwV 0 S.2.2.2.2 gX8_text_X4_count rfl rfl rfl kd_X4_count ⟨Nat.le_of_ble_eq_true rfl, Nat.le_of_ble_eq_true rfl⟩) (hp.V hE (show vwCl[4]? = some (RX4, TX4, 9) from rfl) rfl) rfl rfl hl.1 rfl (lv_room (Nat.le_of_ble_eq_true rfl)) dX8_text_6 ⟨Nat.zero_le _, Nat.zero_le _⟩) (fun H locs M => ?_)
  have M : gM E A s.heap [[(ad 0, .inr (8, [.ref (ad 1), .ref (ad 4), .ref (ad 15), .ref (ad 32), .ref (ad 33), .ref (ad 38), .ref (ad 41), .int z.mn, .int z.mk, .int z.mg, .int z.jp]))], tapW E ad z.tp, spuW E ad z.sp, surW E ad z.sg, sheW E ad z.sh, wisW E ad z.wi, linW E ad z.ln, arrW E ad z.ar] H locs := M
  refine lv_iconst (v := 1) S.1 S.2.1 dX8_text_9 (by decide) ?_
  refine lv_isub S.1 S.2.1 dX8_text_10 ?_
  refine gcalli (L := []) (Mid := []) (Rr := [[(ad 0, .inr (8, [.ref (ad 1), .ref (ad 4), .ref (ad 15), .ref (ad 32), .ref (ad 33), .ref (ad 38), .ref (ad 41), .int z.mn, .int z.mk, .int z.mg, .int z.jp]))], tapW E ad z.tp, spuW E ad z.sp, surW E ad z.sg, sheW E ad z.sh, wisW E ad z.wi, linW E ad z.ln, arrW E ad z.ar]) (Mid' := []) hE M rfl (rfl) (rfl) (fun hp => va_runS (As := [.int k, .int 0, .int ((nI z.sp.ct) - 1)]) (rest := []) S (c_X8_isOutside l E k 0 ((nI z.sp.ct) - 1) _) (va_cwS 3 S.2.2.2.2 gX8_text_X8_isOutside rfl rfl rfl kd_X8_isOutside.2 ⟨Nat.le_of_ble_eq_true rfl, Nat.le_of_ble_eq_true rfl⟩) hp.S rfl rfl hl.1 rfl (lv_room (Nat.le_of_ble_eq_true rfl)) dX8_text_11 ⟨Nat.zero_le _, Nat.zero_le _⟩) (fun H locs M => ?_)
  have M : gM E A s.heap [[(ad 0, .inr (8, [.ref (ad 1), .ref (ad 4), .ref (ad 15), .ref (ad 32), .ref (ad 33), .ref (ad 38), .ref (ad 41), .int z.mn, .int z.mk, .int z.mg, .int z.jp]))], tapW E ad z.tp, spuW E ad z.sp, surW E ad z.sg, sheW E ad z.sh, wisW E ad z.wi, linW E ad z.ln, arrW E ad z.ar] H locs := M
  refine lv_if_eq (tgt := 19) S.1 S.2.1 dX8_text_14 (by decide) (fun c14 => ?_) (fun c14 => ?_)
  ·
    refine lv_iload_n S.1 S.2.1 dX8_text_19 rfl (lv_at hl 2 rfl) ?_
    refine lv_iconst (v := (-1)) S.1 S.2.1 dX8_text_20 (by decide) ?_
    refine lv_sipush (v := 399) S.1 S.2.1 dX8_text_21 (by decide) ?_
    refine gcalli (L := []) (Mid := []) (Rr := [[(ad 0, .inr (8, [.ref (ad 1), .ref (ad 4), .ref (ad 15), .ref (ad 32), .ref (ad 33), .ref (ad 38), .ref (ad 41), .int z.mn, .int z.mk, .int z.mg, .int z.jp]))], tapW E ad z.tp, spuW E ad z.sp, surW E ad z.sg, sheW E ad z.sh, wisW E ad z.wi, linW E ad z.ln, arrW E ad z.ar]) (Mid' := []) hE M rfl (rfl) (rfl) (fun hp => va_runS (As := [.int i, .int (-1), .int 399]) (rest := []) S (c_X8_isOutside l E i (-1) 399 _) (va_cwS 3 S.2.2.2.2 gX8_text_X8_isOutside rfl rfl rfl kd_X8_isOutside.2 ⟨Nat.le_of_ble_eq_true rfl, Nat.le_of_ble_eq_true rfl⟩) hp.S rfl rfl hl.1 rfl (lv_room (Nat.le_of_ble_eq_true rfl)) dX8_text_24 ⟨Nat.zero_le _, Nat.zero_le _⟩) (fun H locs M => ?_)
    have M : gM E A s.heap [[(ad 0, .inr (8, [.ref (ad 1), .ref (ad 4), .ref (ad 15), .ref (ad 32), .ref (ad 33), .ref (ad 38), .ref (ad 41), .int z.mn, .int z.mk, .int z.mg, .int z.jp]))], tapW E ad z.tp, spuW E ad z.sp, surW E ad z.sg, sheW E ad z.sh, wisW E ad z.wi, linW E ad z.ln, arrW E ad z.ar] H locs := M
    refine lv_if_eq (tgt := 33) S.1 S.2.1 dX8_text_27 (by decide) (fun c27 => ?_) (fun c27 => ?_)
    ·
      refine lv_aload_n S.1 S.2.1 dX8_text_33 rfl (lv_at hl 0 rfl) ?_
      refine lv_iload_n S.1 S.2.1 dX8_text_34 rfl (lv_at hl 1 rfl) ?_
      refine gcallv (L := []) (Mid := spcGs E ad z) (Rr := []) (Mid' := spcGs E ad (z.opening k)) hE M rfl (rfl) (rfl) (fun hp => va_runV (As := [.int k]) (rest := []) S (c_X8_writeOpening l E ad z k  _) (cwV 1 S.2.2.2.2 gX8_text_X8_writeOpening rfl rfl rfl kd_X8_writeOpening ⟨Nat.le_of_ble_eq_true rfl, Nat.le_of_ble_eq_true rfl⟩) (hp.V hE (show vwCl[8]? = some (RX8, TX8, 11) from rfl) rfl) rfl rfl hl.1 rfl (lv_room (Nat.le_of_ble_eq_true rfl)) dX8_text_35 ⟨Nat.zero_le _, Nat.zero_le _⟩) (fun H locs M => ?_)
      have M : gM E A s.heap [[(ad 0, .inr (8, [.ref (ad 1), .ref (ad 4), .ref (ad 15), .ref (ad 32), .ref (ad 33), .ref (ad 38), .ref (ad 41), .int ((z.opening k).mn), .int ((z.opening k).mk), .int ((z.opening k).mg), .int ((z.opening k).jp)]))], tapW E ad ((z.opening k).tp), spuW E ad ((z.opening k).sp), surW E ad ((z.opening k).sg), sheW E ad ((z.opening k).sh), wisW E ad ((z.opening k).wi), linW E ad ((z.opening k).ln), arrW E ad ((z.opening k).ar)] H locs := M
      refine lv_aload_n S.1 S.2.1 dX8_text_38 rfl (lv_at hl 0 rfl) ?_
      refine gget S hE M (C := RX8) (T := TX8) (N := 11) (ci := 8) (index := 28) hwi 0 rfl rfl 2 (by decide) (by decide +kernel) rfl dX8_text_39 ?_
      refine lv_iload_n S.1 S.2.1 dX8_text_42 rfl (lv_at hl 1 rfl) ?_
      refine gcalli (L := [[(ad 0, .inr (8, [.ref (ad 1), .ref (ad 4), .ref (ad 15), .ref (ad 32), .ref (ad 33), .ref (ad 38), .ref (ad 41), .int ((z.opening k).mn), .int ((z.opening k).mk), .int ((z.opening k).mg), .int ((z.opening k).jp)]))], tapW E ad ((z.opening k).tp)]) (Mid := [spuW E ad ((z.opening k).sp)]) (Rr := [surW E ad ((z.opening k).sg), sheW E ad ((z.opening k).sh), wisW E ad ((z.opening k).wi), linW E ad ((z.opening k).ln), arrW E ad ((z.opening k).ar)]) (Mid' := [spuW E ad ((z.opening k).sp)]) hE M rfl (List.append_nil _) (List.append_nil _) (fun hp => va_runV (As := [.int k]) (rest := []) S (c_X4_greatestOf l E ad ((z.opening k).sp) k  _) (cwV 1 S.2.2.2.2 gX8_text_X4_greatestOf rfl rfl rfl kd_X4_greatestOf ⟨Nat.le_of_ble_eq_true rfl, Nat.le_of_ble_eq_true rfl⟩) (hp.V hE (show vwCl[4]? = some (RX4, TX4, 9) from rfl) rfl) rfl rfl hl.1 rfl (lv_room (Nat.le_of_ble_eq_true rfl)) dX8_text_43 ⟨Nat.zero_le _, Nat.zero_le _⟩) (fun H locs M => ?_)
      have M : gM E A s.heap [[(ad 0, .inr (8, [.ref (ad 1), .ref (ad 4), .ref (ad 15), .ref (ad 32), .ref (ad 33), .ref (ad 38), .ref (ad 41), .int ((z.opening k).mn), .int ((z.opening k).mk), .int ((z.opening k).mg), .int ((z.opening k).jp)]))], tapW E ad ((z.opening k).tp), spuW E ad ((z.opening k).sp), surW E ad ((z.opening k).sg), sheW E ad ((z.opening k).sh), wisW E ad ((z.opening k).wi), linW E ad ((z.opening k).ln), arrW E ad ((z.opening k).ar)] H locs := M
      refine lv_aload_n S.1 S.2.1 dX8_text_46 rfl (lv_at hl 0 rfl) ?_
      refine gget S hE M (C := RX8) (T := TX8) (N := 11) (ci := 8) (index := 28) hwi 0 rfl rfl 2 (by decide) (by decide +kernel) rfl dX8_text_47 ?_
      refine lv_iload_n S.1 S.2.1 dX8_text_50 rfl (lv_at hl 1 rfl) ?_
      refine gcalli (L := [[(ad 0, .inr (8, [.ref (ad 1), .ref (ad 4), .ref (ad 15), .ref (ad 32), .ref (ad 33), .ref (ad 38), .ref (ad 41), .int ((z.opening k).mn), .int ((z.opening k).mk), .int ((z.opening k).mg), .int ((z.opening k).jp)]))], tapW E ad ((z.opening k).tp)]) (Mid := [spuW E ad ((z.opening k).sp)]) (Rr := [surW E ad ((z.opening k).sg), sheW E ad ((z.opening k).sh), wisW E ad ((z.opening k).wi), linW E ad ((z.opening k).ln), arrW E ad ((z.opening k).ar)]) (Mid' := [spuW E ad ((z.opening k).sp)]) hE M rfl (List.append_nil _) (List.append_nil _) (fun hp => va_runV (As := [.int k]) (rest := [.int (rg 120 ((z.opening k).sp).gr k)]) S (c_X4_headOf l E ad ((z.opening k).sp) k  _) (cwV 1 S.2.2.2.2 gX8_text_X4_headOf rfl rfl rfl kd_X4_headOf ⟨Nat.le_of_ble_eq_true rfl, Nat.le_of_ble_eq_true rfl⟩) (hp.V hE (show vwCl[4]? = some (RX4, TX4, 9) from rfl) rfl) rfl rfl hl.1 rfl (lv_room (Nat.le_of_ble_eq_true rfl)) dX8_text_51 ⟨Nat.zero_le _, Nat.zero_le _⟩) (fun H locs M => ?_)
      have M : gM E A s.heap [[(ad 0, .inr (8, [.ref (ad 1), .ref (ad 4), .ref (ad 15), .ref (ad 32), .ref (ad 33), .ref (ad 38), .ref (ad 41), .int ((z.opening k).mn), .int ((z.opening k).mk), .int ((z.opening k).mg), .int ((z.opening k).jp)]))], tapW E ad ((z.opening k).tp), spuW E ad ((z.opening k).sp), surW E ad ((z.opening k).sg), sheW E ad ((z.opening k).sh), wisW E ad ((z.opening k).wi), linW E ad ((z.opening k).ln), arrW E ad ((z.opening k).ar)] H locs := M
      refine lv_isub S.1 S.2.1 dX8_text_54 ?_
      refine lv_iconst (v := 1) S.1 S.2.1 dX8_text_55 (by decide) ?_
      refine lv_iadd S.1 S.2.1 dX8_text_56 ?_
      refine lv_istore_n (lv' := [(3, .int (((rg 120 ((z.opening k).sp).gr k) - (rg 120 ((z.opening k).sp).hd k)) + 1)), (0, .ref (ad 0)), (1, .int k), (2, .int i)]) S.1 S.2.1 dX8_text_57 rfl hl (by decide) rfl (fun ls hl => ?_)
      refine lv_iload_n S.1 S.2.1 dX8_text_58 rfl (lv_at hl 3 rfl) ?_
      refine lv_iconst (v := (-1)) S.1 S.2.1 dX8_text_59 (by decide) ?_
      refine lv_icmp_ne (tgt := 73) S.1 S.2.1 dX8_text_60 (by decide) (fun c60 => ?_) (fun c60 => ?_)
      ·
        refine lv_iload_n S.1 S.2.1 dX8_text_73 rfl (lv_at hl 3 rfl) ?_
        refine lv_aload_n S.1 S.2.1 dX8_text_74 rfl (lv_at hl 1 rfl) ?_
        refine gget S hE M (C := RX8) (T := TX8) (N := 11) (ci := 8) (index := 56) hwi 0 rfl rfl 6 (by decide) (by decide +kernel) rfl dX8_text_75 ?_
        refine gcalli (L := [[(ad 0, .inr (8, [.ref (ad 1), .ref (ad 4), .ref (ad 15), .ref (ad 32), .ref (ad 33), .ref (ad 38), .ref (ad 41), .int ((z.opening k).mn), .int ((z.opening k).mk), .int ((z.opening k).mg), .int ((z.opening k).jp)]))], tapW E ad ((z.opening k).tp), spuW E ad ((z.opening k).sp), surW E ad ((z.opening k).sg)]) (Mid := [sheW E ad ((z.opening k).sh)]) (Rr := [wisW E ad ((z.opening k).wi), linW E ad ((z.opening k).ln), arrW E ad ((z.opening k).ar)]) (Mid' := [sheW E ad ((z.opening k).sh)]) hE M rfl (List.append_nil _) (List.append_nil _) (fun hp => va_runV (As := []) (rest := [.int i]) S (c_X3_size l E ad ((z.opening k).sh)   _) (cwV 0 S.2.2.2.2 gX8_text_X3_size rfl rfl rfl kd_X3_size ⟨Nat.le_of_ble_eq_true rfl, Nat.le_of_ble_eq_true rfl⟩) (hp.V hE (show vwCl[3]? = some (RX3, TX3, 2) from rfl) rfl) rfl rfl hl.1 rfl (lv_room (Nat.le_of_ble_eq_true rfl)) dX8_text_78 ⟨Nat.zero_le _, Nat.zero_le _⟩) (fun H locs M => ?_)
        have M : gM E A s.heap [[(ad 0, .inr (8, [.ref (ad 1), .ref (ad 4), .ref (ad 15), .ref (ad 32), .ref (ad 33), .ref (ad 38), .ref (ad 41), .int ((z.opening k).mn), .int ((z.opening k).mk), .int ((z.opening k).mg), .int ((z.opening k).jp)]))], tapW E ad ((z.opening k).tp), spuW E ad ((z.opening k).sp), surW E ad ((z.opening k).sg), sheW E ad ((z.opening k).sh), wisW E ad ((z.opening k).wi), linW E ad ((z.opening k).ln), arrW E ad ((z.opening k).ar)] H locs := M
        refine lv_icmp_ge (tgt := 93) S.1 S.2.1 dX8_text_81 (by decide) (fun c81 => ?_) (fun c81 => ?_)
        ·
          refine lv_iload_n S.1 S.2.1 dX8_text_93 rfl (lv_at hl 3 rfl) ?_
          refine lv_aload_n S.1 S.2.1 dX8_text_94 rfl (lv_at hl 1 rfl) ?_
          refine gget S hE M (C := RX8) (T := TX8) (N := 11) (ci := 8) (index := 56) hwi 0 rfl rfl 6 (by decide) (by decide +kernel) rfl dX8_text_95 ?_
          refine gcalli (L := [[(ad 0, .inr (8, [.ref (ad 1), .ref (ad 4), .ref (ad 15), .ref (ad 32), .ref (ad 33), .ref (ad 38), .ref (ad 41), .int ((z.opening k).mn), .int ((z.opening k).mk), .int ((z.opening k).mg), .int ((z.opening k).jp)]))], tapW E ad ((z.opening k).tp), spuW E ad ((z.opening k).sp), surW E ad ((z.opening k).sg)]) (Mid := [sheW E ad ((z.opening k).sh)]) (Rr := [wisW E ad ((z.opening k).wi), linW E ad ((z.opening k).ln), arrW E ad ((z.opening k).ar)]) (Mid' := [sheW E ad ((z.opening k).sh)]) hE M rfl (List.append_nil _) (List.append_nil _) (fun hp => va_runV (As := []) (rest := [.int i]) S (c_X3_size l E ad ((z.opening k).sh)   _) (cwV 0 S.2.2.2.2 gX8_text_X3_size rfl rfl rfl kd_X3_size ⟨Nat.le_of_ble_eq_true rfl, Nat.le_of_ble_eq_true rfl⟩) (hp.V hE (show vwCl[3]? = some (RX3, TX3, 2) from rfl) rfl) rfl rfl hl.1 rfl (lv_room (Nat.le_of_ble_eq_true rfl)) dX8_text_98 ⟨Nat.zero_le _, Nat.zero_le _⟩) (fun H locs M => ?_)
          have M : gM E A s.heap [[(ad 0, .inr (8, [.ref (ad 1), .ref (ad 4), .ref (ad 15), .ref (ad 32), .ref (ad 33), .ref (ad 38), .ref (ad 41), .int ((z.opening k).mn), .int ((z.opening k).mk), .int ((z.opening k).mg), .int ((z.opening k).jp)]))], tapW E ad ((z.opening k).tp), spuW E ad ((z.opening k).sp), surW E ad ((z.opening k).sg), sheW E ad ((z.opening k).sh), wisW E ad ((z.opening k).wi), linW E ad ((z.opening k).ln), arrW E ad ((z.opening k).ar)] H locs := M
          refine lv_isub S.1 S.2.1 dX8_text_101 ?_
          refine lv_istore (lv' := [(4, .int (i - (nI ((z.opening k).sh).sz))), (3, .int (((rg 120 ((z.opening k).sp).gr k) - (rg 120 ((z.opening k).sp).hd k)) + 1)), (0, .ref (ad 0)), (1, .int k), (2, .int i)]) S.1 S.2.1 dX8_text_102 hl (by decide) rfl (fun ls hl => ?_)
          refine lv_iload S.1 S.2.1 dX8_text_104 (lv_at hl 0 rfl) ?_
          refine lv_iload_n S.1 S.2.1 dX8_text_106 rfl (lv_at hl 1 rfl) ?_
          refine lv_icmp_ge (tgt := 128) S.1 S.2.1 dX8_text_107 (by decide) (fun c107 => ?_) (fun c107 => ?_)
          ·
            refine lv_bipush (v := (-9)) S.1 S.2.1 dX8_text_128 (by decide) ?_
            have he : SpcS.text z k i = ((-9), z.opening k) := by unfold SpcS.text; rw [if_pos c14, if_pos c27, if_neg c60, if_pos (show nI (z.sheet k).sz ≤ i from c81), if_pos (show z.frames k ≤ i - nI (z.sheet k).sz from c107)] <;> rfl
            exact giret S hr hlk M (by rw [he]) (by rw [he]; rfl) dX8_text_130
          ·
            refine lv_aload_n S.1 S.2.1 dX8_text_110 rfl (lv_at hl 2 rfl) ?_
            refine lv_aload_n S.1 S.2.1 dX8_text_111 rfl (lv_at hl 2 rfl) ?_
            refine gget S hE M (C := RX8) (T := TX8) (N := 11) (ci := 8) (index := 28) hwi 0 rfl rfl 2 (by decide) (by decide +kernel) rfl dX8_text_112 ?_
            refine lv_iload_n S.1 S.2.1 dX8_text_115 rfl (lv_at hl 3 rfl) ?_
            refine gcalli (L := [[(ad 0, .inr (8, [.ref (ad 1), .ref (ad 4), .ref (ad 15), .ref (ad 32), .ref (ad 33), .ref (ad 38), .ref (ad 41), .int ((z.opening k).mn), .int ((z.opening k).mk), .int ((z.opening k).mg), .int ((z.opening k).jp)]))], tapW E ad ((z.opening k).tp)]) (Mid := [spuW E ad ((z.opening k).sp)]) (Rr := [surW E ad ((z.opening k).sg), sheW E ad ((z.opening k).sh), wisW E ad ((z.opening k).wi), linW E ad ((z.opening k).ln), arrW E ad ((z.opening k).ar)]) (Mid' := [spuW E ad ((z.opening k).sp)]) hE M rfl (List.append_nil _) (List.append_nil _) (fun hp => va_runV (As := [.int k]) (rest := [.ref (ad 0)]) S (c_X4_headOf l E ad ((z.opening k).sp) k  _) (cwV 1 S.2.2.2.2 gX8_text_X4_headOf rfl rfl rfl kd_X4_headOf ⟨Nat.le_of_ble_eq_true rfl, Nat.le_of_ble_eq_true rfl⟩) (hp.V hE (show vwCl[4]? = some (RX4, TX4, 9) from rfl) rfl) rfl rfl hl.1 rfl (lv_room (Nat.le_of_ble_eq_true rfl)) dX8_text_116 ⟨Nat.zero_le _, Nat.zero_le _⟩) (fun H locs M => ?_)
            have M : gM E A s.heap [[(ad 0, .inr (8, [.ref (ad 1), .ref (ad 4), .ref (ad 15), .ref (ad 32), .ref (ad 33), .ref (ad 38), .ref (ad 41), .int ((z.opening k).mn), .int ((z.opening k).mk), .int ((z.opening k).mg), .int ((z.opening k).jp)]))], tapW E ad ((z.opening k).tp), spuW E ad ((z.opening k).sp), surW E ad ((z.opening k).sg), sheW E ad ((z.opening k).sh), wisW E ad ((z.opening k).wi), linW E ad ((z.opening k).ln), arrW E ad ((z.opening k).ar)] H locs := M
            refine lv_iload S.1 S.2.1 dX8_text_119 (lv_at hl 0 rfl) ?_
            refine lv_iadd S.1 S.2.1 dX8_text_121 ?_
            refine gcalli (L := []) (Mid := spcGs E ad (z.opening k)) (Rr := []) (Mid' := spcGs E ad (z.opening k)) hE M rfl (rfl) (rfl) (fun hp => va_runV (As := [.int ((rg 120 ((z.opening k).sp).hd k) + (i - (nI ((z.opening k).sh).sz)))]) (rest := []) S (c_X8_signOfFrame l E ad (z.opening k) ((rg 120 ((z.opening k).sp).hd k) + (i - (nI ((z.opening k).sh).sz)))  _) (cwV 1 S.2.2.2.2 gX8_text_X8_signOfFrame rfl rfl rfl kd_X8_signOfFrame ⟨Nat.le_of_ble_eq_true rfl, Nat.le_of_ble_eq_true rfl⟩) (hp.V hE (show vwCl[8]? = some (RX8, TX8, 11) from rfl) rfl) rfl rfl hl.1 rfl (lv_room (Nat.le_of_ble_eq_true rfl)) dX8_text_122 ⟨Nat.zero_le _, Nat.zero_le _⟩) (fun H locs M => ?_)
            have M : gM E A s.heap [[(ad 0, .inr (8, [.ref (ad 1), .ref (ad 4), .ref (ad 15), .ref (ad 32), .ref (ad 33), .ref (ad 38), .ref (ad 41), .int ((z.opening k).mn), .int ((z.opening k).mk), .int ((z.opening k).mg), .int ((z.opening k).jp)]))], tapW E ad ((z.opening k).tp), spuW E ad ((z.opening k).sp), surW E ad ((z.opening k).sg), sheW E ad ((z.opening k).sh), wisW E ad ((z.opening k).wi), linW E ad ((z.opening k).ln), arrW E ad ((z.opening k).ar)] H locs := M
            refine lv_goto (tgt := 130) S.1 S.2.1 dX8_text_125 (by decide) ?_
            have he : SpcS.text z k i = ((z.opening k).sign ((rg 120 ((z.opening k).sp).hd k) + (i - (nI ((z.opening k).sh).sz))), z.opening k) := by unfold SpcS.text; rw [if_pos c14, if_pos c27, if_neg c60, if_pos (show nI (z.sheet k).sz ≤ i from c81), if_neg (show ¬ z.frames k ≤ i - nI (z.sheet k).sz from c107)] <;> rfl
            exact giret S hr hlk M (by rw [he]) (by rw [he]; rfl) dX8_text_130
        ·
          refine lv_aload_n S.1 S.2.1 dX8_text_84 rfl (lv_at hl 1 rfl) ?_
          refine gget S hE M (C := RX8) (T := TX8) (N := 11) (ci := 8) (index := 56) hwi 0 rfl rfl 6 (by decide) (by decide +kernel) rfl dX8_text_85 ?_
          refine lv_iload_n S.1 S.2.1 dX8_text_88 rfl (lv_at hl 3 rfl) ?_
          refine gcalli (L := [[(ad 0, .inr (8, [.ref (ad 1), .ref (ad 4), .ref (ad 15), .ref (ad 32), .ref (ad 33), .ref (ad 38), .ref (ad 41), .int ((z.opening k).mn), .int ((z.opening k).mk), .int ((z.opening k).mg), .int ((z.opening k).jp)]))], tapW E ad ((z.opening k).tp), spuW E ad ((z.opening k).sp), surW E ad ((z.opening k).sg)]) (Mid := [sheW E ad ((z.opening k).sh)]) (Rr := [wisW E ad ((z.opening k).wi), linW E ad ((z.opening k).ln), arrW E ad ((z.opening k).ar)]) (Mid' := [sheW E ad ((z.opening k).sh)]) hE M rfl (List.append_nil _) (List.append_nil _) (fun hp => va_runV (As := [.int i]) (rest := []) S (c_X3_codeAt l E ad ((z.opening k).sh) i  _) (cwV 1 S.2.2.2.2 gX8_text_X3_codeAt rfl rfl rfl kd_X3_codeAt ⟨Nat.le_of_ble_eq_true rfl, Nat.le_of_ble_eq_true rfl⟩) (hp.V hE (show vwCl[3]? = some (RX3, TX3, 2) from rfl) rfl) rfl rfl hl.1 rfl (lv_room (Nat.le_of_ble_eq_true rfl)) dX8_text_89 ⟨Nat.zero_le _, Nat.zero_le _⟩) (fun H locs M => ?_)
          have M : gM E A s.heap [[(ad 0, .inr (8, [.ref (ad 1), .ref (ad 4), .ref (ad 15), .ref (ad 32), .ref (ad 33), .ref (ad 38), .ref (ad 41), .int ((z.opening k).mn), .int ((z.opening k).mk), .int ((z.opening k).mg), .int ((z.opening k).jp)]))], tapW E ad ((z.opening k).tp), spuW E ad ((z.opening k).sp), surW E ad ((z.opening k).sg), sheW E ad ((z.opening k).sh), wisW E ad ((z.opening k).wi), linW E ad ((z.opening k).ln), arrW E ad ((z.opening k).ar)] H locs := M
          have he : SpcS.text z k i = (rg 32 ((z.opening k).sh).cs i, z.opening k) := by unfold SpcS.text; rw [if_pos c14, if_pos c27, if_neg c60, if_neg (show ¬ nI (z.sheet k).sz ≤ i from c81)] <;> rfl
          exact giret S hr hlk M (by rw [he]) (by rw [he]; rfl) dX8_text_92
      ·
        refine lv_aload_n S.1 S.2.1 dX8_text_63 rfl (lv_at hl 1 rfl) ?_
        refine gget S hE M (C := RX8) (T := TX8) (N := 11) (ci := 8) (index := 56) hwi 0 rfl rfl 6 (by decide) (by decide +kernel) rfl dX8_text_64 ?_
        refine gcalli (L := [[(ad 0, .inr (8, [.ref (ad 1), .ref (ad 4), .ref (ad 15), .ref (ad 32), .ref (ad 33), .ref (ad 38), .ref (ad 41), .int ((z.opening k).mn), .int ((z.opening k).mk), .int ((z.opening k).mg), .int ((z.opening k).jp)]))], tapW E ad ((z.opening k).tp), spuW E ad ((z.opening k).sp), surW E ad ((z.opening k).sg)]) (Mid := [sheW E ad ((z.opening k).sh)]) (Rr := [wisW E ad ((z.opening k).wi), linW E ad ((z.opening k).ln), arrW E ad ((z.opening k).ar)]) (Mid' := [sheW E ad ((z.opening k).sh)]) hE M rfl (List.append_nil _) (List.append_nil _) (fun hp => va_runV (As := []) (rest := []) S (c_X3_size l E ad ((z.opening k).sh)   _) (cwV 0 S.2.2.2.2 gX8_text_X3_size rfl rfl rfl kd_X3_size ⟨Nat.le_of_ble_eq_true rfl, Nat.le_of_ble_eq_true rfl⟩) (hp.V hE (show vwCl[3]? = some (RX3, TX3, 2) from rfl) rfl) rfl rfl hl.1 rfl (lv_room (Nat.le_of_ble_eq_true rfl)) dX8_text_67 ⟨Nat.zero_le _, Nat.zero_le _⟩) (fun H locs M => ?_)
        have M : gM E A s.heap [[(ad 0, .inr (8, [.ref (ad 1), .ref (ad 4), .ref (ad 15), .ref (ad 32), .ref (ad 33), .ref (ad 38), .ref (ad 41), .int ((z.opening k).mn), .int ((z.opening k).mk), .int ((z.opening k).mg), .int ((z.opening k).jp)]))], tapW E ad ((z.opening k).tp), spuW E ad ((z.opening k).sp), surW E ad ((z.opening k).sg), sheW E ad ((z.opening k).sh), wisW E ad ((z.opening k).wi), linW E ad ((z.opening k).ln), arrW E ad ((z.opening k).ar)] H locs := M
        refine lv_iload_n S.1 S.2.1 dX8_text_70 rfl (lv_at hl 0 rfl) ?_
        refine lv_iadd S.1 S.2.1 dX8_text_71 ?_
        have he : SpcS.text z k i = ((nI ((z.opening k).sh).sz) + (((rg 120 ((z.opening k).sp).gr k) - (rg 120 ((z.opening k).sp).hd k)) + 1), z.opening k) := by unfold SpcS.text; rw [if_pos c14, if_pos c27, if_pos c60] <;> rfl
        exact giret S hr hlk M (by rw [he]) (by rw [he]; rfl) dX8_text_72
    ·
      refine lv_bipush (v := (-2)) S.1 S.2.1 dX8_text_30 (by decide) ?_
      have he : SpcS.text z k i = ((-2), z) := by unfold SpcS.text; rw [if_pos c14, if_neg c27] <;> rfl
      exact giret S hr hlk M (by rw [he]) (by rw [he]; rfl) dX8_text_32
  ·
    refine lv_iconst (v := (-1)) S.1 S.2.1 dX8_text_17 (by decide) ?_
    have he : SpcS.text z k i = ((-1), z) := by unfold SpcS.text; rw [if_neg c14] <;> rfl
    exact giret S hr hlk M (by rw [he]) (by rw [he]; rfl) dX8_text_18

set_option maxHeartbeats 4000000 in
set_option maxRecDepth 100000 in
theorem c_X8_word (l : Launch) (E : xE) (ad : Nat → Nat) (z : SpcS) (i : Int32) : mI l yX8_word wsX8_word (xrm 4 85) E [.ref (ad 0), .int i] (spcGs E ad z) (z.word i) (spcGs E ad z) := by
  intro sz
  refine Met.ofW (cc := cX8_word) (maxL := 3) (ret := (some .int)) (by decide +kernel) rfl ?_
  intro vp ve s vm args below meth vc s₁ B hml hv
  obtain ⟨rfl, S, hr, hlk, hnm, A, hA, hE, M⟩ := genter B hml hv
  rw [hA]
  obtain ⟨ls, hfr, hl⟩ := gst (m := vm) (as := [.ref (ad 0), .int i]) (n := 3) (Nat.le_of_ble_eq_true rfl)
  rw [hfr]
  clear hfr hA
  have hl : lv_has ls 3 [(0, .ref (ad 0)), (1, .int i)] := hl
  have M : gM E A s.heap [[(ad 0, .inr (8, [.ref (ad 1), .ref (ad 4), .ref (ad 15), .ref (ad 32), .ref (ad 33), .ref (ad 38), .ref (ad 41), .int z.mn, .int z.mk, .int z.mg, .int z.jp]))], tapW E ad z.tp, spuW E ad z.sp, surW E ad z.sg, sheW E ad z.sh, wisW E ad z.wi, linW E ad z.ln, arrW E ad z.ar] s.heap [] := M
  have hwi : ∀ w ∈ u_ws RX8 TX8 11, w ∈ wsX8_word := by decide +kernel
  refine lv_iload_n S.1 S.2.1 dX8_word_0 rfl (lv_at hl 1 rfl) ?_
  refine lv_iconst (v := 0) S.1 S.2.1 dX8_word_1 (by decide) ?_
  refine lv_iconst (v := 4) S.1 S.2.1 dX8_word_2 (by decide) ?_
  refine gcalli (L := []) (Mid := []) (Rr := [[(ad 0, .inr (8, [.ref (ad 1), .ref (ad 4), .ref (ad 15), .ref (ad 32), .ref (ad 33), .ref (ad 38), .ref (ad 41), .int z.mn, .int z.mk, .int z.mg, .int z.jp]))], tapW E ad z.tp, spuW E ad z.sp, surW E ad z.sg, sheW E ad z.sh, wisW E ad z.wi, linW E ad z.ln, arrW E ad z.ar]) (Mid' := []) hE M rfl (rfl) (rfl) (fun hp => va_runS (As := [.int i, .int 0, .int 4]) (rest := []) S (c_X8_isOutside l E i 0 4 _) (va_cwS 3 S.2.2.2.2 gX8_word_X8_isOutside rfl rfl rfl kd_X8_isOutside.2 ⟨Nat.le_of_ble_eq_true rfl, Nat.le_of_ble_eq_true rfl⟩) hp.S rfl rfl hl.1 rfl (lv_room (Nat.le_of_ble_eq_true rfl)) dX8_word_3 ⟨Nat.zero_le _, Nat.zero_le _⟩) (fun H locs M => ?_)
  have M : gM E A s.heap [[(ad 0, .inr (8, [.ref (ad 1), .ref (ad 4), .ref (ad 15), .ref (ad 32), .ref (ad 33), .ref (ad 38), .ref (ad 41), .int z.mn, .int z.mk, .int z.mg, .int z.jp]))], tapW E ad z.tp, spuW E ad z.sp, surW E ad z.sg, sheW E ad z.sh, wisW E ad z.wi, linW E ad z.ln, arrW E ad z.ar] H locs := M
  refine lv_if_eq (tgt := 12) S.1 S.2.1 dX8_word_6 (by decide) (fun c6 => ?_) (fun c6 => ?_)
  ·
    refine lv_aload_n S.1 S.2.1 dX8_word_12 rfl (lv_at hl 0 rfl) ?_
    refine gget S hE M (C := RX8) (T := TX8) (N := 11) (ci := 8) (index := 60) hwi 0 rfl rfl 7 (by decide) (by decide +kernel) rfl dX8_word_13 ?_
    refine gcallr (L := []) (Mid := []) (Rr := [[(ad 0, .inr (8, [.ref (ad 1), .ref (ad 4), .ref (ad 15), .ref (ad 32), .ref (ad 33), .ref (ad 38), .ref (ad 41), .int z.mn, .int z.mk, .int z.mg, .int z.jp]))], tapW E ad z.tp, spuW E ad z.sp, surW E ad z.sg, sheW E ad z.sh, wisW E ad z.wi, linW E ad z.ln, arrW E ad z.ar]) (Mid' := []) hE M rfl (rfl) (rfl) (fun hp => va_runS (As := [.int z.mn]) (rest := []) S (c_X8_wordOf l E z.mn _) (va_cwS 1 S.2.2.2.2 gX8_word_X8_wordOf rfl rfl rfl kd_X8_wordOf.2 ⟨Nat.le_of_ble_eq_true rfl, Nat.le_of_ble_eq_true rfl⟩) hp.S rfl rfl hl.1 rfl (lv_room (Nat.le_of_ble_eq_true rfl)) dX8_word_16 ⟨Nat.zero_le _, Nat.zero_le _⟩) (fun H locs M => ?_)
    have M : gM E A s.heap [[(ad 0, .inr (8, [.ref (ad 1), .ref (ad 4), .ref (ad 15), .ref (ad 32), .ref (ad 33), .ref (ad 38), .ref (ad 41), .int z.mn, .int z.mk, .int z.mg, .int z.jp]))], tapW E ad z.tp, spuW E ad z.sp, surW E ad z.sg, sheW E ad z.sh, wisW E ad z.wi, linW E ad z.ln, arrW E ad z.ar] H locs := M
    refine lv_astore_n (lv' := [(2, .ref (xK E (mOf z.mn))), (0, .ref (ad 0)), (1, .int i)]) S.1 S.2.1 dX8_word_19 rfl hl (by decide) rfl (fun ls hl => ?_)
    refine lv_iload_n S.1 S.2.1 dX8_word_20 rfl (lv_at hl 2 rfl) ?_
    refine lv_aload_n S.1 S.2.1 dX8_word_21 rfl (lv_at hl 0 rfl) ?_
    refine gcalli (L := []) (Mid := []) (Rr := [[(ad 0, .inr (8, [.ref (ad 1), .ref (ad 4), .ref (ad 15), .ref (ad 32), .ref (ad 33), .ref (ad 38), .ref (ad 41), .int z.mn, .int z.mk, .int z.mg, .int z.jp]))], tapW E ad z.tp, spuW E ad z.sp, surW E ad z.sg, sheW E ad z.sh, wisW E ad z.wi, linW E ad z.ln, arrW E ad z.ar]) (Mid' := []) hE M rfl (rfl) (rfl) (fun hp => va_runV (As := []) (rest := [.int i]) S (c_J0_length_8abf5 l E (mOf z.mn) (mOf_lt _) _) (cwV 0 S.2.2.2.2 gX8_word_J0_length_8abf5 rfl rfl rfl kd_J0_length_8abf5 ⟨Nat.le_of_ble_eq_true rfl, Nat.le_of_ble_eq_true rfl⟩) (hp.T hE (mOf_lt _) M.2.2.1) rfl rfl hl.1 rfl (lv_room (Nat.le_of_ble_eq_true rfl)) dX8_word_22 ⟨Nat.zero_le _, Nat.zero_le _⟩) (fun H locs M => ?_)
    have M : gM E A s.heap [[(ad 0, .inr (8, [.ref (ad 1), .ref (ad 4), .ref (ad 15), .ref (ad 32), .ref (ad 33), .ref (ad 38), .ref (ad 41), .int z.mn, .int z.mk, .int z.mg, .int z.jp]))], tapW E ad z.tp, spuW E ad z.sp, surW E ad z.sg, sheW E ad z.sh, wisW E ad z.wi, linW E ad z.ln, arrW E ad z.ar] H locs := M
    refine lv_icmp_lt (tgt := 31) S.1 S.2.1 dX8_word_25 (by decide) (fun c25 => ?_) (fun c25 => ?_)
    ·
      obtain ⟨j, hj, ej⟩ := wd_at c6 c25
      have hL := stL_le (mOf z.mn)
      refine lv_aload_n S.1 S.2.1 dX8_word_31 rfl (lv_at hl 0 rfl) ?_
      refine lv_iload_n S.1 S.2.1 dX8_word_32 rfl (lv_at hl 2 rfl) ?_
      refine gtop (x' := nI j) (ej) ?_
      refine gcalli (L := []) (Mid := []) (Rr := [[(ad 0, .inr (8, [.ref (ad 1), .ref (ad 4), .ref (ad 15), .ref (ad 32), .ref (ad 33), .ref (ad 38), .ref (ad 41), .int z.mn, .int z.mk, .int z.mg, .int z.jp]))], tapW E ad z.tp, spuW E ad z.sp, surW E ad z.sg, sheW E ad z.sh, wisW E ad z.wi, linW E ad z.ln, arrW E ad z.ar]) (Mid' := []) hE M rfl (rfl) (rfl) (fun hp => va_runV (As := [.int (nI j)]) (rest := []) S (c_J0_charAt_5068e l E (mOf z.mn) j (mOf_lt _) hj _) (cwV 1 S.2.2.2.2 gX8_word_J0_charAt_5068e rfl rfl rfl kd_J0_charAt_5068e ⟨Nat.le_of_ble_eq_true rfl, Nat.le_of_ble_eq_true rfl⟩) (hp.T hE (mOf_lt _) M.2.2.1) rfl rfl hl.1 rfl (lv_room (Nat.le_of_ble_eq_true rfl)) dX8_word_33 ⟨Nat.zero_le _, Nat.zero_le _⟩) (fun H locs M => ?_)
      have M : gM E A s.heap [[(ad 0, .inr (8, [.ref (ad 1), .ref (ad 4), .ref (ad 15), .ref (ad 32), .ref (ad 33), .ref (ad 38), .ref (ad 41), .int z.mn, .int z.mk, .int z.mg, .int z.jp]))], tapW E ad z.tp, spuW E ad z.sp, surW E ad z.sg, sheW E ad z.sh, wisW E ad z.wi, linW E ad z.ln, arrW E ad z.ar] H locs := M
      exact giret S hr hlk M (by unfold SpcS.word; rw [if_pos c6, if_pos c25, ej, nI_clamp (by omega)]) (rfl) dX8_word_36
    ·
      refine lv_bipush (v := (-9)) S.1 S.2.1 dX8_word_28 (by decide) ?_
      exact giret S hr hlk M (by unfold SpcS.word; rw [if_pos c6, if_neg c25]) (rfl) dX8_word_30
  ·
    refine lv_bipush (v := (-2)) S.1 S.2.1 dX8_word_9 (by decide) ?_
    exact giret S hr hlk M (by unfold SpcS.word; rw [if_neg c6]) (rfl) dX8_word_11

set_option maxHeartbeats 4000000 in
set_option maxRecDepth 100000 in
theorem c_X8_many (l : Launch) (E : xE) (ad : Nat → Nat) (z : SpcS) (w : Int32) (hA : z.ar.ct ≤ 120) (hS : z.sp.ct ≤ 120) : mI l yX8_many wsX8_many (xrm 3 64) E [.ref (ad 0), .int w] (spcGs E ad z) (z.many w) (spcGs E ad z) := by
  intro sz
  refine Met.ofW (cc := cX8_many) (maxL := 2) (ret := (some .int)) (by decide +kernel) rfl ?_
  intro vp ve s vm args below meth vc s₁ B hml hv
  obtain ⟨rfl, S, hr, hlk, hnm, A, hA, hE, M⟩ := genter B hml hv
  rw [hA]
  obtain ⟨ls, hfr, hl⟩ := gst (m := vm) (as := [.ref (ad 0), .int w]) (n := 2) (Nat.le_of_ble_eq_true rfl)
  rw [hfr]
  clear hfr hA
  have hl : lv_has ls 2 [(0, .ref (ad 0)), (1, .int w)] := hl
  have M : gM E A s.heap [[(ad 0, .inr (8, [.ref (ad 1), .ref (ad 4), .ref (ad 15), .ref (ad 32), .ref (ad 33), .ref (ad 38), .ref (ad 41), .int z.mn, .int z.mk, .int z.mg, .int z.jp]))], tapW E ad z.tp, spuW E ad z.sp, surW E ad z.sg, sheW E ad z.sh, wisW E ad z.wi, linW E ad z.ln, arrW E ad z.ar] s.heap [] := M
  have hwi : ∀ w ∈ u_ws RX8 TX8 11, w ∈ wsX8_many := by decide +kernel
  refine lv_iload_n S.1 S.2.1 dX8_many_0 rfl (lv_at hl 1 rfl) ?_
  by_cases c1_0 : w = 0
  ·
    refine gtop (x' := 0) c1_0 ?_
    refine lv_tableIn (off := 47) (tgt := 48) S.1 S.2.1 dX8_many_1 (by decide) (by decide) rfl (by decide) ?_
    refine lv_aload_n S.1 S.2.1 dX8_many_48 rfl (lv_at hl 0 rfl) ?_
    refine gget S hE M (C := RX8) (T := TX8) (N := 11) (ci := 8) (index := 21) hwi 0 rfl rfl 1 (by decide) (by decide +kernel) rfl dX8_many_49 ?_
    refine gcalli (L := [[(ad 0, .inr (8, [.ref (ad 1), .ref (ad 4), .ref (ad 15), .ref (ad 32), .ref (ad 33), .ref (ad 38), .ref (ad 41), .int z.mn, .int z.mk, .int z.mg, .int z.jp]))], tapW E ad z.tp, spuW E ad z.sp, surW E ad z.sg, sheW E ad z.sh, wisW E ad z.wi, linW E ad z.ln]) (Mid := [arrW E ad z.ar]) (Rr := []) (Mid' := [arrW E ad z.ar]) hE M rfl (List.append_nil _) (List.append_nil _) (fun hp => va_runV (As := []) (rest := []) S (c_X0_count l E ad z.ar   _) (cwV 0 S.2.2.2.2 gX8_many_X0_count rfl rfl rfl kd_X0_count ⟨Nat.le_of_ble_eq_true rfl, Nat.le_of_ble_eq_true rfl⟩) (hp.V hE (show vwCl[0]? = some (RX0, TX0, 6) from rfl) rfl) rfl rfl hl.1 rfl (lv_room (Nat.le_of_ble_eq_true rfl)) dX8_many_52 ⟨Nat.zero_le _, Nat.zero_le _⟩) (fun H locs M => ?_)
    have M : gM E A s.heap [[(ad 0, .inr (8, [.ref (ad 1), .ref (ad 4), .ref (ad 15), .ref (ad 32), .ref (ad 33), .ref (ad 38), .ref (ad 41), .int z.mn, .int z.mk, .int z.mg, .int z.jp]))], tapW E ad z.tp, spuW E ad z.sp, surW E ad z.sg, sheW E ad z.sh, wisW E ad z.wi, linW E ad z.ln, arrW E ad z.ar] H locs := M
    exact giret S hr hlk M (by unfold SpcS.many; rw [if_pos c1_0]) (rfl) dX8_many_55
  by_cases c1_1 : w = 1
  ·
    refine gtop (x' := 1) c1_1 ?_
    refine lv_tableIn (off := 55) (tgt := 56) S.1 S.2.1 dX8_many_1 (by decide) (by decide) rfl (by decide) ?_
    refine lv_aload_n S.1 S.2.1 dX8_many_56 rfl (lv_at hl 0 rfl) ?_
    refine gget S hE M (C := RX8) (T := TX8) (N := 11) (ci := 8) (index := 28) hwi 0 rfl rfl 2 (by decide) (by decide +kernel) rfl dX8_many_57 ?_
    refine gcalli (L := [[(ad 0, .inr (8, [.ref (ad 1), .ref (ad 4), .ref (ad 15), .ref (ad 32), .ref (ad 33), .ref (ad 38), .ref (ad 41), .int z.mn, .int z.mk, .int z.mg, .int z.jp]))], tapW E ad z.tp]) (Mid := [spuW E ad z.sp]) (Rr := [surW E ad z.sg, sheW E ad z.sh, wisW E ad z.wi, linW E ad z.ln, arrW E ad z.ar]) (Mid' := [spuW E ad z.sp]) hE M rfl (List.append_nil _) (List.append_nil _) (fun hp => va_runV (As := []) (rest := []) S (c_X4_count l E ad z.sp   _) (cwV 0 S.2.2.2.2 gX8_many_X4_count rfl rfl rfl kd_X4_count ⟨Nat.le_of_ble_eq_true rfl, Nat.le_of_ble_eq_true rfl⟩) (hp.V hE (show vwCl[4]? = some (RX4, TX4, 9) from rfl) rfl) rfl rfl hl.1 rfl (lv_room (Nat.le_of_ble_eq_true rfl)) dX8_many_60 ⟨Nat.zero_le _, Nat.zero_le _⟩) (fun H locs M => ?_)
    have M : gM E A s.heap [[(ad 0, .inr (8, [.ref (ad 1), .ref (ad 4), .ref (ad 15), .ref (ad 32), .ref (ad 33), .ref (ad 38), .ref (ad 41), .int z.mn, .int z.mk, .int z.mg, .int z.jp]))], tapW E ad z.tp, spuW E ad z.sp, surW E ad z.sg, sheW E ad z.sh, wisW E ad z.wi, linW E ad z.ln, arrW E ad z.ar] H locs := M
    exact giret S hr hlk M (by unfold SpcS.many; rw [if_neg c1_0, if_pos c1_1]) (rfl) dX8_many_63
  by_cases c1_2 : w = 2
  ·
    refine gtop (x' := 2) c1_2 ?_
    refine lv_tableIn (off := 63) (tgt := 64) S.1 S.2.1 dX8_many_1 (by decide) (by decide) rfl (by decide) ?_
    refine lv_aload_n S.1 S.2.1 dX8_many_64 rfl (lv_at hl 0 rfl) ?_
    refine gget S hE M (C := RX8) (T := TX8) (N := 11) (ci := 8) (index := 28) hwi 0 rfl rfl 2 (by decide) (by decide +kernel) rfl dX8_many_65 ?_
    refine gcalli (L := [[(ad 0, .inr (8, [.ref (ad 1), .ref (ad 4), .ref (ad 15), .ref (ad 32), .ref (ad 33), .ref (ad 38), .ref (ad 41), .int z.mn, .int z.mk, .int z.mg, .int z.jp]))], tapW E ad z.tp]) (Mid := [spuW E ad z.sp]) (Rr := [surW E ad z.sg, sheW E ad z.sh, wisW E ad z.wi, linW E ad z.ln, arrW E ad z.ar]) (Mid' := [spuW E ad z.sp]) hE M rfl (List.append_nil _) (List.append_nil _) (fun hp => va_runV (As := []) (rest := []) S (c_X4_playedOfAll l E ad z.sp   hS _) (cwV 0 S.2.2.2.2 gX8_many_X4_playedOfAll rfl rfl rfl kd_X4_playedOfAll ⟨Nat.le_of_ble_eq_true rfl, Nat.le_of_ble_eq_true rfl⟩) (hp.V hE (show vwCl[4]? = some (RX4, TX4, 9) from rfl) rfl) rfl rfl hl.1 rfl (lv_room (Nat.le_of_ble_eq_true rfl)) dX8_many_68 ⟨Nat.zero_le _, Nat.zero_le _⟩) (fun H locs M => ?_)
    have M : gM E A s.heap [[(ad 0, .inr (8, [.ref (ad 1), .ref (ad 4), .ref (ad 15), .ref (ad 32), .ref (ad 33), .ref (ad 38), .ref (ad 41), .int z.mn, .int z.mk, .int z.mg, .int z.jp]))], tapW E ad z.tp, spuW E ad z.sp, surW E ad z.sg, sheW E ad z.sh, wisW E ad z.wi, linW E ad z.ln, arrW E ad z.ar] H locs := M
    exact giret S hr hlk M (by unfold SpcS.many; rw [if_neg c1_0, if_neg c1_1, if_pos c1_2]) (rfl) dX8_many_71
  by_cases c1_3 : w = 3
  ·
    refine gtop (x' := 3) c1_3 ?_
    refine lv_tableIn (off := 71) (tgt := 72) S.1 S.2.1 dX8_many_1 (by decide) (by decide) rfl (by decide) ?_
    refine lv_aload_n S.1 S.2.1 dX8_many_72 rfl (lv_at hl 0 rfl) ?_
    refine gget S hE M (C := RX8) (T := TX8) (N := 11) (ci := 8) (index := 21) hwi 0 rfl rfl 1 (by decide) (by decide +kernel) rfl dX8_many_73 ?_
    refine gcalli (L := [[(ad 0, .inr (8, [.ref (ad 1), .ref (ad 4), .ref (ad 15), .ref (ad 32), .ref (ad 33), .ref (ad 38), .ref (ad 41), .int z.mn, .int z.mk, .int z.mg, .int z.jp]))], tapW E ad z.tp, spuW E ad z.sp, surW E ad z.sg, sheW E ad z.sh, wisW E ad z.wi, linW E ad z.ln]) (Mid := [arrW E ad z.ar]) (Rr := []) (Mid' := [arrW E ad z.ar]) hE M rfl (List.append_nil _) (List.append_nil _) (fun hp => va_runV (As := []) (rest := []) S (c_X0_count l E ad z.ar   _) (cwV 0 S.2.2.2.2 gX8_many_X0_count rfl rfl rfl kd_X0_count ⟨Nat.le_of_ble_eq_true rfl, Nat.le_of_ble_eq_true rfl⟩) (hp.V hE (show vwCl[0]? = some (RX0, TX0, 6) from rfl) rfl) rfl rfl hl.1 rfl (lv_room (Nat.le_of_ble_eq_true rfl)) dX8_many_76 ⟨Nat.zero_le _, Nat.zero_le _⟩) (fun H locs M => ?_)
    have M : gM E A s.heap [[(ad 0, .inr (8, [.ref (ad 1), .ref (ad 4), .ref (ad 15), .ref (ad 32), .ref (ad 33), .ref (ad 38), .ref (ad 41), .int z.mn, .int z.mk, .int z.mg, .int z.jp]))], tapW E ad z.tp, spuW E ad z.sp, surW E ad z.sg, sheW E ad z.sh, wisW E ad z.wi, linW E ad z.ln, arrW E ad z.ar] H locs := M
    refine lv_aload_n S.1 S.2.1 dX8_many_79 rfl (lv_at hl 0 rfl) ?_
    refine gget S hE M (C := RX8) (T := TX8) (N := 11) (ci := 8) (index := 28) hwi 0 rfl rfl 2 (by decide) (by decide +kernel) rfl dX8_many_80 ?_
    refine gcalli (L := [[(ad 0, .inr (8, [.ref (ad 1), .ref (ad 4), .ref (ad 15), .ref (ad 32), .ref (ad 33), .ref (ad 38), .ref (ad 41), .int z.mn, .int z.mk, .int z.mg, .int z.jp]))], tapW E ad z.tp]) (Mid := [spuW E ad z.sp]) (Rr := [surW E ad z.sg, sheW E ad z.sh, wisW E ad z.wi, linW E ad z.ln, arrW E ad z.ar]) (Mid' := [spuW E ad z.sp]) hE M rfl (List.append_nil _) (List.append_nil _) (fun hp => va_runV (As := []) (rest := [.int (nI z.ar.ct)]) S (c_X4_playedOfAll l E ad z.sp   hS _) (cwV 0 S.2.2.2.2 gX8_many_X4_playedOfAll rfl rfl rfl kd_X4_playedOfAll ⟨Nat.le_of_ble_eq_true rfl, Nat.le_of_ble_eq_true rfl⟩) (hp.V hE (show vwCl[4]? = some (RX4, TX4, 9) from rfl) rfl) rfl rfl hl.1 rfl (lv_room (Nat.le_of_ble_eq_true rfl)) dX8_many_83 ⟨Nat.zero_le _, Nat.zero_le _⟩) (fun H locs M => ?_)
    have M : gM E A s.heap [[(ad 0, .inr (8, [.ref (ad 1), .ref (ad 4), .ref (ad 15), .ref (ad 32), .ref (ad 33), .ref (ad 38), .ref (ad 41), .int z.mn, .int z.mk, .int z.mg, .int z.jp]))], tapW E ad z.tp, spuW E ad z.sp, surW E ad z.sg, sheW E ad z.sh, wisW E ad z.wi, linW E ad z.ln, arrW E ad z.ar] H locs := M
    refine lv_isub S.1 S.2.1 dX8_many_86 ?_
    exact giret S hr hlk M (by unfold SpcS.many; rw [if_neg c1_0, if_neg c1_1, if_neg c1_2, if_pos c1_3]) (rfl) dX8_many_87
  by_cases c1_4 : w = 4
  ·
    refine gtop (x' := 4) c1_4 ?_
    refine lv_tableIn (off := 87) (tgt := 88) S.1 S.2.1 dX8_many_1 (by decide) (by decide) rfl (by decide) ?_
    refine lv_aload_n S.1 S.2.1 dX8_many_88 rfl (lv_at hl 0 rfl) ?_
    refine gget S hE M (C := RX8) (T := TX8) (N := 11) (ci := 8) (index := 28) hwi 0 rfl rfl 2 (by decide) (by decide +kernel) rfl dX8_many_89 ?_
    refine gcalli (L := [[(ad 0, .inr (8, [.ref (ad 1), .ref (ad 4), .ref (ad 15), .ref (ad 32), .ref (ad 33), .ref (ad 38), .ref (ad 41), .int z.mn, .int z.mk, .int z.mg, .int z.jp]))], tapW E ad z.tp]) (Mid := [spuW E ad z.sp]) (Rr := [surW E ad z.sg, sheW E ad z.sh, wisW E ad z.wi, linW E ad z.ln, arrW E ad z.ar]) (Mid' := [spuW E ad z.sp]) hE M rfl (List.append_nil _) (List.append_nil _) (fun hp => va_runV (As := []) (rest := []) S (c_X4_missingOfAll l E ad z.sp   hS _) (cwV 0 S.2.2.2.2 gX8_many_X4_missingOfAll rfl rfl rfl kd_X4_missingOfAll ⟨Nat.le_of_ble_eq_true rfl, Nat.le_of_ble_eq_true rfl⟩) (hp.V hE (show vwCl[4]? = some (RX4, TX4, 9) from rfl) rfl) rfl rfl hl.1 rfl (lv_room (Nat.le_of_ble_eq_true rfl)) dX8_many_92 ⟨Nat.zero_le _, Nat.zero_le _⟩) (fun H locs M => ?_)
    have M : gM E A s.heap [[(ad 0, .inr (8, [.ref (ad 1), .ref (ad 4), .ref (ad 15), .ref (ad 32), .ref (ad 33), .ref (ad 38), .ref (ad 41), .int z.mn, .int z.mk, .int z.mg, .int z.jp]))], tapW E ad z.tp, spuW E ad z.sp, surW E ad z.sg, sheW E ad z.sh, wisW E ad z.wi, linW E ad z.ln, arrW E ad z.ar] H locs := M
    exact giret S hr hlk M (by unfold SpcS.many; rw [if_neg c1_0, if_neg c1_1, if_neg c1_2, if_neg c1_3, if_pos c1_4]) (rfl) dX8_many_95
  by_cases c1_5 : w = 5
  ·
    refine gtop (x' := 5) c1_5 ?_
    refine lv_tableIn (off := 95) (tgt := 96) S.1 S.2.1 dX8_many_1 (by decide) (by decide) rfl (by decide) ?_
    refine lv_aload_n S.1 S.2.1 dX8_many_96 rfl (lv_at hl 0 rfl) ?_
    refine gget S hE M (C := RX8) (T := TX8) (N := 11) (ci := 8) (index := 21) hwi 0 rfl rfl 1 (by decide) (by decide +kernel) rfl dX8_many_97 ?_
    refine gcalli (L := [[(ad 0, .inr (8, [.ref (ad 1), .ref (ad 4), .ref (ad 15), .ref (ad 32), .ref (ad 33), .ref (ad 38), .ref (ad 41), .int z.mn, .int z.mk, .int z.mg, .int z.jp]))], tapW E ad z.tp, spuW E ad z.sp, surW E ad z.sg, sheW E ad z.sh, wisW E ad z.wi, linW E ad z.ln]) (Mid := [arrW E ad z.ar]) (Rr := []) (Mid' := [arrW E ad z.ar]) hE M rfl (List.append_nil _) (List.append_nil _) (fun hp => va_runV (As := []) (rest := []) S (c_X0_historySize l E ad z.ar   _) (cwV 0 S.2.2.2.2 gX8_many_X0_historySize rfl rfl rfl kd_X0_historySize ⟨Nat.le_of_ble_eq_true rfl, Nat.le_of_ble_eq_true rfl⟩) (hp.V hE (show vwCl[0]? = some (RX0, TX0, 6) from rfl) rfl) rfl rfl hl.1 rfl (lv_room (Nat.le_of_ble_eq_true rfl)) dX8_many_100 ⟨Nat.zero_le _, Nat.zero_le _⟩) (fun H locs M => ?_)
    have M : gM E A s.heap [[(ad 0, .inr (8, [.ref (ad 1), .ref (ad 4), .ref (ad 15), .ref (ad 32), .ref (ad 33), .ref (ad 38), .ref (ad 41), .int z.mn, .int z.mk, .int z.mg, .int z.jp]))], tapW E ad z.tp, spuW E ad z.sp, surW E ad z.sg, sheW E ad z.sh, wisW E ad z.wi, linW E ad z.ln, arrW E ad z.ar] H locs := M
    refine gtop (x' := nI z.ar.hs) (imin_nI (b := 32) (by omega) (by omega)) ?_
    exact giret S hr hlk M (by unfold SpcS.many; rw [if_neg c1_0, if_neg c1_1, if_neg c1_2, if_neg c1_3, if_neg c1_4, if_pos c1_5]) (rfl) dX8_many_103
  by_cases c1_6 : w = 6
  ·
    refine gtop (x' := 6) c1_6 ?_
    refine lv_tableIn (off := 103) (tgt := 104) S.1 S.2.1 dX8_many_1 (by decide) (by decide) rfl (by decide) ?_
    refine lv_aload_n S.1 S.2.1 dX8_many_104 rfl (lv_at hl 0 rfl) ?_
    refine gget S hE M (C := RX8) (T := TX8) (N := 11) (ci := 8) (index := 12) hwi 0 rfl rfl 0 (by decide) (by decide +kernel) rfl dX8_many_105 ?_
    refine gcalli (L := [[(ad 0, .inr (8, [.ref (ad 1), .ref (ad 4), .ref (ad 15), .ref (ad 32), .ref (ad 33), .ref (ad 38), .ref (ad 41), .int z.mn, .int z.mk, .int z.mg, .int z.jp]))]]) (Mid := [tapW E ad z.tp]) (Rr := [spuW E ad z.sp, surW E ad z.sg, sheW E ad z.sh, wisW E ad z.wi, linW E ad z.ln, arrW E ad z.ar]) (Mid' := [tapW E ad z.tp]) hE M rfl (List.append_nil _) (List.append_nil _) (fun hp => va_runV (As := []) (rest := []) S (c_X6_size l E ad z.tp   _) (cwV 0 S.2.2.2.2 gX8_many_X6_size rfl rfl rfl kd_X6_size ⟨Nat.le_of_ble_eq_true rfl, Nat.le_of_ble_eq_true rfl⟩) (hp.V hE (show vwCl[6]? = some (RX6, TX6, 2) from rfl) rfl) rfl rfl hl.1 rfl (lv_room (Nat.le_of_ble_eq_true rfl)) dX8_many_108 ⟨Nat.zero_le _, Nat.zero_le _⟩) (fun H locs M => ?_)
    have M : gM E A s.heap [[(ad 0, .inr (8, [.ref (ad 1), .ref (ad 4), .ref (ad 15), .ref (ad 32), .ref (ad 33), .ref (ad 38), .ref (ad 41), .int z.mn, .int z.mk, .int z.mg, .int z.jp]))], tapW E ad z.tp, spuW E ad z.sp, surW E ad z.sg, sheW E ad z.sh, wisW E ad z.wi, linW E ad z.ln, arrW E ad z.ar] H locs := M
    exact giret S hr hlk M (by unfold SpcS.many; rw [if_neg c1_0, if_neg c1_1, if_neg c1_2, if_neg c1_3, if_neg c1_4, if_neg c1_5, if_pos c1_6]) (rfl) dX8_many_111
  by_cases c1_7 : w = 7
  ·
    refine gtop (x' := 7) c1_7 ?_
    refine lv_tableIn (off := 111) (tgt := 112) S.1 S.2.1 dX8_many_1 (by decide) (by decide) rfl (by decide) ?_
    refine lv_aload_n S.1 S.2.1 dX8_many_112 rfl (lv_at hl 0 rfl) ?_
    refine gget S hE M (C := RX8) (T := TX8) (N := 11) (ci := 8) (index := 35) hwi 0 rfl rfl 3 (by decide) (by decide +kernel) rfl dX8_many_113 ?_
    refine gcalli (L := [[(ad 0, .inr (8, [.ref (ad 1), .ref (ad 4), .ref (ad 15), .ref (ad 32), .ref (ad 33), .ref (ad 38), .ref (ad 41), .int z.mn, .int z.mk, .int z.mg, .int z.jp]))], tapW E ad z.tp, spuW E ad z.sp]) (Mid := [surW E ad z.sg]) (Rr := [sheW E ad z.sh, wisW E ad z.wi, linW E ad z.ln, arrW E ad z.ar]) (Mid' := [surW E ad z.sg]) hE M rfl (List.append_nil _) (List.append_nil _) (fun hp => va_runV (As := []) (rest := []) S (c_X5_begun l E ad z.sg   _) (cwV 0 S.2.2.2.2 gX8_many_X5_begun rfl rfl rfl kd_X5_begun ⟨Nat.le_of_ble_eq_true rfl, Nat.le_of_ble_eq_true rfl⟩) (hp.V hE (show vwCl[5]? = some (RX5, TX5, 3) from rfl) rfl) rfl rfl hl.1 rfl (lv_room (Nat.le_of_ble_eq_true rfl)) dX8_many_116 ⟨Nat.zero_le _, Nat.zero_le _⟩) (fun H locs M => ?_)
    have M : gM E A s.heap [[(ad 0, .inr (8, [.ref (ad 1), .ref (ad 4), .ref (ad 15), .ref (ad 32), .ref (ad 33), .ref (ad 38), .ref (ad 41), .int z.mn, .int z.mk, .int z.mg, .int z.jp]))], tapW E ad z.tp, spuW E ad z.sp, surW E ad z.sg, sheW E ad z.sh, wisW E ad z.wi, linW E ad z.ln, arrW E ad z.ar] H locs := M
    exact giret S hr hlk M (by unfold SpcS.many; rw [if_neg c1_0, if_neg c1_1, if_neg c1_2, if_neg c1_3, if_neg c1_4, if_neg c1_5, if_neg c1_6, if_pos c1_7]) (rfl) dX8_many_119
  refine lv_tableOut (tgt := 120) S.1 S.2.1 dX8_many_1 (by have hc1_0 := lv_neT c1_0 (a := 0) rfl; have hc1_1 := lv_neT c1_1 (a := 1) rfl; have hc1_2 := lv_neT c1_2 (a := 2) rfl; have hc1_3 := lv_neT c1_3 (a := 3) rfl; have hc1_4 := lv_neT c1_4 (a := 4) rfl; have hc1_5 := lv_neT c1_5 (a := 5) rfl; have hc1_6 := lv_neT c1_6 (a := 6) rfl; have hc1_7 := lv_neT c1_7 (a := 7) rfl; omega) (by decide) ?_
  refine lv_bipush (v := (-2)) S.1 S.2.1 dX8_many_120 (by decide) ?_
  exact giret S hr hlk M (by unfold SpcS.many; rw [if_neg c1_0, if_neg c1_1, if_neg c1_2, if_neg c1_3, if_neg c1_4, if_neg c1_5, if_neg c1_6, if_neg c1_7]) (rfl) dX8_many_122
