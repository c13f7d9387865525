theorem kd_J9_floorDiv_7cf53 : yJ9_floorDiv_7cf53.cls = RJ9 ∧ yJ9_floorDiv_7cf53.cls ≠ "java/lang/invoke/MethodHandle" ∧ yJ9_floorDiv_7cf53.cls ≠ "java/lang/invoke/VarHandle" ∧ (parseMethodDescriptor yJ9_floorDiv_7cf53.desc).map (fun d => d.parameters.length) = some 2 := by decide +kernel
theorem kd_X0_frameAt : yX0_frameAt.cls = RX0 ∧ yX0_frameAt.cls ≠ "java/lang/invoke/MethodHandle" ∧ yX0_frameAt.cls ≠ "java/lang/invoke/VarHandle" ∧ (parseMethodDescriptor yX0_frameAt.desc).map (fun d => d.parameters.length) = some 1 := by decide +kernel
theorem kd_X0_historySize : yX0_historySize.cls = RX0 ∧ yX0_historySize.cls ≠ "java/lang/invoke/MethodHandle" ∧ yX0_historySize.cls ≠ "java/lang/invoke/VarHandle" ∧ (parseMethodDescriptor yX0_historySize.desc).map (fun d => d.parameters.length) = some 0 := by decide +kernel
theorem kd_X0_lastPlace : yX0_lastPlace.cls = RX0 ∧ yX0_lastPlace.cls ≠ "java/lang/invoke/MethodHandle" ∧ yX0_lastPlace.cls ≠ "java/lang/invoke/VarHandle" ∧ (parseMethodDescriptor yX0_lastPlace.desc).map (fun d => d.parameters.length) = some 0 := by decide +kernel
theorem kd_X0_placeOf : yX0_placeOf.cls = RX0 ∧ yX0_placeOf.cls ≠ "java/lang/invoke/MethodHandle" ∧ yX0_placeOf.cls ≠ "java/lang/invoke/VarHandle" ∧ (parseMethodDescriptor yX0_placeOf.desc).map (fun d => d.parameters.length) = some 1 := by decide +kernel
theorem kd_X1_addCorner : yX1_addCorner.cls = RX1 ∧ yX1_addCorner.cls ≠ "java/lang/invoke/MethodHandle" ∧ yX1_addCorner.cls ≠ "java/lang/invoke/VarHandle" ∧ (parseMethodDescriptor yX1_addCorner.desc).map (fun d => d.parameters.length) = some 2 := by decide +kernel
theorem kd_X1_greatestDivisor : yX1_greatestDivisor.cls = RX1 ∧ yX1_greatestDivisor.cls ≠ "java/lang/invoke/MethodHandle" ∧ yX1_greatestDivisor.cls ≠ "java/lang/invoke/VarHandle" ∧ (parseMethodDescriptor yX1_greatestDivisor.desc).map (fun d => d.parameters.length) = some 2 := by decide +kernel
theorem kd_X1_lastIsNotBelow : yX1_lastIsNotBelow.cls = RX1 ∧ yX1_lastIsNotBelow.cls ≠ "java/lang/invoke/MethodHandle" ∧ yX1_lastIsNotBelow.cls ≠ "java/lang/invoke/VarHandle" ∧ (parseMethodDescriptor yX1_lastIsNotBelow.desc).map (fun d => d.parameters.length) = some 2 := by decide +kernel
theorem kd_X1_riseOver : yX1_riseOver.cls = RX1 ∧ yX1_riseOver.cls ≠ "java/lang/invoke/MethodHandle" ∧ yX1_riseOver.cls ≠ "java/lang/invoke/VarHandle" ∧ (parseMethodDescriptor yX1_riseOver.desc).map (fun d => d.parameters.length) = some 1 := by decide +kernel
theorem kd_X1_setRise : yX1_setRise.cls = RX1 ∧ yX1_setRise.cls ≠ "java/lang/invoke/MethodHandle" ∧ yX1_setRise.cls ≠ "java/lang/invoke/VarHandle" ∧ (parseMethodDescriptor yX1_setRise.desc).map (fun d => d.parameters.length) = some 2 := by decide +kernel
theorem kd_X1_takeRiseAtMiddle : yX1_takeRiseAtMiddle.cls = RX1 ∧ yX1_takeRiseAtMiddle.cls ≠ "java/lang/invoke/MethodHandle" ∧ yX1_takeRiseAtMiddle.cls ≠ "java/lang/invoke/VarHandle" ∧ (parseMethodDescriptor yX1_takeRiseAtMiddle.desc).map (fun d => d.parameters.length) = some 0 := by decide +kernel
theorem kd_X2_add : yX2_add.cls = RX2 ∧ yX2_add.cls ≠ "java/lang/invoke/MethodHandle" ∧ yX2_add.cls ≠ "java/lang/invoke/VarHandle" ∧ (parseMethodDescriptor yX2_add.desc).map (fun d => d.parameters.length) = some 2 := by decide +kernel
theorem kd_X3_put : yX3_put.cls = RX3 ∧ yX3_put.cls ≠ "java/lang/invoke/MethodHandle" ∧ yX3_put.cls ≠ "java/lang/invoke/VarHandle" ∧ (parseMethodDescriptor yX3_put.desc).map (fun d => d.parameters.length) = some 1 := by decide +kernel
theorem kd_X4_headsBelow : yX4_headsBelow.cls = RX4 ∧ yX4_headsBelow.cls ≠ "java/lang/invoke/MethodHandle" ∧ yX4_headsBelow.cls ≠ "java/lang/invoke/VarHandle" ∧ (parseMethodDescriptor yX4_headsBelow.desc).map (fun d => d.parameters.length) = some 1 := by decide +kernel
theorem kd_X4_isInTheWay : yX4_isInTheWay.cls = RX4 ∧ yX4_isInTheWay.cls ≠ "java/lang/invoke/MethodHandle" ∧ yX4_isInTheWay.cls ≠ "java/lang/invoke/VarHandle" ∧ (parseMethodDescriptor yX4_isInTheWay.desc).map (fun d => d.parameters.length) = some 4 := by decide +kernel
theorem kd_X4_missingOf : yX4_missingOf.cls = RX4 ∧ yX4_missingOf.cls ≠ "java/lang/invoke/MethodHandle" ∧ yX4_missingOf.cls ≠ "java/lang/invoke/VarHandle" ∧ (parseMethodDescriptor yX4_missingOf.desc).map (fun d => d.parameters.length) = some 1 := by decide +kernel
theorem kd_X4_playedOf : yX4_playedOf.cls = RX4 ∧ yX4_playedOf.cls ≠ "java/lang/invoke/MethodHandle" ∧ yX4_playedOf.cls ≠ "java/lang/invoke/VarHandle" ∧ (parseMethodDescriptor yX4_playedOf.desc).map (fun d => d.parameters.length) = some 1 := by decide +kernel
theorem kd_X7_countAbove : yX7_countAbove.cls = RX7 ∧ yX7_countAbove.cls ≠ "java/lang/invoke/MethodHandle" ∧ yX7_countAbove.cls ≠ "java/lang/invoke/VarHandle" ∧ (parseMethodDescriptor yX7_countAbove.desc).map (fun d => d.parameters.length) = some 1 := by decide +kernel
theorem kd_X7_greatestOfLast : yX7_greatestOfLast.cls = RX7 ∧ yX7_greatestOfLast.cls ≠ "java/lang/invoke/MethodHandle" ∧ yX7_greatestOfLast.cls ≠ "java/lang/invoke/VarHandle" ∧ (parseMethodDescriptor yX7_greatestOfLast.desc).map (fun d => d.parameters.length) = some 1 := by decide +kernel
set_option maxHeartbeats 4000000 in
set_option maxRecDepth 100000 in
theorem c_J9_floorDiv_7cf53 (l : Launch) (E : xE) (x : Int32) (y : Int32) (hy : ¬ y = 0) : mI l yJ9_floorDiv_7cf53 wsJ9_floorDiv_7cf53 (xrm 0 0) E [.int x, .int y] (([] : List va_W)) (fdv x y) (([] : List va_W)) := by
  intro sz
  refine va_MetF (cc := cJ9_floorDiv_7cf53) (maxL := 3) (ret := (some .int)) (by decide +kernel) rfl ?_
  intro vp ve s vm args below meth vc s₁ B hml hv
  obtain ⟨rfl, S, hr, hlk, hnm, A, hA, hE, M⟩ := genter B hml hv
  rw [hA]
  obtain ⟨ls, hfr, hl⟩ := gst (m := vm) (as := [.int x, .int y]) (n := 3) (Nat.le_of_ble_eq_true rfl)
  rw [hfr]
  clear hfr hA
  have hl : lv_has ls 3 [(0, .int x), (1, .int y)] := hl
  have M : gM E A s.heap [] s.heap [] := M
  refine lv_iload_n S.1 S.2.1 dJ9_floorDiv_7cf53_0 rfl (lv_at hl 0 rfl) ?_
  refine lv_iload_n S.1 S.2.1 dJ9_floorDiv_7cf53_1 rfl (lv_at hl 1 rfl) ?_
  refine lv_idiv S.1 S.2.1 dJ9_floorDiv_7cf53_2 (hy) ?_
  refine lv_istore_n (lv' := [(2, .int (x / y)), (0, .int x), (1, .int y)]) S.1 S.2.1 dJ9_floorDiv_7cf53_3 rfl hl (by decide) rfl (fun ls hl => ?_)
  refine lv_iload_n S.1 S.2.1 dJ9_floorDiv_7cf53_4 rfl (lv_at hl 1 rfl) ?_
  refine lv_iload_n S.1 S.2.1 dJ9_floorDiv_7cf53_5 rfl (lv_at hl 2 rfl) ?_
  refine lv_ixor S.1 S.2.1 dJ9_floorDiv_7cf53_6 ?_
  refine lv_if_ge (tgt := 21) S.1 S.2.1 dJ9_floorDiv_7cf53_7 (by decide) (fun c7 => ?_) (fun c7 => ?_)
  ·
    refine lv_iload_n S.1 S.2.1 dJ9_floorDiv_7cf53_21 rfl (lv_at hl 0 rfl) ?_
    exact giret S hr hlk M (by unfold fdv; rw [if_pos c7]) (rfl) dJ9_floorDiv_7cf53_22
  ·
    refine lv_iload_n S.1 S.2.1 dJ9_floorDiv_7cf53_10 rfl (lv_at hl 0 rfl) ?_
    refine lv_iload_n S.1 S.2.1 dJ9_floorDiv_7cf53_11 rfl (lv_at hl 2 rfl) ?_
    refine lv_imul S.1 S.2.1 dJ9_floorDiv_7cf53_12 ?_
    refine lv_iload_n S.1 S.2.1 dJ9_floorDiv_7cf53_13 rfl (lv_at hl 1 rfl) ?_
    refine lv_icmp_eq (tgt := 21) S.1 S.2.1 dJ9_floorDiv_7cf53_14 (by decide) (fun c14 => ?_) (fun c14 => ?_)
    ·
      refine lv_iload_n S.1 S.2.1 dJ9_floorDiv_7cf53_21 rfl (lv_at hl 0 rfl) ?_
      exact giret S hr hlk M (by unfold fdv; rw [if_neg c7, if_pos c14]) (rfl) dJ9_floorDiv_7cf53_22
    ·
      refine lv_iload_n S.1 S.2.1 dJ9_floorDiv_7cf53_17 rfl (lv_at hl 0 rfl) ?_
      refine lv_iconst (v := 1) S.1 S.2.1 dJ9_floorDiv_7cf53_18 (by decide) ?_
      refine lv_isub S.1 S.2.1 dJ9_floorDiv_7cf53_19 ?_
      exact giret S hr hlk M (by unfold fdv; rw [if_neg c7, if_neg c14]) (rfl) dJ9_floorDiv_7cf53_20

set_option maxHeartbeats 4000000 in
set_option maxRecDepth 100000 in
theorem c_X4_count (l : Launch) (E : xE) (ad : Nat → Nat) (z : SpuS) : mI l yX4_count wsX4_count (xrm 0 0) E [.ref (ad 15)] (spuGs E ad z) (nI z.ct) (spuGs E ad z) := by
  intro sz
  refine Met.ofW (cc := cX4_count) (maxL := 1) (ret := (some .int)) (by decide +kernel) rfl ?_
  intro vp ve s vm args below meth vc s₁ B hml hv
  obtain ⟨rfl, S, hr, hlk, hnm, A, hA, hE, M⟩ := genter B hml hv
  rw [hA]
  obtain ⟨ls, hfr, hl⟩ := gst (m := vm) (as := [.ref (ad 15)]) (n := 1) (Nat.le_of_ble_eq_true rfl)
  rw [hfr]
  clear hfr hA
  have hl : lv_has ls 1 [(0, .ref (ad 15))] := hl
  have M : gM E A s.heap [[(ad 15, .inr (4, [.ref (ad 16), .ref (ad 18), .ref (ad 20), .ref (ad 22), .ref (ad 24), .ref (ad 26), .ref (ad 28), .ref (ad 30), .int (nI z.ct)]))], rowW E (ad 16) (ad 17) 120 z.hd, rowW E (ad 18) (ad 19) 120 z.ps, rowW E (ad 20) (ad 21) 120 z.tm, rowW E (ad 22) (ad 23) 120 z.mn, rowW E (ad 24) (ad 25) 120 z.cm, rowW E (ad 26) (ad 27) 120 z.pl, rowW E (ad 28) (ad 29) 120 z.gr, rowW E (ad 30) (ad 31) 120 z.rk] s.heap [] := M
  have hwi : ∀ w ∈ u_ws RX4 TX4 9, w ∈ wsX4_count := by decide +kernel
  refine lv_aload_n S.1 S.2.1 dX4_count_0 rfl (lv_at hl 0 rfl) ?_
  refine gget S hE M (C := RX4) (T := TX4) (N := 9) (ci := 4) (index := 41) hwi 0 rfl rfl 8 (by decide) (by decide +kernel) rfl dX4_count_1 ?_
  exact giret S hr hlk M (rfl) (rfl) dX4_count_4

set_option maxHeartbeats 4000000 in
set_option maxRecDepth 100000 in
theorem c_X4_headOf (l : Launch) (E : xE) (ad : Nat → Nat) (z : SpuS) (k : Int32) : mI l yX4_headOf wsX4_headOf (xrm 1 21) E [.ref (ad 15), .int k] (spuGs E ad z) (rg 120 z.hd k) (spuGs E ad z) := by
  intro sz
  refine Met.ofW (cc := cX4_headOf) (maxL := 2) (ret := (some .int)) (by decide +kernel) rfl ?_
  intro vp ve s vm args below meth vc s₁ B hml hv
  obtain ⟨rfl, S, hr, hlk, hnm, A, hA, hE, M⟩ := genter B hml hv
  rw [hA]
  obtain ⟨ls, hfr, hl⟩ := gst (m := vm) (as := [.ref (ad 15), .int k]) (n := 2) (Nat.le_of_ble_eq_true rfl)
  rw [hfr]
  clear hfr hA
  have hl : lv_has ls 2 [(0, .ref (ad 15)), (1, .int k)] := hl
  have M : gM E A s.heap [[(ad 15, .inr (4, [.ref (ad 16), .ref (ad 18), .ref (ad 20), .ref (ad 22), .ref (ad 24), .ref (ad 26), .ref (ad 28), .ref (ad 30), .int (nI z.ct)]))], rowW E (ad 16) (ad 17) 120 z.hd, rowW E (ad 18) (ad 19) 120 z.ps, rowW E (ad 20) (ad 21) 120 z.tm, rowW E (ad 22) (ad 23) 120 z.mn, rowW E (ad 24) (ad 25) 120 z.cm, rowW E (ad 26) (ad 27) 120 z.pl, rowW E (ad 28) (ad 29) 120 z.gr, rowW E (ad 30) (ad 31) 120 z.rk] s.heap [] := M
  have hwi : ∀ w ∈ u_ws RX4 TX4 9, w ∈ wsX4_headOf := by decide +kernel
  refine lv_aload_n S.1 S.2.1 dX4_headOf_0 rfl (lv_at hl 0 rfl) ?_
  refine gget S hE M (C := RX4) (T := TX4) (N := 9) (ci := 4) (index := 14) hwi 0 rfl rfl 0 (by decide) (by decide +kernel) rfl dX4_headOf_1 ?_
  refine lv_iload_n S.1 S.2.1 dX4_headOf_4 rfl (lv_at hl 1 rfl) ?_
  refine gcalli (L := [[(ad 15, .inr (4, [.ref (ad 16), .ref (ad 18), .ref (ad 20), .ref (ad 22), .ref (ad 24), .ref (ad 26), .ref (ad 28), .ref (ad 30), .int (nI z.ct)]))]]) (Mid := [rowW E (ad 16) (ad 17) 120 z.hd]) (Rr := [rowW E (ad 18) (ad 19) 120 z.ps, rowW E (ad 20) (ad 21) 120 z.tm, rowW E (ad 22) (ad 23) 120 z.mn, rowW E (ad 24) (ad 25) 120 z.cm, rowW E (ad 26) (ad 27) 120 z.pl, rowW E (ad 28) (ad 29) 120 z.gr, rowW E (ad 30) (ad 31) 120 z.rk]) (Mid' := [rowW E (ad 16) (ad 17) 120 z.hd]) hE M rfl (List.append_nil _) (List.append_nil _) (fun hp => va_runV (As := [.int k]) (rest := []) S (c_X2_get l E (ad 16) (ad 17) 120 z.hd k (by decide) _) (cwV 1 S.2.2.2.2 gX4_headOf_X2_get rfl rfl rfl kd_X2_get ⟨Nat.le_of_ble_eq_true rfl, Nat.le_of_ble_eq_true rfl⟩) (hp.V hE (show vwCl[2]? = some (RX2, TX2, 1) from rfl) rfl) rfl rfl hl.1 rfl (lv_room (Nat.le_of_ble_eq_true rfl)) dX4_headOf_5 ⟨Nat.zero_le _, Nat.zero_le _⟩) (fun H locs M => ?_)
  have M : gM E A s.heap [[(ad 15, .inr (4, [.ref (ad 16), .ref (ad 18), .ref (ad 20), .ref (ad 22), .ref (ad 24), .ref (ad 26), .ref (ad 28), .ref (ad 30), .int (nI z.ct)]))], rowW E (ad 16) (ad 17) 120 z.hd, rowW E (ad 18) (ad 19) 120 z.ps, rowW E (ad 20) (ad 21) 120 z.tm, rowW E (ad 22) (ad 23) 120 z.mn, rowW E (ad 24) (ad 25) 120 z.cm, rowW E (ad 26) (ad 27) 120 z.pl, rowW E (ad 28) (ad 29) 120 z.gr, rowW E (ad 30) (ad 31) 120 z.rk] H locs := M
  exact giret S hr hlk M (rfl) (rfl) dX4_headOf_8

set_option maxHeartbeats 4000000 in
set_option maxRecDepth 100000 in
theorem c_X4_pauseOf (l : Launch) (E : xE) (ad : Nat → Nat) (z : SpuS) (k : Int32) : mI l yX4_pauseOf wsX4_pauseOf (xrm 1 21) E [.ref (ad 15), .int k] (spuGs E ad z) (rg 120 z.ps k) (spuGs E ad z) := by
  intro sz
  refine Met.ofW (cc := cX4_pauseOf) (maxL := 2) (ret := (some .int)) (by decide +kernel) rfl ?_
  intro vp ve s vm args below meth vc s₁ B hml hv
  obtain ⟨rfl, S, hr, hlk, hnm, A, hA, hE, M⟩ := genter B hml hv
  rw [hA]
  obtain ⟨ls, hfr, hl⟩ := gst (m := vm) (as := [.ref (ad 15), .int k]) (n := 2) (Nat.le_of_ble_eq_true rfl)
  rw [hfr]
  clear hfr hA
  have hl : lv_has ls 2 [(0, .ref (ad 15)), (1, .int k)] := hl
  have M : gM E A s.heap [[(ad 15, .inr (4, [.ref (ad 16), .ref (ad 18), .ref (ad 20), .ref (ad 22), .ref (ad 24), .ref (ad 26), .ref (ad 28), .ref (ad 30), .int (nI z.ct)]))], rowW E (ad 16) (ad 17) 120 z.hd, rowW E (ad 18) (ad 19) 120 z.ps, rowW E (ad 20) (ad 21) 120 z.tm, rowW E (ad 22) (ad 23) 120 z.mn, rowW E (ad 24) (ad 25) 120 z.cm, rowW E (ad 26) (ad 27) 120 z.pl, rowW E (ad 28) (ad 29) 120 z.gr, rowW E (ad 30) (ad 31) 120 z.rk] s.heap [] := M
  have hwi : ∀ w ∈ u_ws RX4 TX4 9, w ∈ wsX4_pauseOf := by decide +kernel
  refine lv_aload_n S.1 S.2.1 dX4_pauseOf_0 rfl (lv_at hl 0 rfl) ?_
  refine gget S hE M (C := RX4) (T := TX4) (N := 9) (ci := 4) (index := 20) hwi 0 rfl rfl 1 (by decide) (by decide +kernel) rfl dX4_pauseOf_1 ?_
  refine lv_iload_n S.1 S.2.1 dX4_pauseOf_4 rfl (lv_at hl 1 rfl) ?_
  refine gcalli (L := [[(ad 15, .inr (4, [.ref (ad 16), .ref (ad 18), .ref (ad 20), .ref (ad 22), .ref (ad 24), .ref (ad 26), .ref (ad 28), .ref (ad 30), .int (nI z.ct)]))], rowW E (ad 16) (ad 17) 120 z.hd]) (Mid := [rowW E (ad 18) (ad 19) 120 z.ps]) (Rr := [rowW E (ad 20) (ad 21) 120 z.tm, rowW E (ad 22) (ad 23) 120 z.mn, rowW E (ad 24) (ad 25) 120 z.cm, rowW E (ad 26) (ad 27) 120 z.pl, rowW E (ad 28) (ad 29) 120 z.gr, rowW E (ad 30) (ad 31) 120 z.rk]) (Mid' := [rowW E (ad 18) (ad 19) 120 z.ps]) hE M rfl (List.append_nil _) (List.append_nil _) (fun hp => va_runV (As := [.int k]) (rest := []) S (c_X2_get l E (ad 18) (ad 19) 120 z.ps k (by decide) _) (cwV 1 S.2.2.2.2 gX4_pauseOf_X2_get rfl rfl rfl kd_X2_get ⟨Nat.le_of_ble_eq_true rfl, Nat.le_of_ble_eq_true rfl⟩) (hp.V hE (show vwCl[2]? = some (RX2, TX2, 1) from rfl) rfl) rfl rfl hl.1 rfl (lv_room (Nat.le_of_ble_eq_true rfl)) dX4_pauseOf_5 ⟨Nat.zero_le _, Nat.zero_le _⟩) (fun H locs M => ?_)
  have M : gM E A s.heap [[(ad 15, .inr (4, [.ref (ad 16), .ref (ad 18), .ref (ad 20), .ref (ad 22), .ref (ad 24), .ref (ad 26), .ref (ad 28), .ref (ad 30), .int (nI z.ct)]))], rowW E (ad 16) (ad 17) 120 z.hd, rowW E (ad 18) (ad 19) 120 z.ps, rowW E (ad 20) (ad 21) 120 z.tm, rowW E (ad 22) (ad 23) 120 z.mn, rowW E (ad 24) (ad 25) 120 z.cm, rowW E (ad 26) (ad 27) 120 z.pl, rowW E (ad 28) (ad 29) 120 z.gr, rowW E (ad 30) (ad 31) 120 z.rk] H locs := M
  exact giret S hr hlk M (rfl) (rfl) dX4_pauseOf_8

set_option maxHeartbeats 4000000 in
set_option maxRecDepth 100000 in
theorem c_X4_timeOf (l : Launch) (E : xE) (ad : Nat → Nat) (z : SpuS) (k : Int32) : mI l yX4_timeOf wsX4_timeOf (xrm 1 21) E [.ref (ad 15), .int k] (spuGs E ad z) (rg 120 z.tm k) (spuGs E ad z) := by
  intro sz
  refine Met.ofW (cc := cX4_timeOf) (maxL := 2) (ret := (some .int)) (by decide +kernel) rfl ?_
  intro vp ve s vm args below meth vc s₁ B hml hv
  obtain ⟨rfl, S, hr, hlk, hnm, A, hA, hE, M⟩ := genter B hml hv
  rw [hA]
  obtain ⟨ls, hfr, hl⟩ := gst (m := vm) (as := [.ref (ad 15), .int k]) (n := 2) (Nat.le_of_ble_eq_true rfl)
  rw [hfr]
  clear hfr hA
  have hl : lv_has ls 2 [(0, .ref (ad 15)), (1, .int k)] := hl
  have M : gM E A s.heap [[(ad 15, .inr (4, [.ref (ad 16), .ref (ad 18), .ref (ad 20), .ref (ad 22), .ref (ad 24), .ref (ad 26), .ref (ad 28), .ref (ad 30), .int (nI z.ct)]))], rowW E (ad 16) (ad 17) 120 z.hd, rowW E (ad 18) (ad 19) 120 z.ps, rowW E (ad 20) (ad 21) 120 z.tm, rowW E (ad 22) (ad 23) 120 z.mn, rowW E (ad 24) (ad 25) 120 z.cm, rowW E (ad 26) (ad 27) 120 z.pl, rowW E (ad 28) (ad 29) 120 z.gr, rowW E (ad 30) (ad 31) 120 z.rk] s.heap [] := M
  have hwi : ∀ w ∈ u_ws RX4 TX4 9, w ∈ wsX4_timeOf := by decide +kernel
  refine lv_aload_n S.1 S.2.1 dX4_timeOf_0 rfl (lv_at hl 0 rfl) ?_
  refine gget S hE M (C := RX4) (T := TX4) (N := 9) (ci := 4) (index := 23) hwi 0 rfl rfl 2 (by decide) (by decide +kernel) rfl dX4_timeOf_1 ?_
  refine lv_iload_n S.1 S.2.1 dX4_timeOf_4 rfl (lv_at hl 1 rfl) ?_
  refine gcalli (L := [[(ad 15, .inr (4, [.ref (ad 16), .ref (ad 18), .ref (ad 20), .ref (ad 22), .ref (ad 24), .ref (ad 26), .ref (ad 28), .ref (ad 30), .int (nI z.ct)]))], rowW E (ad 16) (ad 17) 120 z.hd, rowW E (ad 18) (ad 19) 120 z.ps]) (Mid := [rowW E (ad 20) (ad 21) 120 z.tm]) (Rr := [rowW E (ad 22) (ad 23) 120 z.mn, rowW E (ad 24) (ad 25) 120 z.cm, rowW E (ad 26) (ad 27) 120 z.pl, rowW E (ad 28) (ad 29) 120 z.gr, rowW E (ad 30) (ad 31) 120 z.rk]) (Mid' := [rowW E (ad 20) (ad 21) 120 z.tm]) hE M rfl (List.append_nil _) (List.append_nil _) (fun hp => va_runV (As := [.int k]) (rest := []) S (c_X2_get l E (ad 20) (ad 21) 120 z.tm k (by decide) _) (cwV 1 S.2.2.2.2 gX4_timeOf_X2_get rfl rfl rfl kd_X2_get ⟨Nat.le_of_ble_eq_true rfl, Nat.le_of_ble_eq_true rfl⟩) (hp.V hE (show vwCl[2]? = some (RX2, TX2, 1) from rfl) rfl) rfl rfl hl.1 rfl (lv_room (Nat.le_of_ble_eq_true rfl)) dX4_timeOf_5 ⟨Nat.zero_le _, Nat.zero_le _⟩) (fun H locs M => ?_)
  have M : gM E A s.heap [[(ad 15, .inr (4, [.ref (ad 16), .ref (ad 18), .ref (ad 20), .ref (ad 22), .ref (ad 24), .ref (ad 26), .ref (ad 28), .ref (ad 30), .int (nI z.ct)]))], rowW E (ad 16) (ad 17) 120 z.hd, rowW E (ad 18) (ad 19) 120 z.ps, rowW E (ad 20) (ad 21) 120 z.tm, rowW E (ad 22) (ad 23) 120 z.mn, rowW E (ad 24) (ad 25) 120 z.cm, rowW E (ad 26) (ad 27) 120 z.pl, rowW E (ad 28) (ad 29) 120 z.gr, rowW E (ad 30) (ad 31) 120 z.rk] H locs := M
  exact giret S hr hlk M (rfl) (rfl) dX4_timeOf_8

set_option maxHeartbeats 4000000 in
set_option maxRecDepth 100000 in
theorem c_X4_mannerOf (l : Launch) (E : xE) (ad : Nat → Nat) (z : SpuS) (k : Int32) : mI l yX4_mannerOf wsX4_mannerOf (xrm 1 21) E [.ref (ad 15), .int k] (spuGs E ad z) (rg 120 z.mn k) (spuGs E ad z) := by
  intro sz
  refine Met.ofW (cc := cX4_mannerOf) (maxL := 2) (ret := (some .int)) (by decide +kernel) rfl ?_
  intro vp ve s vm args below meth vc s₁ B hml hv
  obtain ⟨rfl, S, hr, hlk, hnm, A, hA, hE, M⟩ := genter B hml hv
  rw [hA]
  obtain ⟨ls, hfr, hl⟩ := gst (m := vm) (as := [.ref (ad 15), .int k]) (n := 2) (Nat.le_of_ble_eq_true rfl)
  rw [hfr]
  clear hfr hA
  have hl : lv_has ls 2 [(0, .ref (ad 15)), (1, .int k)] := hl
  have M : gM E A s.heap [[(ad 15, .inr (4, [.ref (ad 16), .ref (ad 18), .ref (ad 20), .ref (ad 22), .ref (ad 24), .ref (ad 26), .ref (ad 28), .ref (ad 30), .int (nI z.ct)]))], rowW E (ad 16) (ad 17) 120 z.hd, rowW E (ad 18) (ad 19) 120 z.ps, rowW E (ad 20) (ad 21) 120 z.tm, rowW E (ad 22) (ad 23) 120 z.mn, rowW E (ad 24) (ad 25) 120 z.cm, rowW E (ad 26) (ad 27) 120 z.pl, rowW E (ad 28) (ad 29) 120 z.gr, rowW E (ad 30) (ad 31) 120 z.rk] s.heap [] := M
  have hwi : ∀ w ∈ u_ws RX4 TX4 9, w ∈ wsX4_mannerOf := by decide +kernel
  refine lv_aload_n S.1 S.2.1 dX4_mannerOf_0 rfl (lv_at hl 0 rfl) ?_
  refine gget S hE M (C := RX4) (T := TX4) (N := 9) (ci := 4) (index := 26) hwi 0 rfl rfl 3 (by decide) (by decide +kernel) rfl dX4_mannerOf_1 ?_
  refine lv_iload_n S.1 S.2.1 dX4_mannerOf_4 rfl (lv_at hl 1 rfl) ?_
  refine gcalli (L := [[(ad 15, .inr (4, [.ref (ad 16), .ref (ad 18), .ref (ad 20), .ref (ad 22), .ref (ad 24), .ref (ad 26), .ref (ad 28), .ref (ad 30), .int (nI z.ct)]))], rowW E (ad 16) (ad 17) 120 z.hd, rowW E (ad 18) (ad 19) 120 z.ps, rowW E (ad 20) (ad 21) 120 z.tm]) (Mid := [rowW E (ad 22) (ad 23) 120 z.mn]) (Rr := [rowW E (ad 24) (ad 25) 120 z.cm, rowW E (ad 26) (ad 27) 120 z.pl, rowW E (ad 28) (ad 29) 120 z.gr, rowW E (ad 30) (ad 31) 120 z.rk]) (Mid' := [rowW E (ad 22) (ad 23) 120 z.mn]) hE M rfl (List.append_nil _) (List.append_nil _) (fun hp => va_runV (As := [.int k]) (rest := []) S (c_X2_get l E (ad 22) (ad 23) 120 z.mn k (by decide) _) (cwV 1 S.2.2.2.2 gX4_mannerOf_X2_get rfl rfl rfl kd_X2_get ⟨Nat.le_of_ble_eq_true rfl, Nat.le_of_ble_eq_true rfl⟩) (hp.V hE (show vwCl[2]? = some (RX2, TX2, 1) from rfl) rfl) rfl rfl hl.1 rfl (lv_room (Nat.le_of_ble_eq_true rfl)) dX4_mannerOf_5 ⟨Nat.zero_le _, Nat.zero_le _⟩) (fun H locs M => ?_)
  have M : gM E A s.heap [[(ad 15, .inr (4, [.ref (ad 16), .ref (ad 18), .ref (ad 20), .ref (ad 22), .ref (ad 24), .ref (ad 26), .ref (ad 28), .ref (ad 30), .int (nI z.ct)]))], rowW E (ad 16) (ad 17) 120 z.hd, rowW E (ad 18) (ad 19) 120 z.ps, rowW E (ad 20) (ad 21) 120 z.tm, rowW E (ad 22) (ad 23) 120 z.mn, rowW E (ad 24) (ad 25) 120 z.cm, rowW E (ad 26) (ad 27) 120 z.pl, rowW E (ad 28) (ad 29) 120 z.gr, rowW E (ad 30) (ad 31) 120 z.rk] H locs := M
  exact giret S hr hlk M (rfl) (rfl) dX4_mannerOf_8

set_option maxHeartbeats 4000000 in
set_option maxRecDepth 100000 in
theorem c_X4_cameOf (l : Launch) (E : xE) (ad : Nat → Nat) (z : SpuS) (k : Int32) : mI l yX4_cameOf wsX4_cameOf (xrm 1 21) E [.ref (ad 15), .int k] (spuGs E ad z) (rg 120 z.cm k) (spuGs E ad z) := by
  intro sz
  refine Met.ofW (cc := cX4_cameOf) (maxL := 2) (ret := (some .int)) (by decide +kernel) rfl ?_
  intro vp ve s vm args below meth vc s₁ B hml hv
  obtain ⟨rfl, S, hr, hlk, hnm, A, hA, hE, M⟩ := genter B hml hv
  rw [hA]
  obtain ⟨ls, hfr, hl⟩ := gst (m := vm) (as := [.ref (ad 15), .int k]) (n := 2) (Nat.le_of_ble_eq_true rfl)
  rw [hfr]
  clear hfr hA
  have hl : lv_has ls 2 [(0, .ref (ad 15)), (1, .int k)] := hl
  have M : gM E A s.heap [[(ad 15, .inr (4, [.ref (ad 16), .ref (ad 18), .ref (ad 20), .ref (ad 22), .ref (ad 24), .ref (ad 26), .ref (ad 28), .ref (ad 30), .int (nI z.ct)]))], rowW E (ad 16) (ad 17) 120 z.hd, rowW E (ad 18) (ad 19) 120 z.ps, rowW E (ad 20) (ad 21) 120 z.tm, rowW E (ad 22) (ad 23) 120 z.mn, rowW E (ad 24) (ad 25) 120 z.cm, rowW E (ad 26) (ad 27) 120 z.pl, rowW E (ad 28) (ad 29) 120 z.gr, rowW E (ad 30) (ad 31) 120 z.rk] s.heap [] := M
  have hwi : ∀ w ∈ u_ws RX4 TX4 9, w ∈ wsX4_cameOf := by decide +kernel
  refine lv_aload_n S.1 S.2.1 dX4_cameOf_0 rfl (lv_at hl 0 rfl) ?_
  refine gget S hE M (C := RX4) (T := TX4) (N := 9) (ci := 4) (index := 29) hwi 0 rfl rfl 4 (by decide) (by decide +kernel) rfl dX4_cameOf_1 ?_
  refine lv_iload_n S.1 S.2.1 dX4_cameOf_4 rfl (lv_at hl 1 rfl) ?_
  refine gcalli (L := [[(ad 15, .inr (4, [.ref (ad 16), .ref (ad 18), .ref (ad 20), .ref (ad 22), .ref (ad 24), .ref (ad 26), .ref (ad 28), .ref (ad 30), .int (nI z.ct)]))], rowW E (ad 16) (ad 17) 120 z.hd, rowW E (ad 18) (ad 19) 120 z.ps, rowW E (ad 20) (ad 21) 120 z.tm, rowW E (ad 22) (ad 23) 120 z.mn]) (Mid := [rowW E (ad 24) (ad 25) 120 z.cm]) (Rr := [rowW E (ad 26) (ad 27) 120 z.pl, rowW E (ad 28) (ad 29) 120 z.gr, rowW E (ad 30) (ad 31) 120 z.rk]) (Mid' := [rowW E (ad 24) (ad 25) 120 z.cm]) hE M rfl (List.append_nil _) (List.append_nil _) (fun hp => va_runV (As := [.int k]) (rest := []) S (c_X2_get l E (ad 24) (ad 25) 120 z.cm k (by decide) _) (cwV 1 S.2.2.2.2 gX4_cameOf_X2_get rfl rfl rfl kd_X2_get ⟨Nat.le_of_ble_eq_true rfl, Nat.le_of_ble_eq_true rfl⟩) (hp.V hE (show vwCl[2]? = some (RX2, TX2, 1) from rfl) rfl) rfl rfl hl.1 rfl (lv_room (Nat.le_of_ble_eq_true rfl)) dX4_cameOf_5 ⟨Nat.zero_le _, Nat.zero_le _⟩) (fun H locs M => ?_)
  have M : gM E A s.heap [[(ad 15, .inr (4, [.ref (ad 16), .ref (ad 18), .ref (ad 20), .ref (ad 22), .ref (ad 24), .ref (ad 26), .ref (ad 28), .ref (ad 30), .int (nI z.ct)]))], rowW E (ad 16) (ad 17) 120 z.hd, rowW E (ad 18) (ad 19) 120 z.ps, rowW E (ad 20) (ad 21) 120 z.tm, rowW E (ad 22) (ad 23) 120 z.mn, rowW E (ad 24) (ad 25) 120 z.cm, rowW E (ad 26) (ad 27) 120 z.pl, rowW E (ad 28) (ad 29) 120 z.gr, rowW E (ad 30) (ad 31) 120 z.rk] H locs := M
  exact giret S hr hlk M (rfl) (rfl) dX4_cameOf_8

set_option maxHeartbeats 4000000 in
set_option maxRecDepth 100000 in
theorem c_X4_playedOf (l : Launch) (E : xE) (ad : Nat → Nat) (z : SpuS) (k : Int32) : mI l yX4_playedOf wsX4_playedOf (xrm 1 21) E [.ref (ad 15), .int k] (spuGs E ad z) (rg 120 z.pl k) (spuGs E ad z) := by
  intro sz
  refine Met.ofW (cc := cX4_playedOf) (maxL := 2) (ret := (some .int)) (by decide +kernel) rfl ?_
  intro vp ve s vm args below meth vc s₁ B hml hv
  obtain ⟨rfl, S, hr, hlk, hnm, A, hA, hE, M⟩ := genter B hml hv
  rw [hA]
  obtain ⟨ls, hfr, hl⟩ := gst (m := vm) (as := [.ref (ad 15), .int k]) (n := 2) (Nat.le_of_ble_eq_true rfl)
  rw [hfr]
  clear hfr hA
  have hl : lv_has ls 2 [(0, .ref (ad 15)), (1, .int k)] := hl
  have M : gM E A s.heap [[(ad 15, .inr (4, [.ref (ad 16), .ref (ad 18), .ref (ad 20), .ref (ad 22), .ref (ad 24), .ref (ad 26), .ref (ad 28), .ref (ad 30), .int (nI z.ct)]))], rowW E (ad 16) (ad 17) 120 z.hd, rowW E (ad 18) (ad 19) 120 z.ps, rowW E (ad 20) (ad 21) 120 z.tm, rowW E (ad 22) (ad 23) 120 z.mn, rowW E (ad 24) (ad 25) 120 z.cm, rowW E (ad 26) (ad 27) 120 z.pl, rowW E (ad 28) (ad 29) 120 z.gr, rowW E (ad 30) (ad 31) 120 z.rk] s.heap [] := M
  have hwi : ∀ w ∈ u_ws RX4 TX4 9, w ∈ wsX4_playedOf := by decide +kernel
  refine lv_aload_n S.1 S.2.1 dX4_playedOf_0 rfl (lv_at hl 0 rfl) ?_
  refine gget S hE M (C := RX4) (T := TX4) (N := 9) (ci := 4) (index := 32) hwi 0 rfl rfl 5 (by decide) (by decide +kernel) rfl dX4_playedOf_1 ?_
  refine lv_iload_n S.1 S.2.1 dX4_playedOf_4 rfl (lv_at hl 1 rfl) ?_
  refine gcalli (L := [[(ad 15, .inr (4, [.ref (ad 16), .ref (ad 18), .ref (ad 20), .ref (ad 22), .ref (ad 24), .ref (ad 26), .ref (ad 28), .ref (ad 30), .int (nI z.ct)]))], rowW E (ad 16) (ad 17) 120 z.hd, rowW E (ad 18) (ad 19) 120 z.ps, rowW E (ad 20) (ad 21) 120 z.tm, rowW E (ad 22) (ad 23) 120 z.mn, rowW E (ad 24) (ad 25) 120 z.cm]) (Mid := [rowW E (ad 26) (ad 27) 120 z.pl]) (Rr := [rowW E (ad 28) (ad 29) 120 z.gr, rowW E (ad 30) (ad 31) 120 z.rk]) (Mid' := [rowW E (ad 26) (ad 27) 120 z.pl]) hE M rfl (List.append_nil _) (List.append_nil _) (fun hp => va_runV (As := [.int k]) (rest := []) S (c_X2_get l E (ad 26) (ad 27) 120 z.pl k (by decide) _) (cwV 1 S.2.2.2.2 gX4_playedOf_X2_get rfl rfl rfl kd_X2_get ⟨Nat.le_of_ble_eq_true rfl, Nat.le_of_ble_eq_true rfl⟩) (hp.V hE (show vwCl[2]? = some (RX2, TX2, 1) from rfl) rfl) rfl rfl hl.1 rfl (lv_room (Nat.le_of_ble_eq_true rfl)) dX4_playedOf_5 ⟨Nat.zero_le _, Nat.zero_le _⟩) (fun H locs M => ?_)
  have M : gM E A s.heap [[(ad 15, .inr (4, [.ref (ad 16), .ref (ad 18), .ref (ad 20), .ref (ad 22), .ref (ad 24), .ref (ad 26), .ref (ad 28), .ref (ad 30), .int (nI z.ct)]))], rowW E (ad 16) (ad 17) 120 z.hd, rowW E (ad 18) (ad 19) 120 z.ps, rowW E (ad 20) (ad 21) 120 z.tm, rowW E (ad 22) (ad 23) 120 z.mn, rowW E (ad 24) (ad 25) 120 z.cm, rowW E (ad 26) (ad 27) 120 z.pl, rowW E (ad 28) (ad 29) 120 z.gr, rowW E (ad 30) (ad 31) 120 z.rk] H locs := M
  exact giret S hr hlk M (rfl) (rfl) dX4_playedOf_8

set_option maxHeartbeats 4000000 in
set_option maxRecDepth 100000 in
theorem c_X4_greatestOf (l : Launch) (E : xE) (ad : Nat → Nat) (z : SpuS) (k : Int32) : mI l yX4_greatestOf wsX4_greatestOf (xrm 1 21) E [.ref (ad 15), .int k] (spuGs E ad z) (rg 120 z.gr k) (spuGs E ad z) := by
  intro sz
  refine Met.ofW (cc := cX4_greatestOf) (maxL := 2) (ret := (some .int)) (by decide +kernel) rfl ?_
  intro vp ve s vm args below meth vc s₁ B hml hv
  obtain ⟨rfl, S, hr, hlk, hnm, A, hA, hE, M⟩ := genter B hml hv
  rw [hA]
  obtain ⟨ls, hfr, hl⟩ := gst (m := vm) (as := [.ref (ad 15), .int k]) (n := 2) (Nat.le_of_ble_eq_true rfl)
  rw [hfr]
  clear hfr hA
  have hl : lv_has ls 2 [(0, .ref (ad 15)), (1, .int k)] := hl
  have M : gM E A s.heap [[(ad 15, .inr (4, [.ref (ad 16), .ref (ad 18), .ref (ad 20), .ref (ad 22), .ref (ad 24), .ref (ad 26), .ref (ad 28), .ref (ad 30), .int (nI z.ct)]))], rowW E (ad 16) (ad 17) 120 z.hd, rowW E (ad 18) (ad 19) 120 z.ps, rowW E (ad 20) (ad 21) 120 z.tm, rowW E (ad 22) (ad 23) 120 z.mn, rowW E (ad 24) (ad 25) 120 z.cm, rowW E (ad 26) (ad 27) 120 z.pl, rowW E (ad 28) (ad 29) 120 z.gr, rowW E (ad 30) (ad 31) 120 z.rk] s.heap [] := M
  have hwi : ∀ w ∈ u_ws RX4 TX4 9, w ∈ wsX4_greatestOf := by decide +kernel
  refine lv_aload_n S.1 S.2.1 dX4_greatestOf_0 rfl (lv_at hl 0 rfl) ?_
  refine gget S hE M (C := RX4) (T := TX4) (N := 9) (ci := 4) (index := 35) hwi 0 rfl rfl 6 (by decide) (by decide +kernel) rfl dX4_greatestOf_1 ?_
  refine lv_iload_n S.1 S.2.1 dX4_greatestOf_4 rfl (lv_at hl 1 rfl) ?_
  refine gcalli (L := [[(ad 15, .inr (4, [.ref (ad 16), .ref (ad 18), .ref (ad 20), .ref (ad 22), .ref (ad 24), .ref (ad 26), .ref (ad 28), .ref (ad 30), .int (nI z.ct)]))], rowW E (ad 16) (ad 17) 120 z.hd, rowW E (ad 18) (ad 19) 120 z.ps, rowW E (ad 20) (ad 21) 120 z.tm, rowW E (ad 22) (ad 23) 120 z.mn, rowW E (ad 24) (ad 25) 120 z.cm, rowW E (ad 26) (ad 27) 120 z.pl]) (Mid := [rowW E (ad 28) (ad 29) 120 z.gr]) (Rr := [rowW E (ad 30) (ad 31) 120 z.rk]) (Mid' := [rowW E (ad 28) (ad 29) 120 z.gr]) hE M rfl (List.append_nil _) (List.append_nil _) (fun hp => va_runV (As := [.int k]) (rest := []) S (c_X2_get l E (ad 28) (ad 29) 120 z.gr k (by decide) _) (cwV 1 S.2.2.2.2 gX4_greatestOf_X2_get rfl rfl rfl kd_X2_get ⟨Nat.le_of_ble_eq_true rfl, Nat.le_of_ble_eq_true rfl⟩) (hp.V hE (show vwCl[2]? = some (RX2, TX2, 1) from rfl) rfl) rfl rfl hl.1 rfl (lv_room (Nat.le_of_ble_eq_true rfl)) dX4_greatestOf_5 ⟨Nat.zero_le _, Nat.zero_le _⟩) (fun H locs M => ?_)
  have M : gM E A s.heap [[(ad 15, .inr (4, [.ref (ad 16), .ref (ad 18), .ref (ad 20), .ref (ad 22), .ref (ad 24), .ref (ad 26), .ref (ad 28), .ref (ad 30), .int (nI z.ct)]))], rowW E (ad 16) (ad 17) 120 z.hd, rowW E (ad 18) (ad 19) 120 z.ps, rowW E (ad 20) (ad 21) 120 z.tm, rowW E (ad 22) (ad 23) 120 z.mn, rowW E (ad 24) (ad 25) 120 z.cm, rowW E (ad 26) (ad 27) 120 z.pl, rowW E (ad 28) (ad 29) 120 z.gr, rowW E (ad 30) (ad 31) 120 z.rk] H locs := M
  exact giret S hr hlk M (rfl) (rfl) dX4_greatestOf_8

set_option maxHeartbeats 4000000 in
set_option maxRecDepth 100000 in
theorem c_X4_atRank (l : Launch) (E : xE) (ad : Nat → Nat) (z : SpuS) (k : Int32) : mI l yX4_atRank wsX4_atRank (xrm 1 21) E [.ref (ad 15), .int k] (spuGs E ad z) (rg 120 z.rk k) (spuGs E ad z) := by
  intro sz
  refine Met.ofW (cc := cX4_atRank) (maxL := 2) (ret := (some .int)) (by decide +kernel) rfl ?_
  intro vp ve s vm args below meth vc s₁ B hml hv
  obtain ⟨rfl, S, hr, hlk, hnm, A, hA, hE, M⟩ := genter B hml hv
  rw [hA]
  obtain ⟨ls, hfr, hl⟩ := gst (m := vm) (as := [.ref (ad 15), .int k]) (n := 2) (Nat.le_of_ble_eq_true rfl)
  rw [hfr]
  clear hfr hA
  have hl : lv_has ls 2 [(0, .ref (ad 15)), (1, .int k)] := hl
  have M : gM E A s.heap [[(ad 15, .inr (4, [.ref (ad 16), .ref (ad 18), .ref (ad 20), .ref (ad 22), .ref (ad 24), .ref (ad 26), .ref (ad 28), .ref (ad 30), .int (nI z.ct)]))], rowW E (ad 16) (ad 17) 120 z.hd, rowW E (ad 18) (ad 19) 120 z.ps, rowW E (ad 20) (ad 21) 120 z.tm, rowW E (ad 22) (ad 23) 120 z.mn, rowW E (ad 24) (ad 25) 120 z.cm, rowW E (ad 26) (ad 27) 120 z.pl, rowW E (ad 28) (ad 29) 120 z.gr, rowW E (ad 30) (ad 31) 120 z.rk] s.heap [] := M
  have hwi : ∀ w ∈ u_ws RX4 TX4 9, w ∈ wsX4_atRank := by decide +kernel
  refine lv_aload_n S.1 S.2.1 dX4_atRank_0 rfl (lv_at hl 0 rfl) ?_
  refine gget S hE M (C := RX4) (T := TX4) (N := 9) (ci := 4) (index := 38) hwi 0 rfl rfl 7 (by decide) (by decide +kernel) rfl dX4_atRank_1 ?_
  refine lv_iload_n S.1 S.2.1 dX4_atRank_4 rfl (lv_at hl 1 rfl) ?_
  refine gcalli (L := [[(ad 15, .inr (4, [.ref (ad 16), .ref (ad 18), .ref (ad 20), .ref (ad 22), .ref (ad 24), .ref (ad 26), .ref (ad 28), .ref (ad 30), .int (nI z.ct)]))], rowW E (ad 16) (ad 17) 120 z.hd, rowW E (ad 18) (ad 19) 120 z.ps, rowW E (ad 20) (ad 21) 120 z.tm, rowW E (ad 22) (ad 23) 120 z.mn, rowW E (ad 24) (ad 25) 120 z.cm, rowW E (ad 26) (ad 27) 120 z.pl, rowW E (ad 28) (ad 29) 120 z.gr]) (Mid := [rowW E (ad 30) (ad 31) 120 z.rk]) (Rr := []) (Mid' := [rowW E (ad 30) (ad 31) 120 z.rk]) hE M rfl (List.append_nil _) (List.append_nil _) (fun hp => va_runV (As := [.int k]) (rest := []) S (c_X2_get l E (ad 30) (ad 31) 120 z.rk k (by decide) _) (cwV 1 S.2.2.2.2 gX4_atRank_X2_get rfl rfl rfl kd_X2_get ⟨Nat.le_of_ble_eq_true rfl, Nat.le_of_ble_eq_true rfl⟩) (hp.V hE (show vwCl[2]? = some (RX2, TX2, 1) from rfl) rfl) rfl rfl hl.1 rfl (lv_room (Nat.le_of_ble_eq_true rfl)) dX4_atRank_5 ⟨Nat.zero_le _, Nat.zero_le _⟩) (fun H locs M => ?_)
  have M : gM E A s.heap [[(ad 15, .inr (4, [.ref (ad 16), .ref (ad 18), .ref (ad 20), .ref (ad 22), .ref (ad 24), .ref (ad 26), .ref (ad 28), .ref (ad 30), .int (nI z.ct)]))], rowW E (ad 16) (ad 17) 120 z.hd, rowW E (ad 18) (ad 19) 120 z.ps, rowW E (ad 20) (ad 21) 120 z.tm, rowW E (ad 22) (ad 23) 120 z.mn, rowW E (ad 24) (ad 25) 120 z.cm, rowW E (ad 26) (ad 27) 120 z.pl, rowW E (ad 28) (ad 29) 120 z.gr, rowW E (ad 30) (ad 31) 120 z.rk] H locs := M
  exact giret S hr hlk M (rfl) (rfl) dX4_atRank_8

set_option maxHeartbeats 4000000 in
set_option maxRecDepth 100000 in
theorem c_X4_missingOf (l : Launch) (E : xE) (ad : Nat → Nat) (z : SpuS) (k : Int32) : mI l yX4_missingOf wsX4_missingOf (xrm 1 21) E [.ref (ad 15), .int k] (spuGs E ad z) (z.missing k) (spuGs E ad z) := by
  intro sz
  refine Met.ofW (cc := cX4_missingOf) (maxL := 2) (ret := (some .int)) (by decide +kernel) rfl ?_
  intro vp ve s vm args below meth vc s₁ B hml hv
  obtain ⟨rfl, S, hr, hlk, hnm, A, hA, hE, M⟩ := genter B hml hv
  rw [hA]
  obtain ⟨ls, hfr, hl⟩ := gst (m := vm) (as := [.ref (ad 15), .int k]) (n := 2) (Nat.le_of_ble_eq_true rfl)
  rw [hfr]
  clear hfr hA
  have hl : lv_has ls 2 [(0, .ref (ad 15)), (1, .int k)] := hl
  have M : gM E A s.heap [[(ad 15, .inr (4, [.ref (ad 16), .ref (ad 18), .ref (ad 20), .ref (ad 22), .ref (ad 24), .ref (ad 26), .ref (ad 28), .ref (ad 30), .int (nI z.ct)]))], rowW E (ad 16) (ad 17) 120 z.hd, rowW E (ad 18) (ad 19) 120 z.ps, rowW E (ad 20) (ad 21) 120 z.tm, rowW E (ad 22) (ad 23) 120 z.mn, rowW E (ad 24) (ad 25) 120 z.cm, rowW E (ad 26) (ad 27) 120 z.pl, rowW E (ad 28) (ad 29) 120 z.gr, rowW E (ad 30) (ad 31) 120 z.rk] s.heap [] := M
  have hwi : ∀ w ∈ u_ws RX4 TX4 9, w ∈ wsX4_missingOf := by decide +kernel
  refine lv_aload_n S.1 S.2.1 dX4_missingOf_0 rfl (lv_at hl 0 rfl) ?_
  refine gget S hE M (C := RX4) (T := TX4) (N := 9) (ci := 4) (index := 35) hwi 0 rfl rfl 6 (by decide) (by decide +kernel) rfl dX4_missingOf_1 ?_
  refine lv_iload_n S.1 S.2.1 dX4_missingOf_4 rfl (lv_at hl 1 rfl) ?_
  refine gcalli (L := [[(ad 15, .inr (4, [.ref (ad 16), .ref (ad 18), .ref (ad 20), .ref (ad 22), .ref (ad 24), .ref (ad 26), .ref (ad 28), .ref (ad 30), .int (nI z.ct)]))], rowW E (ad 16) (ad 17) 120 z.hd, rowW E (ad 18) (ad 19) 120 z.ps, rowW E (ad 20) (ad 21) 120 z.tm, rowW E (ad 22) (ad 23) 120 z.mn, rowW E (ad 24) (ad 25) 120 z.cm, rowW E (ad 26) (ad 27) 120 z.pl]) (Mid := [rowW E (ad 28) (ad 29) 120 z.gr]) (Rr := [rowW E (ad 30) (ad 31) 120 z.rk]) (Mid' := [rowW E (ad 28) (ad 29) 120 z.gr]) hE M rfl (List.append_nil _) (List.append_nil _) (fun hp => va_runV (As := [.int k]) (rest := []) S (c_X2_get l E (ad 28) (ad 29) 120 z.gr k (by decide) _) (cwV 1 S.2.2.2.2 gX4_missingOf_X2_get rfl rfl rfl kd_X2_get ⟨Nat.le_of_ble_eq_true rfl, Nat.le_of_ble_eq_true rfl⟩) (hp.V hE (show vwCl[2]? = some (RX2, TX2, 1) from rfl) rfl) rfl rfl hl.1 rfl (lv_room (Nat.le_of_ble_eq_true rfl)) dX4_missingOf_5 ⟨Nat.zero_le _, Nat.zero_le _⟩) (fun H locs M => ?_)
  have M : gM E A s.heap [[(ad 15, .inr (4, [.ref (ad 16), .ref (ad 18), .ref (ad 20), .ref (ad 22), .ref (ad 24), .ref (ad 26), .ref (ad 28), .ref (ad 30), .int (nI z.ct)]))], rowW E (ad 16) (ad 17) 120 z.hd, rowW E (ad 18) (ad 19) 120 z.ps, rowW E (ad 20) (ad 21) 120 z.tm, rowW E (ad 22) (ad 23) 120 z.mn, rowW E (ad 24) (ad 25) 120 z.cm, rowW E (ad 26) (ad 27) 120 z.pl, rowW E (ad 28) (ad 29) 120 z.gr, rowW E (ad 30) (ad 31) 120 z.rk] H locs := M
  refine lv_aload_n S.1 S.2.1 dX4_missingOf_8 rfl (lv_at hl 0 rfl) ?_
  refine gget S hE M (C := RX4) (T := TX4) (N := 9) (ci := 4) (index := 14) hwi 0 rfl rfl 0 (by decide) (by decide +kernel) rfl dX4_missingOf_9 ?_
  refine lv_iload_n S.1 S.2.1 dX4_missingOf_12 rfl (lv_at hl 1 rfl) ?_
  refine gcalli (L := [[(ad 15, .inr (4, [.ref (ad 16), .ref (ad 18), .ref (ad 20), .ref (ad 22), .ref (ad 24), .ref (ad 26), .ref (ad 28), .ref (ad 30), .int (nI z.ct)]))]]) (Mid := [rowW E (ad 16) (ad 17) 120 z.hd]) (Rr := [rowW E (ad 18) (ad 19) 120 z.ps, rowW E (ad 20) (ad 21) 120 z.tm, rowW E (ad 22) (ad 23) 120 z.mn, rowW E (ad 24) (ad 25) 120 z.cm, rowW E (ad 26) (ad 27) 120 z.pl, rowW E (ad 28) (ad 29) 120 z.gr, rowW E (ad 30) (ad 31) 120 z.rk]) (Mid' := [rowW E (ad 16) (ad 17) 120 z.hd]) hE M rfl (List.append_nil _) (List.append_nil _) (fun hp => va_runV (As := [.int k]) (rest := [.int (rg 120 z.gr k)]) S (c_X2_get l E (ad 16) (ad 17) 120 z.hd k (by decide) _) (cwV 1 S.2.2.2.2 gX4_missingOf_X2_get rfl rfl rfl kd_X2_get ⟨Nat.le_of_ble_eq_true rfl, Nat.le_of_ble_eq_true rfl⟩) (hp.V hE (show vwCl[2]? = some (RX2, TX2, 1) from rfl) rfl) rfl rfl hl.1 rfl (lv_room (Nat.le_of_ble_eq_true rfl)) dX4_missingOf_13 ⟨Nat.zero_le _, Nat.zero_le _⟩) (fun H locs M => ?_)
  have M : gM E A s.heap [[(ad 15, .inr (4, [.ref (ad 16), .ref (ad 18), .ref (ad 20), .ref (ad 22), .ref (ad 24), .ref (ad 26), .ref (ad 28), .ref (ad 30), .int (nI z.ct)]))], rowW E (ad 16) (ad 17) 120 z.hd, rowW E (ad 18) (ad 19) 120 z.ps, rowW E (ad 20) (ad 21) 120 z.tm, rowW E (ad 22) (ad 23) 120 z.mn, rowW E (ad 24) (ad 25) 120 z.cm, rowW E (ad 26) (ad 27) 120 z.pl, rowW E (ad 28) (ad 29) 120 z.gr, rowW E (ad 30) (ad 31) 120 z.rk] H locs := M
  refine lv_isub S.1 S.2.1 dX4_missingOf_16 ?_
  refine lv_iconst (v := 1) S.1 S.2.1 dX4_missingOf_17 (by decide) ?_
  refine lv_iadd S.1 S.2.1 dX4_missingOf_18 ?_
  refine lv_aload_n S.1 S.2.1 dX4_missingOf_19 rfl (lv_at hl 0 rfl) ?_
  refine gget S hE M (C := RX4) (T := TX4) (N := 9) (ci := 4) (index := 29) hwi 0 rfl rfl 4 (by decide) (by decide +kernel) rfl dX4_missingOf_20 ?_
  refine lv_iload_n S.1 S.2.1 dX4_missingOf_23 rfl (lv_at hl 1 rfl) ?_
  refine gcalli (L := [[(ad 15, .inr (4, [.ref (ad 16), .ref (ad 18), .ref (ad 20), .ref (ad 22), .ref (ad 24), .ref (ad 26), .ref (ad 28), .ref (ad 30), .int (nI z.ct)]))], rowW E (ad 16) (ad 17) 120 z.hd, rowW E (ad 18) (ad 19) 120 z.ps, rowW E (ad 20) (ad 21) 120 z.tm, rowW E (ad 22) (ad 23) 120 z.mn]) (Mid := [rowW E (ad 24) (ad 25) 120 z.cm]) (Rr := [rowW E (ad 26) (ad 27) 120 z.pl, rowW E (ad 28) (ad 29) 120 z.gr, rowW E (ad 30) (ad 31) 120 z.rk]) (Mid' := [rowW E (ad 24) (ad 25) 120 z.cm]) hE M rfl (List.append_nil _) (List.append_nil _) (fun hp => va_runV (As := [.int k]) (rest := [.int (((rg 120 z.gr k) - (rg 120 z.hd k)) + 1)]) S (c_X2_get l E (ad 24) (ad 25) 120 z.cm k (by decide) _) (cwV 1 S.2.2.2.2 gX4_missingOf_X2_get rfl rfl rfl kd_X2_get ⟨Nat.le_of_ble_eq_true rfl, Nat.le_of_ble_eq_true rfl⟩) (hp.V hE (show vwCl[2]? = some (RX2, TX2, 1) from rfl) rfl) rfl rfl hl.1 rfl (lv_room (Nat.le_of_ble_eq_true rfl)) dX4_missingOf_24 ⟨Nat.zero_le _, Nat.zero_le _⟩) (fun H locs M => ?_)
  have M : gM E A s.heap [[(ad 15, .inr (4, [.ref (ad 16), .ref (ad 18), .ref (ad 20), .ref (ad 22), .ref (ad 24), .ref (ad 26), .ref (ad 28), .ref (ad 30), .int (nI z.ct)]))], rowW E (ad 16) (ad 17) 120 z.hd, rowW E (ad 18) (ad 19) 120 z.ps, rowW E (ad 20) (ad 21) 120 z.tm, rowW E (ad 22) (ad 23) 120 z.mn, rowW E (ad 24) (ad 25) 120 z.cm, rowW E (ad 26) (ad 27) 120 z.pl, rowW E (ad 28) (ad 29) 120 z.gr, rowW E (ad 30) (ad 31) 120 z.rk] H locs := M
  refine lv_isub S.1 S.2.1 dX4_missingOf_27 ?_
  exact giret S hr hlk M (rfl) (rfl) dX4_missingOf_28

set_option maxHeartbeats 4000000 in
set_option maxRecDepth 100000 in
theorem c_X4_playedOfAll (l : Launch) (E : xE) (ad : Nat → Nat) (z : SpuS) (hc : z.ct ≤ 120) : mI l yX4_playedOfAll wsX4_playedOfAll (xrm 2 42) E [.ref (ad 15)] (spuGs E ad z) z.playedAll (spuGs E ad z) := by
  intro sz
  refine Met.ofW (cc := cX4_playedOfAll) (maxL := 3) (ret := (some .int)) (by decide +kernel) rfl ?_
  intro vp ve s vm args below meth vc s₁ B hml hv
  obtain ⟨rfl, S, hr, hlk, hnm, A, hA, hE, M⟩ := genter B hml hv
  rw [hA]
  obtain ⟨ls, hfr, hl⟩ := gst (m := vm) (as := [.ref (ad 15)]) (n := 3) (Nat.le_of_ble_eq_true rfl)
  rw [hfr]
  clear hfr hA
  have hl : lv_has ls 3 [(0, .ref (ad 15))] := hl
  have M : gM E A s.heap [[(ad 15, .inr (4, [.ref (ad 16), .ref (ad 18), .ref (ad 20), .ref (ad 22), .ref (ad 24), .ref (ad 26), .ref (ad 28), .ref (ad 30), .int (nI z.ct)]))], rowW E (ad 16) (ad 17) 120 z.hd, rowW E (ad 18) (ad 19) 120 z.ps, rowW E (ad 20) (ad 21) 120 z.tm, rowW E (ad 22) (ad 23) 120 z.mn, rowW E (ad 24) (ad 25) 120 z.cm, rowW E (ad 26) (ad 27) 120 z.pl, rowW E (ad 28) (ad 29) 120 z.gr, rowW E (ad 30) (ad 31) 120 z.rk] s.heap [] := M
  have hwi : ∀ w ∈ u_ws RX4 TX4 9, w ∈ wsX4_playedOfAll := by decide +kernel
  obtain ⟨Q, hQ⟩ : ∃ Q : State → Prop, MQ below (va_Qi (fun x (_ : Unit) => x = z.playedAll) (fun _ => kQ E A (spuGs E ad z)) A) ([.ref (ad 15)] : List Value).toArray s 0 0 A = Q := ⟨_, rfl⟩
  rw [hQ]
  have hL : ∀ (n : Nat), ∀ (i : Nat) (a : Int32), i + n = z.ct → z.playedAll = sumr (fun i => rg 120 z.pl (nI i)) n i a → ∀ (H : Heap) (locs : List Loc), gM E A s.heap [[(ad 15, .inr (4, [.ref (ad 16), .ref (ad 18), .ref (ad 20), .ref (ad 22), .ref (ad 24), .ref (ad 26), .ref (ad 28), .ref (ad 30), .int (nI z.ct)]))], rowW E (ad 16) (ad 17) 120 z.hd, rowW E (ad 18) (ad 19) 120 z.ps, rowW E (ad 20) (ad 21) 120 z.tm, rowW E (ad 22) (ad 23) 120 z.mn, rowW E (ad 24) (ad 25) 120 z.cm, rowW E (ad 26) (ad 27) 120 z.pl, rowW E (ad 28) (ad 29) 120 z.gr, rowW E (ad 30) (ad 31) 120 z.rk] H locs → ∀ ls : Array Slot, lv_has ls 3 [(0, .ref (ad 15)), (1, .int a), (2, .int (nI i))] → W vp l ve (headSpec wsX4_playedOfAll (xrm 2 42)).room s vm ([.ref (ad 15)] : List Value).toArray below meth vc H locs 0 0 Q (F0 vm 4 ls []) := by
    intro n
    induction n with
    | zero =>
      intro i a hi hI H locs M ls hl
      refine lv_iload_n S.1 S.2.1 dX4_playedOfAll_4 rfl (lv_at hl 2 rfl) ?_
      refine lv_aload_n S.1 S.2.1 dX4_playedOfAll_5 rfl (lv_at hl 0 rfl) ?_
      refine gget S hE M (C := RX4) (T := TX4) (N := 9) (ci := 4) (index := 41) hwi 0 rfl rfl 8 (by decide) (by decide +kernel) rfl dX4_playedOfAll_6 ?_
      refine lv_icmp_ge (tgt := 26) S.1 S.2.1 dX4_playedOfAll_9 (by decide) (fun _ => ?_) (fun c_ => absurd (nI_le (by omega) (by omega)) c_)
      refine lv_iload_n S.1 S.2.1 dX4_playedOfAll_26 rfl (lv_at hl 1 rfl) ?_
      rw [← hQ]
      exact giret S hr hlk M (hI.symm) (rfl) dX4_playedOfAll_27
    | succ n ih =>
      intro i a hi hI H locs M ls hl
      refine lv_iload_n S.1 S.2.1 dX4_playedOfAll_4 rfl (lv_at hl 2 rfl) ?_
      refine lv_aload_n S.1 S.2.1 dX4_playedOfAll_5 rfl (lv_at hl 0 rfl) ?_
      refine gget S hE M (C := RX4) (T := TX4) (N := 9) (ci := 4) (index := 41) hwi 0 rfl rfl 8 (by decide) (by decide +kernel) rfl dX4_playedOfAll_6 ?_
      refine lv_icmp_ge (tgt := 26) S.1 S.2.1 dX4_playedOfAll_9 (by decide) (fun c_ => absurd c_ (nI_ge (by omega) (by omega))) (fun _ => ?_)
      refine lv_iload_n S.1 S.2.1 dX4_playedOfAll_12 rfl (lv_at hl 1 rfl) ?_
      refine lv_aload_n S.1 S.2.1 dX4_playedOfAll_13 rfl (lv_at hl 0 rfl) ?_
      refine lv_iload_n S.1 S.2.1 dX4_playedOfAll_14 rfl (lv_at hl 2 rfl) ?_
      refine gcalli (L := []) (Mid := spuGs E ad z) (Rr := []) (Mid' := spuGs E ad z) hE M rfl (rfl) (rfl) (fun hp => va_runV (As := [.int (nI i)]) (rest := [.int a]) S (c_X4_playedOf l E ad z (nI i)  _) (cwV 1 S.2.2.2.2 gX4_playedOfAll_X4_playedOf rfl rfl rfl kd_X4_playedOf ⟨Nat.le_of_ble_eq_true rfl, Nat.le_of_ble_eq_true rfl⟩) (hp.V hE (show vwCl[4]? = some (RX4, TX4, 9) from rfl) rfl) rfl rfl hl.1 rfl (lv_room (Nat.le_of_ble_eq_true rfl)) dX4_playedOfAll_15 ⟨Nat.zero_le _, Nat.zero_le _⟩) (fun H locs M => ?_)
      have M : gM E A s.heap [[(ad 15, .inr (4, [.ref (ad 16), .ref (ad 18), .ref (ad 20), .ref (ad 22), .ref (ad 24), .ref (ad 26), .ref (ad 28), .ref (ad 30), .int (nI z.ct)]))], rowW E (ad 16) (ad 17) 120 z.hd, rowW E (ad 18) (ad 19) 120 z.ps, rowW E (ad 20) (ad 21) 120 z.tm, rowW E (ad 22) (ad 23) 120 z.mn, rowW E (ad 24) (ad 25) 120 z.cm, rowW E (ad 26) (ad 27) 120 z.pl, rowW E (ad 28) (ad 29) 120 z.gr, rowW E (ad 30) (ad 31) 120 z.rk] H locs := M
      refine lv_iadd S.1 S.2.1 dX4_playedOfAll_18 ?_
      refine lv_istore_n (lv' := [(1, .int (a + (rg 120 z.pl (nI i)))), (0, .ref (ad 15)), (2, .int (nI i))]) S.1 S.2.1 dX4_playedOfAll_19 rfl hl (by decide) rfl (fun ls hl => ?_)
      refine lv_iinc (v := nI (i + 1)) (lv' := [(2, .int (nI (i + 1))), (1, .int (a + (rg 120 z.pl (nI i)))), (0, .ref (ad 15))]) S.1 S.2.1 dX4_playedOfAll_20 hl (k := 2) rfl (nI_1 _) (by decide) rfl (fun ls hl => ?_)
      refine lv_goto (tgt := 4) S.1 S.2.1 dX4_playedOfAll_23 (by decide) ?_
      exact ih (i + 1) _ (by omega) (by rw [hI, sumr]) _ _ M ls (lv_sub hl [2, 1, 0] rfl)
  refine lv_iconst (v := 0) S.1 S.2.1 dX4_playedOfAll_0 (by decide) ?_
  refine lv_istore_n (lv' := [(1, .int 0), (0, .ref (ad 15))]) S.1 S.2.1 dX4_playedOfAll_1 rfl hl (by decide) rfl (fun ls hl => ?_)
  refine lv_iconst (v := 0) S.1 S.2.1 dX4_playedOfAll_2 (by decide) ?_
  refine lv_istore_n (lv' := [(2, .int 0), (1, .int 0), (0, .ref (ad 15))]) S.1 S.2.1 dX4_playedOfAll_3 rfl hl (by decide) rfl (fun ls hl => ?_)
  exact hL z.ct 0 0 (by omega) rfl _ _ M ls (lv_sub hl [2, 1, 0] rfl)

set_option maxHeartbeats 4000000 in
set_option maxRecDepth 100000 in
theorem c_X4_missingOfAll (l : Launch) (E : xE) (ad : Nat → Nat) (z : SpuS) (hc : z.ct ≤ 120) : mI l yX4_missingOfAll wsX4_missingOfAll (xrm 2 42) E [.ref (ad 15)] (spuGs E ad z) z.missingAll (spuGs E ad z) := by
  intro sz
  refine Met.ofW (cc := cX4_missingOfAll) (maxL := 3) (ret := (some .int)) (by decide +kernel) rfl ?_
  intro vp ve s vm args below meth vc s₁ B hml hv
  obtain ⟨rfl, S, hr, hlk, hnm, A, hA, hE, M⟩ := genter B hml hv
  rw [hA]
  obtain ⟨ls, hfr, hl⟩ := gst (m := vm) (as := [.ref (ad 15)]) (n := 3) (Nat.le_of_ble_eq_true rfl)
  rw [hfr]
  clear hfr hA
  have hl : lv_has ls 3 [(0, .ref (ad 15))] := hl
  have M : gM E A s.heap [[(ad 15, .inr (4, [.ref (ad 16), .ref (ad 18), .ref (ad 20), .ref (ad 22), .ref (ad 24), .ref (ad 26), .ref (ad 28), .ref (ad 30), .int (nI z.ct)]))], rowW E (ad 16) (ad 17) 120 z.hd, rowW E (ad 18) (ad 19) 120 z.ps, rowW E (ad 20) (ad 21) 120 z.tm, rowW E (ad 22) (ad 23) 120 z.mn, rowW E (ad 24) (ad 25) 120 z.cm, rowW E (ad 26) (ad 27) 120 z.pl, rowW E (ad 28) (ad 29) 120 z.gr, rowW E (ad 30) (ad 31) 120 z.rk] s.heap [] := M
  have hwi : ∀ w ∈ u_ws RX4 TX4 9, w ∈ wsX4_missingOfAll := by decide +kernel
  obtain ⟨Q, hQ⟩ : ∃ Q : State → Prop, MQ below (va_Qi (fun x (_ : Unit) => x = z.missingAll) (fun _ => kQ E A (spuGs E ad z)) A) ([.ref (ad 15)] : List Value).toArray s 0 0 A = Q := ⟨_, rfl⟩
  rw [hQ]
  have hL : ∀ (n : Nat), ∀ (i : Nat) (a : Int32), i + n = z.ct → z.missingAll = sumr (fun i => z.missing (nI i)) n i a → ∀ (H : Heap) (locs : List Loc), gM E A s.heap [[(ad 15, .inr (4, [.ref (ad 16), .ref (ad 18), .ref (ad 20), .ref (ad 22), .ref (ad 24), .ref (ad 26), .ref (ad 28), .ref (ad 30), .int (nI z.ct)]))], rowW E (ad 16) (ad 17) 120 z.hd, rowW E (ad 18) (ad 19) 120 z.ps, rowW E (ad 20) (ad 21) 120 z.tm, rowW E (ad 22) (ad 23) 120 z.mn, rowW E (ad 24) (ad 25) 120 z.cm, rowW E (ad 26) (ad 27) 120 z.pl, rowW E (ad 28) (ad 29) 120 z.gr, rowW E (ad 30) (ad 31) 120 z.rk] H locs → ∀ ls : Array Slot, lv_has ls 3 [(0, .ref (ad 15)), (1, .int a), (2, .int (nI i))] → W vp l ve (headSpec wsX4_missingOfAll (xrm 2 42)).room s vm ([.ref (ad 15)] : List Value).toArray below meth vc H locs 0 0 Q (F0 vm 4 ls []) := by
    intro n
    induction n with
    | zero =>
      intro i a hi hI H locs M ls hl
      refine lv_iload_n S.1 S.2.1 dX4_missingOfAll_4 rfl (lv_at hl 2 rfl) ?_
      refine lv_aload_n S.1 S.2.1 dX4_missingOfAll_5 rfl (lv_at hl 0 rfl) ?_
      refine gget S hE M (C := RX4) (T := TX4) (N := 9) (ci := 4) (index := 41) hwi 0 rfl rfl 8 (by decide) (by decide +kernel) rfl dX4_missingOfAll_6 ?_
      refine lv_icmp_ge (tgt := 26) S.1 S.2.1 dX4_missingOfAll_9 (by decide) (fun _ => ?_) (fun c_ => absurd (nI_le (by omega) (by omega)) c_)
      refine lv_iload_n S.1 S.2.1 dX4_missingOfAll_26 rfl (lv_at hl 1 rfl) ?_
      rw [← hQ]
      exact giret S hr hlk M (hI.symm) (rfl) dX4_missingOfAll_27
    | succ n ih =>
      intro i a hi hI H locs M ls hl
      refine lv_iload_n S.1 S.2.1 dX4_missingOfAll_4 rfl (lv_at hl 2 rfl) ?_
      refine lv_aload_n S.1 S.2.1 dX4_missingOfAll_5 rfl (lv_at hl 0 rfl) ?_
      refine gget S hE M (C := RX4) (T := TX4) (N := 9) (ci := 4) (index := 41) hwi 0 rfl rfl 8 (by decide) (by decide +kernel) rfl dX4_missingOfAll_6 ?_
      refine lv_icmp_ge (tgt := 26) S.1 S.2.1 dX4_missingOfAll_9 (by decide) (fun c_ => absurd c_ (nI_ge (by omega) (by omega))) (fun _ => ?_)
      refine lv_iload_n S.1 S.2.1 dX4_missingOfAll_12 rfl (lv_at hl 1 rfl) ?_
      refine lv_aload_n S.1 S.2.1 dX4_missingOfAll_13 rfl (lv_at hl 0 rfl) ?_
      refine lv_iload_n S.1 S.2.1 dX4_missingOfAll_14 rfl (lv_at hl 2 rfl) ?_
      refine gcalli (L := []) (Mid := spuGs E ad z) (Rr := []) (Mid' := spuGs E ad z) hE M rfl (rfl) (rfl) (fun hp => va_runV (As := [.int (nI i)]) (rest := [.int a]) S (c_X4_missingOf l E ad z (nI i)  _) (cwV 1 S.2.2.2.2 gX4_missingOfAll_X4_missingOf rfl rfl rfl kd_X4_missingOf ⟨Nat.le_of_ble_eq_true rfl, Nat.le_of_ble_eq_true rfl⟩) (hp.V hE (show vwCl[4]? = some (RX4, TX4, 9) from rfl) rfl) rfl rfl hl.1 rfl (lv_room (Nat.le_of_ble_eq_true rfl)) dX4_missingOfAll_15 ⟨Nat.zero_le _, Nat.zero_le _⟩) (fun H locs M => ?_)
      have M : gM E A s.heap [[(ad 15, .inr (4, [.ref (ad 16), .ref (ad 18), .ref (ad 20), .ref (ad 22), .ref (ad 24), .ref (ad 26), .ref (ad 28), .ref (ad 30), .int (nI z.ct)]))], rowW E (ad 16) (ad 17) 120 z.hd, rowW E (ad 18) (ad 19) 120 z.ps, rowW E (ad 20) (ad 21) 120 z.tm, rowW E (ad 22) (ad 23) 120 z.mn, rowW E (ad 24) (ad 25) 120 z.cm, rowW E (ad 26) (ad 27) 120 z.pl, rowW E (ad 28) (ad 29) 120 z.gr, rowW E (ad 30) (ad 31) 120 z.rk] H locs := M
      refine lv_iadd S.1 S.2.1 dX4_missingOfAll_18 ?_
      refine lv_istore_n (lv' := [(1, .int (a + (z.missing (nI i)))), (0, .ref (ad 15)), (2, .int (nI i))]) S.1 S.2.1 dX4_missingOfAll_19 rfl hl (by decide) rfl (fun ls hl => ?_)
      refine lv_iinc (v := nI (i + 1)) (lv' := [(2, .int (nI (i + 1))), (1, .int (a + (z.missing (nI i)))), (0, .ref (ad 15))]) S.1 S.2.1 dX4_missingOfAll_20 hl (k := 2) rfl (nI_1 _) (by decide) rfl (fun ls hl => ?_)
      refine lv_goto (tgt := 4) S.1 S.2.1 dX4_missingOfAll_23 (by decide) ?_
      exact ih (i + 1) _ (by omega) (by rw [hI, sumr]) _ _ M ls (lv_sub hl [2, 1, 0] rfl)
  refine lv_iconst (v := 0) S.1 S.2.1 dX4_missingOfAll_0 (by decide) ?_
  refine lv_istore_n (lv' := [(1, .int 0), (0, .ref (ad 15))]) S.1 S.2.1 dX4_missingOfAll_1 rfl hl (by decide) rfl (fun ls hl => ?_)
  refine lv_iconst (v := 0) S.1 S.2.1 dX4_missingOfAll_2 (by decide) ?_
  refine lv_istore_n (lv' := [(2, .int 0), (1, .int 0), (0, .ref (ad 15))]) S.1 S.2.1 dX4_missingOfAll_3 rfl hl (by decide) rfl (fun ls hl => ?_)
  exact hL z.ct 0 0 (by omega) rfl _ _ M ls (lv_sub hl [2, 1, 0] rfl)

set_option maxHeartbeats 4000000 in
set_option maxRecDepth 100000 in
theorem c_X4_withHead (l : Launch) (E : xE) (ad : Nat → Nat) (z : SpuS) (h : Int32) (hc : z.ct ≤ 120) : mI l yX4_withHead wsX4_withHead (xrm 1 21) E [.ref (ad 15), .int h] (spuGs E ad z) (z.withHead h) (spuGs E ad z) := by
  intro sz
  refine Met.ofW (cc := cX4_withHead) (maxL := 3) (ret := (some .int)) (by decide +kernel) rfl ?_
  intro vp ve s vm args below meth vc s₁ B hml hv
  obtain ⟨rfl, S, hr, hlk, hnm, A, hA, hE, M⟩ := genter B hml hv
  rw [hA]
  obtain ⟨ls, hfr, hl⟩ := gst (m := vm) (as := [.ref (ad 15), .int h]) (n := 3) (Nat.le_of_ble_eq_true rfl)
  rw [hfr]
  clear hfr hA
  have hl : lv_has ls 3 [(0, .ref (ad 15)), (1, .int h)] := hl
  have M : gM E A s.heap [[(ad 15, .inr (4, [.ref (ad 16), .ref (ad 18), .ref (ad 20), .ref (ad 22), .ref (ad 24), .ref (ad 26), .ref (ad 28), .ref (ad 30), .int (nI z.ct)]))], rowW E (ad 16) (ad 17) 120 z.hd, rowW E (ad 18) (ad 19) 120 z.ps, rowW E (ad 20) (ad 21) 120 z.tm, rowW E (ad 22) (ad 23) 120 z.mn, rowW E (ad 24) (ad 25) 120 z.cm, rowW E (ad 26) (ad 27) 120 z.pl, rowW E (ad 28) (ad 29) 120 z.gr, rowW E (ad 30) (ad 31) 120 z.rk] s.heap [] := M
  have hwi : ∀ w ∈ u_ws RX4 TX4 9, w ∈ wsX4_withHead := by decide +kernel
  obtain ⟨Q, hQ⟩ : ∃ Q : State → Prop, MQ below (va_Qi (fun x (_ : Unit) => x = (z.withHead h)) (fun _ => kQ E A (spuGs E ad z)) A) ([.ref (ad 15), .int h] : List Value).toArray s 0 0 A = Q := ⟨_, rfl⟩
  rw [hQ]
  have hL : ∀ (n : Nat), ∀ (i : Nat), i + n = z.ct → z.withHead h = fnd (fun i => rg 120 z.hd (nI i)) h (-1) n i → ∀ (H : Heap) (locs : List Loc), gM E A s.heap [[(ad 15, .inr (4, [.ref (ad 16), .ref (ad 18), .ref (ad 20), .ref (ad 22), .ref (ad 24), .ref (ad 26), .ref (ad 28), .ref (ad 30), .int (nI z.ct)]))], rowW E (ad 16) (ad 17) 120 z.hd, rowW E (ad 18) (ad 19) 120 z.ps, rowW E (ad 20) (ad 21) 120 z.tm, rowW E (ad 22) (ad 23) 120 z.mn, rowW E (ad 24) (ad 25) 120 z.cm, rowW E (ad 26) (ad 27) 120 z.pl, rowW E (ad 28) (ad 29) 120 z.gr, rowW E (ad 30) (ad 31) 120 z.rk] H locs → ∀ ls : Array Slot, lv_has ls 3 [(0, .ref (ad 15)), (1, .int h), (2, .int (nI i))] → W vp l ve (headSpec wsX4_withHead (xrm 1 21)).room s vm ([.ref (ad 15), .int h] : List Value).toArray below meth vc H locs 0 0 Q (F0 vm 2 ls []) := by
    intro n
    induction n with
    | zero =>
      intro i hi hI H locs M ls hl
      refine lv_iload_n S.1 S.2.1 dX4_withHead_2 rfl (lv_at hl 2 rfl) ?_
      refine lv_aload_n S.1 S.2.1 dX4_withHead_3 rfl (lv_at hl 0 rfl) ?_
      refine gget S hE M (C := RX4) (T := TX4) (N := 9) (ci := 4) (index := 41) hwi 0 rfl rfl 8 (by decide) (by decide +kernel) rfl dX4_withHead_4 ?_
      refine lv_icmp_ge (tgt := 30) S.1 S.2.1 dX4_withHead_7 (by decide) (fun _ => ?_) (fun c_ => absurd (nI_le (by omega) (by omega)) c_)
      refine lv_iconst (v := (-1)) S.1 S.2.1 dX4_withHead_30 (by decide) ?_
      rw [← hQ]
      exact giret S hr hlk M (by rw [hI, fnd]) (rfl) dX4_withHead_31
    | succ n ih =>
      intro i hi hI H locs M ls hl
      refine lv_iload_n S.1 S.2.1 dX4_withHead_2 rfl (lv_at hl 2 rfl) ?_
      refine lv_aload_n S.1 S.2.1 dX4_withHead_3 rfl (lv_at hl 0 rfl) ?_
      refine gget S hE M (C := RX4) (T := TX4) (N := 9) (ci := 4) (index := 41) hwi 0 rfl rfl 8 (by decide) (by decide +kernel) rfl dX4_withHead_4 ?_
      refine lv_icmp_ge (tgt := 30) S.1 S.2.1 dX4_withHead_7 (by decide) (fun c_ => absurd c_ (nI_ge (by omega) (by omega))) (fun _ => ?_)
      refine lv_aload_n S.1 S.2.1 dX4_withHead_10 rfl (lv_at hl 0 rfl) ?_
      refine gget S hE M (C := RX4) (T := TX4) (N := 9) (ci := 4) (index := 14) hwi 0 rfl rfl 0 (by decide) (by decide +kernel) rfl dX4_withHead_11 ?_
      refine lv_iload_n S.1 S.2.1 dX4_withHead_14 rfl (lv_at hl 2 rfl) ?_
      refine gcalli (L := [[(ad 15, .inr (4, [.ref (ad 16), .ref (ad 18), .ref (ad 20), .ref (ad 22), .ref (ad 24), .ref (ad 26), .ref (ad 28), .ref (ad 30), .int (nI z.ct)]))]]) (Mid := [rowW E (ad 16) (ad 17) 120 z.hd]) (Rr := [rowW E (ad 18) (ad 19) 120 z.ps, rowW E (ad 20) (ad 21) 120 z.tm, rowW E (ad 22) (ad 23) 120 z.mn, rowW E (ad 24) (ad 25) 120 z.cm, rowW E (ad 26) (ad 27) 120 z.pl, rowW E (ad 28) (ad 29) 120 z.gr, rowW E (ad 30) (ad 31) 120 z.rk]) (Mid' := [rowW E (ad 16) (ad 17) 120 z.hd]) hE M rfl (List.append_nil _) (List.append_nil _) (fun hp => va_runV (As := [.int (nI i)]) (rest := []) S (c_X2_get l E (ad 16) (ad 17) 120 z.hd (nI i) (by decide) _) (cwV 1 S.2.2.2.2 gX4_withHead_X2_get rfl rfl rfl kd_X2_get ⟨Nat.le_of_ble_eq_true rfl, Nat.le_of_ble_eq_true rfl⟩) (hp.V hE (show vwCl[2]? = some (RX2, TX2, 1) from rfl) rfl) rfl rfl hl.1 rfl (lv_room (Nat.le_of_ble_eq_true rfl)) dX4_withHead_15 ⟨Nat.zero_le _, Nat.zero_le _⟩) (fun H locs M => ?_)
      have M : gM E A s.heap [[(ad 15, .inr (4, [.ref (ad 16), .ref (ad 18), .ref (ad 20), .ref (ad 22), .ref (ad 24), .ref (ad 26), .ref (ad 28), .ref (ad 30), .int (nI z.ct)]))], rowW E (ad 16) (ad 17) 120 z.hd, rowW E (ad 18) (ad 19) 120 z.ps, rowW E (ad 20) (ad 21) 120 z.tm, rowW E (ad 22) (ad 23) 120 z.mn, rowW E (ad 24) (ad 25) 120 z.cm, rowW E (ad 26) (ad 27) 120 z.pl, rowW E (ad 28) (ad 29) 120 z.gr, rowW E (ad 30) (ad 31) 120 z.rk] H locs := M
      refine lv_iload_n S.1 S.2.1 dX4_withHead_18 rfl (lv_at hl 1 rfl) ?_
      refine lv_icmp_ne (tgt := 24) S.1 S.2.1 dX4_withHead_19 (by decide) (fun c19 => ?_) (fun c19 => ?_)
      ·
        refine lv_iinc (v := nI (i + 1)) (lv' := [(2, .int (nI (i + 1))), (0, .ref (ad 15)), (1, .int h)]) S.1 S.2.1 dX4_withHead_24 hl (k := 2) rfl (nI_1 _) (by decide) rfl (fun ls hl => ?_)
        refine lv_goto (tgt := 2) S.1 S.2.1 dX4_withHead_27 (by decide) ?_
        exact ih (i + 1) (by omega) (by rw [hI, fnd, if_neg c19]) _ _ M ls (lv_sub hl [1, 2, 0] rfl)
      ·
        refine lv_iload_n S.1 S.2.1 dX4_withHead_22 rfl (lv_at hl 2 rfl) ?_
        rw [← hQ]
        exact giret S hr hlk M (by rw [hI, fnd, if_pos c19]) (rfl) dX4_withHead_23
  refine lv_iconst (v := 0) S.1 S.2.1 dX4_withHead_0 (by decide) ?_
  refine lv_istore_n (lv' := [(2, .int 0), (0, .ref (ad 15)), (1, .int h)]) S.1 S.2.1 dX4_withHead_1 rfl hl (by decide) rfl (fun ls hl => ?_)
  exact hL z.ct 0 (by omega) rfl _ _ M ls (lv_sub hl [1, 2, 0] rfl)

set_option maxHeartbeats 4000000 in
set_option maxRecDepth 100000 in
theorem c_X4_isInTheWay (l : Launch) (E : xE) (ad : Nat → Nat) (z : SpuS) (k : Int32) (n : Int32) (h : Int32) (p : Int32) : mI l yX4_isInTheWay wsX4_isInTheWay (xrm 1 21) E [.ref (ad 15), .int k, .int n, .int h, .int p] (spuGs E ad z) (z.way k n h p) (spuGs E ad z) := by
  intro sz
  refine Met.ofW (cc := cX4_isInTheWay) (maxL := 6) (ret := (some .boolean)) (by decide +kernel) rfl ?_
  intro vp ve s vm args below meth vc s₁ B hml hv
  obtain ⟨rfl, S, hr, hlk, hnm, A, hA, hE, M⟩ := genter B hml hv
  rw [hA]
  obtain ⟨ls, hfr, hl⟩ := gst (m := vm) (as := [.ref (ad 15), .int k, .int n, .int h, .int p]) (n := 6) (Nat.le_of_ble_eq_true rfl)
  rw [hfr]
  clear hfr hA
  have hl : lv_has ls 6 [(0, .ref (ad 15)), (1, .int k), (2, .int n), (3, .int h), (4, .int p)] := hl
  have M : gM E A s.heap [[(ad 15, .inr (4, [.ref (ad 16), .ref (ad 18), .ref (ad 20), .ref (ad 22), .ref (ad 24), .ref (ad 26), .ref (ad 28), .ref (ad 30), .int (nI z.ct)]))], rowW E (ad 16) (ad 17) 120 z.hd, rowW E (ad 18) (ad 19) 120 z.ps, rowW E (ad 20) (ad 21) 120 z.tm, rowW E (ad 22) (ad 23) 120 z.mn, rowW E (ad 24) (ad 25) 120 z.cm, rowW E (ad 26) (ad 27) 120 z.pl, rowW E (ad 28) (ad 29) 120 z.gr, rowW E (ad 30) (ad 31) 120 z.rk] s.heap [] := M
  have hwi : ∀ w ∈ u_ws RX4 TX4 9, w ∈ wsX4_isInTheWay := by decide +kernel
  refine lv_aload_n S.1 S.2.1 dX4_isInTheWay_0 rfl (lv_at hl 0 rfl) ?_
  refine gget S hE M (C := RX4) (T := TX4) (N := 9) (ci := 4) (index := 14) hwi 0 rfl rfl 0 (by decide) (by decide +kernel) rfl dX4_isInTheWay_1 ?_
  refine lv_iload_n S.1 S.2.1 dX4_isInTheWay_4 rfl (lv_at hl 1 rfl) ?_
  refine gcalli (L := [[(ad 15, .inr (4, [.ref (ad 16), .ref (ad 18), .ref (ad 20), .ref (ad 22), .ref (ad 24), .ref (ad 26), .ref (ad 28), .ref (ad 30), .int (nI z.ct)]))]]) (Mid := [rowW E (ad 16) (ad 17) 120 z.hd]) (Rr := [rowW E (ad 18) (ad 19) 120 z.ps, rowW E (ad 20) (ad 21) 120 z.tm, rowW E (ad 22) (ad 23) 120 z.mn, rowW E (ad 24) (ad 25) 120 z.cm, rowW E (ad 26) (ad 27) 120 z.pl, rowW E (ad 28) (ad 29) 120 z.gr, rowW E (ad 30) (ad 31) 120 z.rk]) (Mid' := [rowW E (ad 16) (ad 17) 120 z.hd]) hE M rfl (List.append_nil _) (List.append_nil _) (fun hp => va_runV (As := [.int k]) (rest := []) S (c_X2_get l E (ad 16) (ad 17) 120 z.hd k (by decide) _) (cwV 1 S.2.2.2.2 gX4_isInTheWay_X2_get rfl rfl rfl kd_X2_get ⟨Nat.le_of_ble_eq_true rfl, Nat.le_of_ble_eq_true rfl⟩) (hp.V hE (show vwCl[2]? = some (RX2, TX2, 1) from rfl) rfl) rfl rfl hl.1 rfl (lv_room (Nat.le_of_ble_eq_true rfl)) dX4_isInTheWay_5 ⟨Nat.zero_le _, Nat.zero_le _⟩) (fun H locs M => ?_)
  have M : gM E A s.heap [[(ad 15, .inr (4, [.ref (ad 16), .ref (ad 18), .ref (ad 20), .ref (ad 22), .ref (ad 24), .ref (ad 26), .ref (ad 28), .ref (ad 30), .int (nI z.ct)]))], rowW E (ad 16) (ad 17) 120 z.hd, rowW E (ad 18) (ad 19) 120 z.ps, rowW E (ad 20) (ad 21) 120 z.tm, rowW E (ad 22) (ad 23) 120 z.mn, rowW E (ad 24) (ad 25) 120 z.cm, rowW E (ad 26) (ad 27) 120 z.pl, rowW E (ad 28) (ad 29) 120 z.gr, rowW E (ad 30) (ad 31) 120 z.rk] H locs := M
  refine lv_istore (lv' := [(5, .int (rg 120 z.hd k)), (0, .ref (ad 15)), (1, .int k), (2, .int n), (3, .int h), (4, .int p)]) S.1 S.2.1 dX4_isInTheWay_8 hl (by decide) rfl (fun ls hl => ?_)
  refine lv_iload S.1 S.2.1 dX4_isInTheWay_10 (lv_at hl 0 rfl) ?_
  refine lv_iload_n S.1 S.2.1 dX4_isInTheWay_12 rfl (lv_at hl 4 rfl) ?_
  refine lv_icmp_ge (tgt := 37) S.1 S.2.1 dX4_isInTheWay_13 (by decide) (fun c13 => ?_) (fun c13 => ?_)
  ·
    refine lv_iload S.1 S.2.1 dX4_isInTheWay_37 (lv_at hl 0 rfl) ?_
    refine lv_iload_n S.1 S.2.1 dX4_isInTheWay_39 rfl (lv_at hl 4 rfl) ?_
    refine lv_icmp_le (tgt := 62) S.1 S.2.1 dX4_isInTheWay_40 (by decide) (fun c40 => ?_) (fun c40 => ?_)
    ·
      refine lv_iconst (v := 0) S.1 S.2.1 dX4_isInTheWay_62 (by decide) ?_
      exact gzret S hr hlk M (rfl) (by unfold SpuS.way; rw [if_pos c13, if_pos c40]) (rfl) dX4_isInTheWay_63
    ·
      refine lv_iload_n S.1 S.2.1 dX4_isInTheWay_43 rfl (lv_at hl 3 rfl) ?_
      refine lv_iload S.1 S.2.1 dX4_isInTheWay_44 (lv_at hl 0 rfl) ?_
      refine lv_aload_n S.1 S.2.1 dX4_isInTheWay_46 rfl (lv_at hl 1 rfl) ?_
      refine gget S hE M (C := RX4) (T := TX4) (N := 9) (ci := 4) (index := 20) hwi 0 rfl rfl 1 (by decide) (by decide +kernel) rfl dX4_isInTheWay_47 ?_
      refine lv_iload_n S.1 S.2.1 dX4_isInTheWay_50 rfl (lv_at hl 2 rfl) ?_
      refine gcalli (L := [[(ad 15, .inr (4, [.ref (ad 16), .ref (ad 18), .ref (ad 20), .ref (ad 22), .ref (ad 24), .ref (ad 26), .ref (ad 28), .ref (ad 30), .int (nI z.ct)]))], rowW E (ad 16) (ad 17) 120 z.hd]) (Mid := [rowW E (ad 18) (ad 19) 120 z.ps]) (Rr := [rowW E (ad 20) (ad 21) 120 z.tm, rowW E (ad 22) (ad 23) 120 z.mn, rowW E (ad 24) (ad 25) 120 z.cm, rowW E (ad 26) (ad 27) 120 z.pl, rowW E (ad 28) (ad 29) 120 z.gr, rowW E (ad 30) (ad 31) 120 z.rk]) (Mid' := [rowW E (ad 18) (ad 19) 120 z.ps]) hE M rfl (List.append_nil _) (List.append_nil _) (fun hp => va_runV (As := [.int k]) (rest := [.int (rg 120 z.hd k), .int n]) S (c_X2_get l E (ad 18) (ad 19) 120 z.ps k (by decide) _) (cwV 1 S.2.2.2.2 gX4_isInTheWay_X2_get rfl rfl rfl kd_X2_get ⟨Nat.le_of_ble_eq_true rfl, Nat.le_of_ble_eq_true rfl⟩) (hp.V hE (show vwCl[2]? = some (RX2, TX2, 1) from rfl) rfl) rfl rfl hl.1 rfl (lv_room (Nat.le_of_ble_eq_true rfl)) dX4_isInTheWay_51 ⟨Nat.zero_le _, Nat.zero_le _⟩) (fun H locs M => ?_)
      have M : gM E A s.heap [[(ad 15, .inr (4, [.ref (ad 16), .ref (ad 18), .ref (ad 20), .ref (ad 22), .ref (ad 24), .ref (ad 26), .ref (ad 28), .ref (ad 30), .int (nI z.ct)]))], rowW E (ad 16) (ad 17) 120 z.hd, rowW E (ad 18) (ad 19) 120 z.ps, rowW E (ad 20) (ad 21) 120 z.tm, rowW E (ad 22) (ad 23) 120 z.mn, rowW E (ad 24) (ad 25) 120 z.cm, rowW E (ad 26) (ad 27) 120 z.pl, rowW E (ad 28) (ad 29) 120 z.gr, rowW E (ad 30) (ad 31) 120 z.rk] H locs := M
      refine lv_isub S.1 S.2.1 dX4_isInTheWay_54 ?_
      refine lv_icmp_lt (tgt := 62) S.1 S.2.1 dX4_isInTheWay_55 (by decide) (fun c55 => ?_) (fun c55 => ?_)
      ·
        refine lv_iconst (v := 0) S.1 S.2.1 dX4_isInTheWay_62 (by decide) ?_
        exact gzret S hr hlk M (rfl) (by unfold SpuS.way; rw [if_pos c13, if_neg c40, if_pos c55]) (rfl) dX4_isInTheWay_63
      ·
        refine lv_iconst (v := 1) S.1 S.2.1 dX4_isInTheWay_58 (by decide) ?_
        refine lv_goto (tgt := 63) S.1 S.2.1 dX4_isInTheWay_59 (by decide) ?_
        exact gzret S hr hlk M (rfl) (by unfold SpuS.way; rw [if_pos c13, if_neg c40, if_neg c55]) (rfl) dX4_isInTheWay_63
  ·
    refine lv_aload_n S.1 S.2.1 dX4_isInTheWay_16 rfl (lv_at hl 1 rfl) ?_
    refine gget S hE M (C := RX4) (T := TX4) (N := 9) (ci := 4) (index := 35) hwi 0 rfl rfl 6 (by decide) (by decide +kernel) rfl dX4_isInTheWay_17 ?_
    refine lv_iload_n S.1 S.2.1 dX4_isInTheWay_20 rfl (lv_at hl 2 rfl) ?_
    refine gcalli (L := [[(ad 15, .inr (4, [.ref (ad 16), .ref (ad 18), .ref (ad 20), .ref (ad 22), .ref (ad 24), .ref (ad 26), .ref (ad 28), .ref (ad 30), .int (nI z.ct)]))], rowW E (ad 16) (ad 17) 120 z.hd, rowW E (ad 18) (ad 19) 120 z.ps, rowW E (ad 20) (ad 21) 120 z.tm, rowW E (ad 22) (ad 23) 120 z.mn, rowW E (ad 24) (ad 25) 120 z.cm, rowW E (ad 26) (ad 27) 120 z.pl]) (Mid := [rowW E (ad 28) (ad 29) 120 z.gr]) (Rr := [rowW E (ad 30) (ad 31) 120 z.rk]) (Mid' := [rowW E (ad 28) (ad 29) 120 z.gr]) hE M rfl (List.append_nil _) (List.append_nil _) (fun hp => va_runV (As := [.int k]) (rest := []) S (c_X2_get l E (ad 28) (ad 29) 120 z.gr k (by decide) _) (cwV 1 S.2.2.2.2 gX4_isInTheWay_X2_get rfl rfl rfl kd_X2_get ⟨Nat.le_of_ble_eq_true rfl, Nat.le_of_ble_eq_true rfl⟩) (hp.V hE (show vwCl[2]? = some (RX2, TX2, 1) from rfl) rfl) rfl rfl hl.1 rfl (lv_room (Nat.le_of_ble_eq_true rfl)) dX4_isInTheWay_21 ⟨Nat.zero_le _, Nat.zero_le _⟩) (fun H locs M => ?_)
    have M : gM E A s.heap [[(ad 15, .inr (4, [.ref (ad 16), .ref (ad 18), .ref (ad 20), .ref (ad 22), .ref (ad 24), .ref (ad 26), .ref (ad 28), .ref (ad 30), .int (nI z.ct)]))], rowW E (ad 16) (ad 17) 120 z.hd, rowW E (ad 18) (ad 19) 120 z.ps, rowW E (ad 20) (ad 21) 120 z.tm, rowW E (ad 22) (ad 23) 120 z.mn, rowW E (ad 24) (ad 25) 120 z.cm, rowW E (ad 26) (ad 27) 120 z.pl, rowW E (ad 28) (ad 29) 120 z.gr, rowW E (ad 30) (ad 31) 120 z.rk] H locs := M
    refine lv_iload_n S.1 S.2.1 dX4_isInTheWay_24 rfl (lv_at hl 4 rfl) ?_
    refine lv_iload S.1 S.2.1 dX4_isInTheWay_25 (lv_at hl 5 rfl) ?_
    refine lv_isub S.1 S.2.1 dX4_isInTheWay_27 ?_
    refine lv_icmp_lt (tgt := 35) S.1 S.2.1 dX4_isInTheWay_28 (by decide) (fun c28 => ?_) (fun c28 => ?_)
    ·
      refine lv_iconst (v := 0) S.1 S.2.1 dX4_isInTheWay_35 (by decide) ?_
      exact gzret S hr hlk M (rfl) (by unfold SpuS.way; rw [if_neg c13, if_pos c28]) (rfl) dX4_isInTheWay_36
    ·
      refine lv_iconst (v := 1) S.1 S.2.1 dX4_isInTheWay_31 (by decide) ?_
      refine lv_goto (tgt := 36) S.1 S.2.1 dX4_isInTheWay_32 (by decide) ?_
      exact gzret S hr hlk M (rfl) (by unfold SpuS.way; rw [if_neg c13, if_neg c28]) (rfl) dX4_isInTheWay_36

set_option maxHeartbeats 4000000 in
set_option maxRecDepth 100000 in
theorem c_X4_bar (l : Launch) (E : xE) (ad : Nat → Nat) (z : SpuS) (n : Int32) (h : Int32) (p : Int32) (hc : z.ct ≤ 120) : mI l yX4_bar wsX4_bar (xrm 2 46) E [.ref (ad 15), .int n, .int h, .int p] (spuGs E ad z) (z.bar n h p) (spuGs E ad z) := by
  intro sz
  refine Met.ofW (cc := cX4_bar) (maxL := 6) (ret := (some .boolean)) (by decide +kernel) rfl ?_
  intro vp ve s vm args below meth vc s₁ B hml hv
  obtain ⟨rfl, S, hr, hlk, hnm, A, hA, hE, M⟩ := genter B hml hv
  rw [hA]
  obtain ⟨ls, hfr, hl⟩ := gst (m := vm) (as := [.ref (ad 15), .int n, .int h, .int p]) (n := 6) (Nat.le_of_ble_eq_true rfl)
  rw [hfr]
  clear hfr hA
  have hl : lv_has ls 6 [(0, .ref (ad 15)), (1, .int n), (2, .int h), (3, .int p)] := hl
  have M : gM E A s.heap [[(ad 15, .inr (4, [.ref (ad 16), .ref (ad 18), .ref (ad 20), .ref (ad 22), .ref (ad 24), .ref (ad 26), .ref (ad 28), .ref (ad 30), .int (nI z.ct)]))], rowW E (ad 16) (ad 17) 120 z.hd, rowW E (ad 18) (ad 19) 120 z.ps, rowW E (ad 20) (ad 21) 120 z.tm, rowW E (ad 22) (ad 23) 120 z.mn, rowW E (ad 24) (ad 25) 120 z.cm, rowW E (ad 26) (ad 27) 120 z.pl, rowW E (ad 28) (ad 29) 120 z.gr, rowW E (ad 30) (ad 31) 120 z.rk] s.heap [] := M
  have hwi : ∀ w ∈ u_ws RX4 TX4 9, w ∈ wsX4_bar := by decide +kernel
  obtain ⟨Q, hQ⟩ : ∃ Q : State → Prop, MQ below (va_Qi (fun x (_ : Unit) => x = (z.bar n h p)) (fun _ => kQ E A (spuGs E ad z)) A) ([.ref (ad 15), .int n, .int h, .int p] : List Value).toArray s 0 0 A = Q := ⟨_, rfl⟩
  rw [hQ]
  have hL : ∀ (m : Nat), ∀ (i : Nat), i + m = z.ct → z.bar n h p = barl z n h p m i → ∀ (H : Heap) (locs : List Loc), gM E A s.heap [[(ad 15, .inr (4, [.ref (ad 16), .ref (ad 18), .ref (ad 20), .ref (ad 22), .ref (ad 24), .ref (ad 26), .ref (ad 28), .ref (ad 30), .int (nI z.ct)]))], rowW E (ad 16) (ad 17) 120 z.hd, rowW E (ad 18) (ad 19) 120 z.ps, rowW E (ad 20) (ad 21) 120 z.tm, rowW E (ad 22) (ad 23) 120 z.mn, rowW E (ad 24) (ad 25) 120 z.cm, rowW E (ad 26) (ad 27) 120 z.pl, rowW E (ad 28) (ad 29) 120 z.gr, rowW E (ad 30) (ad 31) 120 z.rk] H locs → ∀ ls : Array Slot, lv_has ls 6 [(0, .ref (ad 15)), (1, .int n), (2, .int h), (3, .int p), (4, .int (nI i))] → W vp l ve (headSpec wsX4_bar (xrm 2 46)).room s vm ([.ref (ad 15), .int n, .int h, .int p] : List Value).toArray below meth vc H locs 0 0 Q (F0 vm 3 ls []) := by
    intro m
    induction m with
    | zero =>
      intro i hi hI H locs M ls hl
      refine lv_iload S.1 S.2.1 dX4_bar_3 (lv_at hl 4 rfl) ?_
      refine lv_aload_n S.1 S.2.1 dX4_bar_5 rfl (lv_at hl 0 rfl) ?_
      refine gget S hE M (C := RX4) (T := TX4) (N := 9) (ci := 4) (index := 41) hwi 0 rfl rfl 8 (by decide) (by decide +kernel) rfl dX4_bar_6 ?_
      refine lv_icmp_ge (tgt := 70) S.1 S.2.1 dX4_bar_9 (by decide) (fun _ => ?_) (fun c_ => absurd (nI_le (by omega) (by omega)) c_)
      refine lv_iconst (v := 0) S.1 S.2.1 dX4_bar_70 (by decide) ?_
      rw [← hQ]
      exact gzret S hr hlk M (rfl) (by rw [hI, barl]) (rfl) dX4_bar_71
    | succ m ih =>
      intro i hi hI H locs M ls hl
      refine lv_iload S.1 S.2.1 dX4_bar_3 (lv_at hl 4 rfl) ?_
      refine lv_aload_n S.1 S.2.1 dX4_bar_5 rfl (lv_at hl 0 rfl) ?_
      refine gget S hE M (C := RX4) (T := TX4) (N := 9) (ci := 4) (index := 41) hwi 0 rfl rfl 8 (by decide) (by decide +kernel) rfl dX4_bar_6 ?_
      refine lv_icmp_ge (tgt := 70) S.1 S.2.1 dX4_bar_9 (by decide) (fun c_ => absurd c_ (nI_ge (by omega) (by omega))) (fun _ => ?_)
      refine lv_aload_n S.1 S.2.1 dX4_bar_12 rfl (lv_at hl 0 rfl) ?_
      refine gget S hE M (C := RX4) (T := TX4) (N := 9) (ci := 4) (index := 14) hwi 0 rfl rfl 0 (by decide) (by decide +kernel) rfl dX4_bar_13 ?_
      refine lv_iload S.1 S.2.1 dX4_bar_16 (lv_at hl 4 rfl) ?_
      refine gcalli (L := [[(ad 15, .inr (4, [.ref (ad 16), .ref (ad 18), .ref (ad 20), .ref (ad 22), .ref (ad 24), .ref (ad 26), .ref (ad 28), .ref (ad 30), .int (nI z.ct)]))]]) (Mid := [rowW E (ad 16) (ad 17) 120 z.hd]) (Rr := [rowW E (ad 18) (ad 19) 120 z.ps, rowW E (ad 20) (ad 21) 120 z.tm, rowW E (ad 22) (ad 23) 120 z.mn, rowW E (ad 24) (ad 25) 120 z.cm, rowW E (ad 26) (ad 27) 120 z.pl, rowW E (ad 28) (ad 29) 120 z.gr, rowW E (ad 30) (ad 31) 120 z.rk]) (Mid' := [rowW E (ad 16) (ad 17) 120 z.hd]) hE M rfl (List.append_nil _) (List.append_nil _) (fun hp => va_runV (As := [.int (nI i)]) (rest := []) S (c_X2_get l E (ad 16) (ad 17) 120 z.hd (nI i) (by decide) _) (cwV 1 S.2.2.2.2 gX4_bar_X2_get rfl rfl rfl kd_X2_get ⟨Nat.le_of_ble_eq_true rfl, Nat.le_of_ble_eq_true rfl⟩) (hp.V hE (show vwCl[2]? = some (RX2, TX2, 1) from rfl) rfl) rfl rfl hl.1 rfl (lv_room (Nat.le_of_ble_eq_true rfl)) dX4_bar_18 ⟨Nat.zero_le _, Nat.zero_le _⟩) (fun H locs M => ?_)
      have M : gM E A s.heap [[(ad 15, .inr (4, [.ref (ad 16), .ref (ad 18), .ref (ad 20), .ref (ad 22), .ref (ad 24), .ref (ad 26), .ref (ad 28), .ref (ad 30), .int (nI z.ct)]))], rowW E (ad 16) (ad 17) 120 z.hd, rowW E (ad 18) (ad 19) 120 z.ps, rowW E (ad 20) (ad 21) 120 z.tm, rowW E (ad 22) (ad 23) 120 z.mn, rowW E (ad 24) (ad 25) 120 z.cm, rowW E (ad 26) (ad 27) 120 z.pl, rowW E (ad 28) (ad 29) 120 z.gr, rowW E (ad 30) (ad 31) 120 z.rk] H locs := M
      refine lv_iload_n S.1 S.2.1 dX4_bar_21 rfl (lv_at hl 2 rfl) ?_
      refine lv_icmp_ne (tgt := 42) S.1 S.2.1 dX4_bar_22 (by decide) (fun c22 => ?_) (fun c22 => ?_)
      ·
        refine lv_iconst (v := 0) S.1 S.2.1 dX4_bar_42 (by decide) ?_
        refine lv_istore (lv' := [(5, .int 0), (0, .ref (ad 15)), (1, .int n), (2, .int h), (3, .int p), (4, .int (nI i))]) S.1 S.2.1 dX4_bar_43 hl (by decide) rfl (fun ls hl => ?_)
        refine lv_iload S.1 S.2.1 dX4_bar_45 (lv_at hl 0 rfl) ?_
        refine lv_if_ne (tgt := 62) S.1 S.2.1 dX4_bar_47 (by decide) (fun c_ => absurd (by decide) c_) (fun _ => ?_)
        refine lv_aload_n S.1 S.2.1 dX4_bar_50 rfl (lv_at hl 1 rfl) ?_
        refine lv_iload S.1 S.2.1 dX4_bar_51 (lv_at hl 5 rfl) ?_
        refine lv_iload_n S.1 S.2.1 dX4_bar_53 rfl (lv_at hl 2 rfl) ?_
        refine lv_iload_n S.1 S.2.1 dX4_bar_54 rfl (lv_at hl 3 rfl) ?_
        refine lv_iload_n S.1 S.2.1 dX4_bar_55 rfl (lv_at hl 4 rfl) ?_
        refine gcalli (L := []) (Mid := spuGs E ad z) (Rr := []) (Mid' := spuGs E ad z) hE M rfl (rfl) (rfl) (fun hp => va_runV (As := [.int (nI i), .int n, .int h, .int p]) (rest := []) S (c_X4_isInTheWay l E ad z (nI i) n h p  _) (cwV 4 S.2.2.2.2 gX4_bar_X4_isInTheWay rfl rfl rfl kd_X4_isInTheWay ⟨Nat.le_of_ble_eq_true rfl, Nat.le_of_ble_eq_true rfl⟩) (hp.V hE (show vwCl[4]? = some (RX4, TX4, 9) from rfl) rfl) rfl rfl hl.1 rfl (lv_room (Nat.le_of_ble_eq_true rfl)) dX4_bar_56 ⟨Nat.zero_le _, Nat.zero_le _⟩) (fun H locs M => ?_)
        have M : gM E A s.heap [[(ad 15, .inr (4, [.ref (ad 16), .ref (ad 18), .ref (ad 20), .ref (ad 22), .ref (ad 24), .ref (ad 26), .ref (ad 28), .ref (ad 30), .int (nI z.ct)]))], rowW E (ad 16) (ad 17) 120 z.hd, rowW E (ad 18) (ad 19) 120 z.ps, rowW E (ad 20) (ad 21) 120 z.tm, rowW E (ad 22) (ad 23) 120 z.mn, rowW E (ad 24) (ad 25) 120 z.cm, rowW E (ad 26) (ad 27) 120 z.pl, rowW E (ad 28) (ad 29) 120 z.gr, rowW E (ad 30) (ad 31) 120 z.rk] H locs := M
        refine lv_if_eq (tgt := 64) S.1 S.2.1 dX4_bar_59 (by decide) (fun c59 => ?_) (fun c59 => ?_)
        ·
          refine lv_iinc (v := nI (i + 1)) (lv' := [(4, .int (nI (i + 1))), (5, .int 0), (0, .ref (ad 15)), (1, .int n), (2, .int h), (3, .int p)]) S.1 S.2.1 dX4_bar_64 hl (k := 5) rfl (nI_1 _) (by decide) rfl (fun ls hl => ?_)
          refine lv_goto (tgt := 3) S.1 S.2.1 dX4_bar_67 (by decide) ?_
          exact ih (i + 1) (by omega) (by rw [hI, barl, if_neg c22, if_pos c59]) _ _ M ls (lv_sub hl [2, 3, 4, 5, 0] rfl)
        ·
          refine lv_iconst (v := 1) S.1 S.2.1 dX4_bar_62 (by decide) ?_
          rw [← hQ]
          exact gzret S hr hlk M (rfl) (by rw [hI, barl, if_neg c22, if_neg c59]) (rfl) dX4_bar_63
      ·
        refine lv_aload_n S.1 S.2.1 dX4_bar_25 rfl (lv_at hl 0 rfl) ?_
        refine gget S hE M (C := RX4) (T := TX4) (N := 9) (ci := 4) (index := 20) hwi 0 rfl rfl 1 (by decide) (by decide +kernel) rfl dX4_bar_26 ?_
        refine lv_iload S.1 S.2.1 dX4_bar_29 (lv_at hl 4 rfl) ?_
        refine gcalli (L := [[(ad 15, .inr (4, [.ref (ad 16), .ref (ad 18), .ref (ad 20), .ref (ad 22), .ref (ad 24), .ref (ad 26), .ref (ad 28), .ref (ad 30), .int (nI z.ct)]))], rowW E (ad 16) (ad 17) 120 z.hd]) (Mid := [rowW E (ad 18) (ad 19) 120 z.ps]) (Rr := [rowW E (ad 20) (ad 21) 120 z.tm, rowW E (ad 22) (ad 23) 120 z.mn, rowW E (ad 24) (ad 25) 120 z.cm, rowW E (ad 26) (ad 27) 120 z.pl, rowW E (ad 28) (ad 29) 120 z.gr, rowW E (ad 30) (ad 31) 120 z.rk]) (Mid' := [rowW E (ad 18) (ad 19) 120 z.ps]) hE M rfl (List.append_nil _) (List.append_nil _) (fun hp => va_runV (As := [.int (nI i)]) (rest := []) S (c_X2_get l E (ad 18) (ad 19) 120 z.ps (nI i) (by decide) _) (cwV 1 S.2.2.2.2 gX4_bar_X2_get rfl rfl rfl kd_X2_get ⟨Nat.le_of_ble_eq_true rfl, Nat.le_of_ble_eq_true rfl⟩) (hp.V hE (show vwCl[2]? = some (RX2, TX2, 1) from rfl) rfl) rfl rfl hl.1 rfl (lv_room (Nat.le_of_ble_eq_true rfl)) dX4_bar_31 ⟨Nat.zero_le _, Nat.zero_le _⟩) (fun H locs M => ?_)
        have M : gM E A s.heap [[(ad 15, .inr (4, [.ref (ad 16), .ref (ad 18), .ref (ad 20), .ref (ad 22), .ref (ad 24), .ref (ad 26), .ref (ad 28), .ref (ad 30), .int (nI z.ct)]))], rowW E (ad 16) (ad 17) 120 z.hd, rowW E (ad 18) (ad 19) 120 z.ps, rowW E (ad 20) (ad 21) 120 z.tm, rowW E (ad 22) (ad 23) 120 z.mn, rowW E (ad 24) (ad 25) 120 z.cm, rowW E (ad 26) (ad 27) 120 z.pl, rowW E (ad 28) (ad 29) 120 z.gr, rowW E (ad 30) (ad 31) 120 z.rk] H locs := M
        refine lv_iload_n S.1 S.2.1 dX4_bar_34 rfl (lv_at hl 3 rfl) ?_
        refine lv_icmp_eq (tgt := 42) S.1 S.2.1 dX4_bar_35 (by decide) (fun c35 => ?_) (fun c35 => ?_)
        ·
          refine lv_iconst (v := 0) S.1 S.2.1 dX4_bar_42 (by decide) ?_
          refine lv_istore (lv' := [(5, .int 0), (0, .ref (ad 15)), (1, .int n), (2, .int h), (3, .int p), (4, .int (nI i))]) S.1 S.2.1 dX4_bar_43 hl (by decide) rfl (fun ls hl => ?_)
          refine lv_iload S.1 S.2.1 dX4_bar_45 (lv_at hl 0 rfl) ?_
          refine lv_if_ne (tgt := 62) S.1 S.2.1 dX4_bar_47 (by decide) (fun c_ => absurd (by decide) c_) (fun _ => ?_)
          refine lv_aload_n S.1 S.2.1 dX4_bar_50 rfl (lv_at hl 1 rfl) ?_
          refine lv_iload S.1 S.2.1 dX4_bar_51 (lv_at hl 5 rfl) ?_
          refine lv_iload_n S.1 S.2.1 dX4_bar_53 rfl (lv_at hl 2 rfl) ?_
          refine lv_iload_n S.1 S.2.1 dX4_bar_54 rfl (lv_at hl 3 rfl) ?_
          refine lv_iload_n S.1 S.2.1 dX4_bar_55 rfl (lv_at hl 4 rfl) ?_
          refine gcalli (L := []) (Mid := spuGs E ad z) (Rr := []) (Mid' := spuGs E ad z) hE M rfl (rfl) (rfl) (fun hp => va_runV (As := [.int (nI i), .int n, .int h, .int p]) (rest := []) S (c_X4_isInTheWay l E ad z (nI i) n h p  _) (cwV 4 S.2.2.2.2 gX4_bar_X4_isInTheWay rfl rfl rfl kd_X4_isInTheWay ⟨Nat.le_of_ble_eq_true rfl, Nat.le_of_ble_eq_true rfl⟩) (hp.V hE (show vwCl[4]? = some (RX4, TX4, 9) from rfl) rfl) rfl rfl hl.1 rfl (lv_room (Nat.le_of_ble_eq_true rfl)) dX4_bar_56 ⟨Nat.zero_le _, Nat.zero_le _⟩) (fun H locs M => ?_)
          have M : gM E A s.heap [[(ad 15, .inr (4, [.ref (ad 16), .ref (ad 18), .ref (ad 20), .ref (ad 22), .ref (ad 24), .ref (ad 26), .ref (ad 28), .ref (ad 30), .int (nI z.ct)]))], rowW E (ad 16) (ad 17) 120 z.hd, rowW E (ad 18) (ad 19) 120 z.ps, rowW E (ad 20) (ad 21) 120 z.tm, rowW E (ad 22) (ad 23) 120 z.mn, rowW E (ad 24) (ad 25) 120 z.cm, rowW E (ad 26) (ad 27) 120 z.pl, rowW E (ad 28) (ad 29) 120 z.gr, rowW E (ad 30) (ad 31) 120 z.rk] H locs := M
          refine lv_if_eq (tgt := 64) S.1 S.2.1 dX4_bar_59 (by decide) (fun c59 => ?_) (fun c59 => ?_)
          ·
            refine lv_iinc (v := nI (i + 1)) (lv' := [(4, .int (nI (i + 1))), (5, .int 0), (0, .ref (ad 15)), (1, .int n), (2, .int h), (3, .int p)]) S.1 S.2.1 dX4_bar_64 hl (k := 5) rfl (nI_1 _) (by decide) rfl (fun ls hl => ?_)
            refine lv_goto (tgt := 3) S.1 S.2.1 dX4_bar_67 (by decide) ?_
            exact ih (i + 1) (by omega) (by rw [hI, barl, if_pos c22, if_pos c35, if_pos c59]) _ _ M ls (lv_sub hl [2, 3, 4, 5, 0] rfl)
          ·
            refine lv_iconst (v := 1) S.1 S.2.1 dX4_bar_62 (by decide) ?_
            rw [← hQ]
            exact gzret S hr hlk M (rfl) (by rw [hI, barl, if_pos c22, if_pos c35, if_neg c59]) (rfl) dX4_bar_63
        ·
          refine lv_iconst (v := 1) S.1 S.2.1 dX4_bar_38 (by decide) ?_
          refine lv_goto (tgt := 43) S.1 S.2.1 dX4_bar_39 (by decide) ?_
          refine lv_istore (lv' := [(5, .int 1), (0, .ref (ad 15)), (1, .int n), (2, .int h), (3, .int p), (4, .int (nI i))]) S.1 S.2.1 dX4_bar_43 hl (by decide) rfl (fun ls hl => ?_)
          refine lv_iload S.1 S.2.1 dX4_bar_45 (lv_at hl 0 rfl) ?_
          refine lv_if_ne (tgt := 62) S.1 S.2.1 dX4_bar_47 (by decide) (fun _ => ?_) (fun c_ => absurd c_ (by decide))
          refine lv_iconst (v := 1) S.1 S.2.1 dX4_bar_62 (by decide) ?_
          rw [← hQ]
          exact gzret S hr hlk M (rfl) (by rw [hI, barl, if_pos c22, if_neg c35]) (rfl) dX4_bar_63
  refine lv_iconst (v := 0) S.1 S.2.1 dX4_bar_0 (by decide) ?_
  refine lv_istore (lv' := [(4, .int 0), (0, .ref (ad 15)), (1, .int n), (2, .int h), (3, .int p)]) S.1 S.2.1 dX4_bar_1 hl (by decide) rfl (fun ls hl => ?_)
  exact hL z.ct 0 (by omega) rfl _ _ M ls (lv_sub hl [1, 2, 3, 4, 0] rfl)

set_option maxHeartbeats 4000000 in
set_option maxRecDepth 100000 in
theorem c_X4_headsBelow (l : Launch) (E : xE) (ad : Nat → Nat) (z : SpuS) (h : Int32) (hc : z.ct ≤ 120) : mI l yX4_headsBelow wsX4_headsBelow (xrm 1 21) E [.ref (ad 15), .int h] (spuGs E ad z) (nI (z.bel h)) (spuGs E ad z) := by
  intro sz
  refine Met.ofW (cc := cX4_headsBelow) (maxL := 4) (ret := (some .int)) (by decide +kernel) rfl ?_
  intro vp ve s vm args below meth vc s₁ B hml hv
  obtain ⟨rfl, S, hr, hlk, hnm, A, hA, hE, M⟩ := genter B hml hv
  rw [hA]
  obtain ⟨ls, hfr, hl⟩ := gst (m := vm) (as := [.ref (ad 15), .int h]) (n := 4) (Nat.le_of_ble_eq_true rfl)
  rw [hfr]
  clear hfr hA
  have hl : lv_has ls 4 [(0, .ref (ad 15)), (1, .int h)] := hl
  have M : gM E A s.heap [[(ad 15, .inr (4, [.ref (ad 16), .ref (ad 18), .ref (ad 20), .ref (ad 22), .ref (ad 24), .ref (ad 26), .ref (ad 28), .ref (ad 30), .int (nI z.ct)]))], rowW E (ad 16) (ad 17) 120 z.hd, rowW E (ad 18) (ad 19) 120 z.ps, rowW E (ad 20) (ad 21) 120 z.tm, rowW E (ad 22) (ad 23) 120 z.mn, rowW E (ad 24) (ad 25) 120 z.cm, rowW E (ad 26) (ad 27) 120 z.pl, rowW E (ad 28) (ad 29) 120 z.gr, rowW E (ad 30) (ad 31) 120 z.rk] s.heap [] := M
  have hwi : ∀ w ∈ u_ws RX4 TX4 9, w ∈ wsX4_headsBelow := by decide +kernel
  obtain ⟨Q, hQ⟩ : ∃ Q : State → Prop, MQ below (va_Qi (fun x (_ : Unit) => x = (nI (z.bel h))) (fun _ => kQ E A (spuGs E ad z)) A) ([.ref (ad 15), .int h] : List Value).toArray s 0 0 A = Q := ⟨_, rfl⟩
  rw [hQ]
  have hL : ∀ (n : Nat), ∀ (i a : Nat), i + n = z.ct → z.bel h = cltN (fun i => rg 120 z.hd (nI i)) h n i a → ∀ (H : Heap) (locs : List Loc), gM E A s.heap [[(ad 15, .inr (4, [.ref (ad 16), .ref (ad 18), .ref (ad 20), .ref (ad 22), .ref (ad 24), .ref (ad 26), .ref (ad 28), .ref (ad 30), .int (nI z.ct)]))], rowW E (ad 16) (ad 17) 120 z.hd, rowW E (ad 18) (ad 19) 120 z.ps, rowW E (ad 20) (ad 21) 120 z.tm, rowW E (ad 22) (ad 23) 120 z.mn, rowW E (ad 24) (ad 25) 120 z.cm, rowW E (ad 26) (ad 27) 120 z.pl, rowW E (ad 28) (ad 29) 120 z.gr, rowW E (ad 30) (ad 31) 120 z.rk] H locs → ∀ ls : Array Slot, lv_has ls 4 [(0, .ref (ad 15)), (1, .int h), (2, .int (nI a)), (3, .int (nI i))] → W vp l ve (headSpec wsX4_headsBelow (xrm 1 21)).room s vm ([.ref (ad 15), .int h] : List Value).toArray below meth vc H locs 0 0 Q (F0 vm 4 ls []) := by
    intro n
    induction n with
    | zero =>
      intro i a hi hI H locs M ls hl
      refine lv_iload_n S.1 S.2.1 dX4_headsBelow_4 rfl (lv_at hl 3 rfl) ?_
      refine lv_aload_n S.1 S.2.1 dX4_headsBelow_5 rfl (lv_at hl 0 rfl) ?_
      refine gget S hE M (C := RX4) (T := TX4) (N := 9) (ci := 4) (index := 41) hwi 0 rfl rfl 8 (by decide) (by decide +kernel) rfl dX4_headsBelow_6 ?_
      refine lv_icmp_ge (tgt := 33) S.1 S.2.1 dX4_headsBelow_9 (by decide) (fun _ => ?_) (fun c_ => absurd (nI_le (by omega) (by omega)) c_)
      refine lv_iload_n S.1 S.2.1 dX4_headsBelow_33 rfl (lv_at hl 2 rfl) ?_
      rw [← hQ]
      exact giret S hr hlk M (by rw [hI, cltN]) (rfl) dX4_headsBelow_34
    | succ n ih =>
      intro i a hi hI H locs M ls hl
      refine lv_iload_n S.1 S.2.1 dX4_headsBelow_4 rfl (lv_at hl 3 rfl) ?_
      refine lv_aload_n S.1 S.2.1 dX4_headsBelow_5 rfl (lv_at hl 0 rfl) ?_
      refine gget S hE M (C := RX4) (T := TX4) (N := 9) (ci := 4) (index := 41) hwi 0 rfl rfl 8 (by decide) (by decide +kernel) rfl dX4_headsBelow_6 ?_
      refine lv_icmp_ge (tgt := 33) S.1 S.2.1 dX4_headsBelow_9 (by decide) (fun c_ => absurd c_ (nI_ge (by omega) (by omega))) (fun _ => ?_)
      refine lv_aload_n S.1 S.2.1 dX4_headsBelow_12 rfl (lv_at hl 0 rfl) ?_
      refine gget S hE M (C := RX4) (T := TX4) (N := 9) (ci := 4) (index := 14) hwi 0 rfl rfl 0 (by decide) (by decide +kernel) rfl dX4_headsBelow_13 ?_
      refine lv_iload_n S.1 S.2.1 dX4_headsBelow_16 rfl (lv_at hl 3 rfl) ?_
      refine gcalli (L := [[(ad 15, .inr (4, [.ref (ad 16), .ref (ad 18), .ref (ad 20), .ref (ad 22), .ref (ad 24), .ref (ad 26), .ref (ad 28), .ref (ad 30), .int (nI z.ct)]))]]) (Mid := [rowW E (ad 16) (ad 17) 120 z.hd]) (Rr := [rowW E (ad 18) (ad 19) 120 z.ps, rowW E (ad 20) (ad 21) 120 z.tm, rowW E (ad 22) (ad 23) 120 z.mn, rowW E (ad 24) (ad 25) 120 z.cm, rowW E (ad 26) (ad 27) 120 z.pl, rowW E (ad 28) (ad 29) 120 z.gr, rowW E (ad 30) (ad 31) 120 z.rk]) (Mid' := [rowW E (ad 16) (ad 17) 120 z.hd]) hE M rfl (List.append_nil _) (List.append_nil _) (fun hp => va_runV (As := [.int (nI i)]) (rest := []) S (c_X2_get l E (ad 16) (ad 17) 120 z.hd (nI i) (by decide) _) (cwV 1 S.2.2.2.2 gX4_headsBelow_X2_get rfl rfl rfl kd_X2_get ⟨Nat.le_of_ble_eq_true rfl, Nat.le_of_ble_eq_true rfl⟩) (hp.V hE (show vwCl[2]? = some (RX2, TX2, 1) from rfl) rfl) rfl rfl hl.1 rfl (lv_room (Nat.le_of_ble_eq_true rfl)) dX4_headsBelow_17 ⟨Nat.zero_le _, Nat.zero_le _⟩) (fun H locs M => ?_)
      have M : gM E A s.heap [[(ad 15, .inr (4, [.ref (ad 16), .ref (ad 18), .ref (ad 20), .ref (ad 22), .ref (ad 24), .ref (ad 26), .ref (ad 28), .ref (ad 30), .int (nI z.ct)]))], rowW E (ad 16) (ad 17) 120 z.hd, rowW E (ad 18) (ad 19) 120 z.ps, rowW E (ad 20) (ad 21) 120 z.tm, rowW E (ad 22) (ad 23) 120 z.mn, rowW E (ad 24) (ad 25) 120 z.cm, rowW E (ad 26) (ad 27) 120 z.pl, rowW E (ad 28) (ad 29) 120 z.gr, rowW E (ad 30) (ad 31) 120 z.rk] H locs := M
      refine lv_iload_n S.1 S.2.1 dX4_headsBelow_20 rfl (lv_at hl 1 rfl) ?_
      refine lv_icmp_ge (tgt := 27) S.1 S.2.1 dX4_headsBelow_21 (by decide) (fun c21 => ?_) (fun c21 => ?_)
      ·
        refine lv_iinc (v := nI (i + 1)) (lv' := [(3, .int (nI (i + 1))), (0, .ref (ad 15)), (1, .int h), (2, .int (nI a))]) S.1 S.2.1 dX4_headsBelow_27 hl (k := 3) rfl (nI_1 _) (by decide) rfl (fun ls hl => ?_)
        refine lv_goto (tgt := 4) S.1 S.2.1 dX4_headsBelow_30 (by decide) ?_
        exact ih (i + 1) a (by omega) (by rw [hI, cltN, if_pos c21]) _ _ M ls (lv_sub hl [1, 2, 3, 0] rfl)
      ·
        refine lv_iinc (v := nI (a + 1)) (lv' := [(2, .int (nI (a + 1))), (0, .ref (ad 15)), (1, .int h), (3, .int (nI i))]) S.1 S.2.1 dX4_headsBelow_24 hl (k := 2) rfl (nI_1 _) (by decide) rfl (fun ls hl => ?_)
        refine lv_iinc (v := nI (i + 1)) (lv' := [(3, .int (nI (i + 1))), (2, .int (nI (a + 1))), (0, .ref (ad 15)), (1, .int h)]) S.1 S.2.1 dX4_headsBelow_27 hl (k := 3) rfl (nI_1 _) (by decide) rfl (fun ls hl => ?_)
        refine lv_goto (tgt := 4) S.1 S.2.1 dX4_headsBelow_30 (by decide) ?_
        exact ih (i + 1) (a + 1) (by omega) (by rw [hI, cltN, if_neg c21]) _ _ M ls (lv_sub hl [2, 3, 1, 0] rfl)
  refine lv_iconst (v := 0) S.1 S.2.1 dX4_headsBelow_0 (by decide) ?_
  refine lv_istore_n (lv' := [(2, .int 0), (0, .ref (ad 15)), (1, .int h)]) S.1 S.2.1 dX4_headsBelow_1 rfl hl (by decide) rfl (fun ls hl => ?_)
  refine lv_iconst (v := 0) S.1 S.2.1 dX4_headsBelow_2 (by decide) ?_
  refine lv_istore_n (lv' := [(3, .int 0), (2, .int 0), (0, .ref (ad 15)), (1, .int h)]) S.1 S.2.1 dX4_headsBelow_3 rfl hl (by decide) rfl (fun ls hl => ?_)
  exact hL z.ct 0 0 (by omega) rfl _ _ M ls (lv_sub hl [2, 3, 1, 0] rfl)

set_option maxHeartbeats 4000000 in
set_option maxRecDepth 100000 in
theorem c_X4_timeInTurn (l : Launch) (E : xE) (ad : Nat → Nat) (z : SpuS) (h : Int32) (p : Int32) (w : Int32) (hc : z.ct ≤ 120) : mI l yX4_timeInTurn wsX4_timeInTurn (xrm 2 44) E [.ref (ad 15), .int h, .int p, .int w] (spuGs E ad z) (z.turn h p w) (spuGs E ad z) := by
  intro sz
  refine Met.ofW (cc := cX4_timeInTurn) (maxL := 7) (ret := (some .int)) (by decide +kernel) rfl ?_
  intro vp ve s vm args below meth vc s₁ B hml hv
  obtain ⟨rfl, S, hr, hlk, hnm, A, hA, hE, M⟩ := genter B hml hv
  rw [hA]
  obtain ⟨ls, hfr, hl⟩ := gst (m := vm) (as := [.ref (ad 15), .int h, .int p, .int w]) (n := 7) (Nat.le_of_ble_eq_true rfl)
  rw [hfr]
  clear hfr hA
  have hl : lv_has ls 7 [(0, .ref (ad 15)), (1, .int h), (2, .int p), (3, .int w)] := hl
  have M : gM E A s.heap [[(ad 15, .inr (4, [.ref (ad 16), .ref (ad 18), .ref (ad 20), .ref (ad 22), .ref (ad 24), .ref (ad 26), .ref (ad 28), .ref (ad 30), .int (nI z.ct)]))], rowW E (ad 16) (ad 17) 120 z.hd, rowW E (ad 18) (ad 19) 120 z.ps, rowW E (ad 20) (ad 21) 120 z.tm, rowW E (ad 22) (ad 23) 120 z.mn, rowW E (ad 24) (ad 25) 120 z.cm, rowW E (ad 26) (ad 27) 120 z.pl, rowW E (ad 28) (ad 29) 120 z.gr, rowW E (ad 30) (ad 31) 120 z.rk] s.heap [] := M
  have hwi : ∀ w ∈ u_ws RX4 TX4 9, w ∈ wsX4_timeInTurn := by decide +kernel
  refine lv_aload_n S.1 S.2.1 dX4_timeInTurn_0 rfl (lv_at hl 0 rfl) ?_
  refine lv_iload_n S.1 S.2.1 dX4_timeInTurn_1 rfl (lv_at hl 1 rfl) ?_
  refine gcalli (L := []) (Mid := spuGs E ad z) (Rr := []) (Mid' := spuGs E ad z) hE M rfl (rfl) (rfl) (fun hp => va_runV (As := [.int h]) (rest := []) S (c_X4_headsBelow l E ad z h  hc _) (cwV 1 S.2.2.2.2 gX4_timeInTurn_X4_headsBelow rfl rfl rfl kd_X4_headsBelow ⟨Nat.le_of_ble_eq_true rfl, Nat.le_of_ble_eq_true rfl⟩) (hp.V hE (show vwCl[4]? = some (RX4, TX4, 9) from rfl) rfl) rfl rfl hl.1 rfl (lv_room (Nat.le_of_ble_eq_true rfl)) dX4_timeInTurn_2 ⟨Nat.zero_le _, Nat.zero_le _⟩) (fun H locs M => ?_)
  have M : gM E A s.heap [[(ad 15, .inr (4, [.ref (ad 16), .ref (ad 18), .ref (ad 20), .ref (ad 22), .ref (ad 24), .ref (ad 26), .ref (ad 28), .ref (ad 30), .int (nI z.ct)]))], rowW E (ad 16) (ad 17) 120 z.hd, rowW E (ad 18) (ad 19) 120 z.ps, rowW E (ad 20) (ad 21) 120 z.tm, rowW E (ad 22) (ad 23) 120 z.mn, rowW E (ad 24) (ad 25) 120 z.cm, rowW E (ad 26) (ad 27) 120 z.pl, rowW E (ad 28) (ad 29) 120 z.gr, rowW E (ad 30) (ad 31) 120 z.rk] H locs := M
  refine lv_istore (lv' := [(4, .int (nI (z.bel h))), (0, .ref (ad 15)), (1, .int h), (2, .int p), (3, .int w)]) S.1 S.2.1 dX4_timeInTurn_5 hl (by decide) rfl (fun ls hl => ?_)
  refine lv_iload_n S.1 S.2.1 dX4_timeInTurn_7 rfl (lv_at hl 4 rfl) ?_
  refine lv_istore (lv' := [(5, .int w), (4, .int (nI (z.bel h))), (0, .ref (ad 15)), (1, .int h), (2, .int p), (3, .int w)]) S.1 S.2.1 dX4_timeInTurn_8 hl (by decide) rfl (fun ls hl => ?_)
  refine lv_iload S.1 S.2.1 dX4_timeInTurn_10 (lv_at hl 1 rfl) ?_
  refine lv_if_le (tgt := 49) S.1 S.2.1 dX4_timeInTurn_12 (by decide) (fun c12 => ?_) (fun c12 => ?_)
  ·
    refine lv_iload S.1 S.2.1 dX4_timeInTurn_49 (lv_at hl 1 rfl) ?_
    refine lv_aload_n S.1 S.2.1 dX4_timeInTurn_51 rfl (lv_at hl 2 rfl) ?_
    refine gget S hE M (C := RX4) (T := TX4) (N := 9) (ci := 4) (index := 41) hwi 0 rfl rfl 8 (by decide) (by decide +kernel) rfl dX4_timeInTurn_52 ?_
    refine lv_icmp_ge (tgt := 98) S.1 S.2.1 dX4_timeInTurn_55 (by decide) (fun c55 => ?_) (fun c55 => ?_)
    ·
      refine lv_iload S.1 S.2.1 dX4_timeInTurn_98 (lv_at hl 0 rfl) ?_
      exact giret S hr hlk M (by unfold SpuS.turn SpuS.turn2 SpuS.turn1; rw [if_pos c12, if_pos c55]) (rfl) dX4_timeInTurn_100
    ·
      refine lv_aload_n S.1 S.2.1 dX4_timeInTurn_58 rfl (lv_at hl 2 rfl) ?_
      refine gget S hE M (C := RX4) (T := TX4) (N := 9) (ci := 4) (index := 38) hwi 0 rfl rfl 7 (by decide) (by decide +kernel) rfl dX4_timeInTurn_59 ?_
      refine lv_iload S.1 S.2.1 dX4_timeInTurn_62 (lv_at hl 1 rfl) ?_
      refine gcalli (L := [[(ad 15, .inr (4, [.ref (ad 16), .ref (ad 18), .ref (ad 20), .ref (ad 22), .ref (ad 24), .ref (ad 26), .ref (ad 28), .ref (ad 30), .int (nI z.ct)]))], rowW E (ad 16) (ad 17) 120 z.hd, rowW E (ad 18) (ad 19) 120 z.ps, rowW E (ad 20) (ad 21) 120 z.tm, rowW E (ad 22) (ad 23) 120 z.mn, rowW E (ad 24) (ad 25) 120 z.cm, rowW E (ad 26) (ad 27) 120 z.pl, rowW E (ad 28) (ad 29) 120 z.gr]) (Mid := [rowW E (ad 30) (ad 31) 120 z.rk]) (Rr := []) (Mid' := [rowW E (ad 30) (ad 31) 120 z.rk]) hE M rfl (List.append_nil _) (List.append_nil _) (fun hp => va_runV (As := [.int (nI (z.bel h))]) (rest := []) S (c_X2_get l E (ad 30) (ad 31) 120 z.rk (nI (z.bel h)) (by decide) _) (cwV 1 S.2.2.2.2 gX4_timeInTurn_X2_get rfl rfl rfl kd_X2_get ⟨Nat.le_of_ble_eq_true rfl, Nat.le_of_ble_eq_true rfl⟩) (hp.V hE (show vwCl[2]? = some (RX2, TX2, 1) from rfl) rfl) rfl rfl hl.1 rfl (lv_room (Nat.le_of_ble_eq_true rfl)) dX4_timeInTurn_64 ⟨Nat.zero_le _, Nat.zero_le _⟩) (fun H locs M => ?_)
      have M : gM E A s.heap [[(ad 15, .inr (4, [.ref (ad 16), .ref (ad 18), .ref (ad 20), .ref (ad 22), .ref (ad 24), .ref (ad 26), .ref (ad 28), .ref (ad 30), .int (nI z.ct)]))], rowW E (ad 16) (ad 17) 120 z.hd, rowW E (ad 18) (ad 19) 120 z.ps, rowW E (ad 20) (ad 21) 120 z.tm, rowW E (ad 22) (ad 23) 120 z.mn, rowW E (ad 24) (ad 25) 120 z.cm, rowW E (ad 26) (ad 27) 120 z.pl, rowW E (ad 28) (ad 29) 120 z.gr, rowW E (ad 30) (ad 31) 120 z.rk] H locs := M
      refine lv_istore (lv' := [(6, .int (rg 120 z.rk (nI (z.bel h)))), (5, .int w), (4, .int (nI (z.bel h))), (0, .ref (ad 15)), (1, .int h), (2, .int p), (3, .int w)]) S.1 S.2.1 dX4_timeInTurn_67 hl (by decide) rfl (fun ls hl => ?_)
      refine lv_iload S.1 S.2.1 dX4_timeInTurn_69 (lv_at hl 1 rfl) ?_
      refine lv_aload_n S.1 S.2.1 dX4_timeInTurn_71 rfl (lv_at hl 3 rfl) ?_
      refine gget S hE M (C := RX4) (T := TX4) (N := 9) (ci := 4) (index := 23) hwi 0 rfl rfl 2 (by decide) (by decide +kernel) rfl dX4_timeInTurn_72 ?_
      refine lv_iload S.1 S.2.1 dX4_timeInTurn_75 (lv_at hl 0 rfl) ?_
      refine gcalli (L := [[(ad 15, .inr (4, [.ref (ad 16), .ref (ad 18), .ref (ad 20), .ref (ad 22), .ref (ad 24), .ref (ad 26), .ref (ad 28), .ref (ad 30), .int (nI z.ct)]))], rowW E (ad 16) (ad 17) 120 z.hd, rowW E (ad 18) (ad 19) 120 z.ps]) (Mid := [rowW E (ad 20) (ad 21) 120 z.tm]) (Rr := [rowW E (ad 22) (ad 23) 120 z.mn, rowW E (ad 24) (ad 25) 120 z.cm, rowW E (ad 26) (ad 27) 120 z.pl, rowW E (ad 28) (ad 29) 120 z.gr, rowW E (ad 30) (ad 31) 120 z.rk]) (Mid' := [rowW E (ad 20) (ad 21) 120 z.tm]) hE M rfl (List.append_nil _) (List.append_nil _) (fun hp => va_runV (As := [.int (rg 120 z.rk (nI (z.bel h)))]) (rest := [.int w]) S (c_X2_get l E (ad 20) (ad 21) 120 z.tm (rg 120 z.rk (nI (z.bel h))) (by decide) _) (cwV 1 S.2.2.2.2 gX4_timeInTurn_X2_get rfl rfl rfl kd_X2_get ⟨Nat.le_of_ble_eq_true rfl, Nat.le_of_ble_eq_true rfl⟩) (hp.V hE (show vwCl[2]? = some (RX2, TX2, 1) from rfl) rfl) rfl rfl hl.1 rfl (lv_room (Nat.le_of_ble_eq_true rfl)) dX4_timeInTurn_77 ⟨Nat.zero_le _, Nat.zero_le _⟩) (fun H locs M => ?_)
      have M : gM E A s.heap [[(ad 15, .inr (4, [.ref (ad 16), .ref (ad 18), .ref (ad 20), .ref (ad 22), .ref (ad 24), .ref (ad 26), .ref (ad 28), .ref (ad 30), .int (nI z.ct)]))], rowW E (ad 16) (ad 17) 120 z.hd, rowW E (ad 18) (ad 19) 120 z.ps, rowW E (ad 20) (ad 21) 120 z.tm, rowW E (ad 22) (ad 23) 120 z.mn, rowW E (ad 24) (ad 25) 120 z.cm, rowW E (ad 26) (ad 27) 120 z.pl, rowW E (ad 28) (ad 29) 120 z.gr, rowW E (ad 30) (ad 31) 120 z.rk] H locs := M
      refine lv_bipush (v := 20) S.1 S.2.1 dX4_timeInTurn_80 (by decide) ?_
      refine lv_aload_n S.1 S.2.1 dX4_timeInTurn_82 rfl (lv_at hl 3 rfl) ?_
      refine gget S hE M (C := RX4) (T := TX4) (N := 9) (ci := 4) (index := 20) hwi 0 rfl rfl 1 (by decide) (by decide +kernel) rfl dX4_timeInTurn_83 ?_
      refine lv_iload S.1 S.2.1 dX4_timeInTurn_86 (lv_at hl 0 rfl) ?_
      refine gcalli (L := [[(ad 15, .inr (4, [.ref (ad 16), .ref (ad 18), .ref (ad 20), .ref (ad 22), .ref (ad 24), .ref (ad 26), .ref (ad 28), .ref (ad 30), .int (nI z.ct)]))], rowW E (ad 16) (ad 17) 120 z.hd]) (Mid := [rowW E (ad 18) (ad 19) 120 z.ps]) (Rr := [rowW E (ad 20) (ad 21) 120 z.tm, rowW E (ad 22) (ad 23) 120 z.mn, rowW E (ad 24) (ad 25) 120 z.cm, rowW E (ad 26) (ad 27) 120 z.pl, rowW E (ad 28) (ad 29) 120 z.gr, rowW E (ad 30) (ad 31) 120 z.rk]) (Mid' := [rowW E (ad 18) (ad 19) 120 z.ps]) hE M rfl (List.append_nil _) (List.append_nil _) (fun hp => va_runV (As := [.int (rg 120 z.rk (nI (z.bel h)))]) (rest := [.int 20, .int (rg 120 z.tm (rg 120 z.rk (nI (z.bel h)))), .int w]) S (c_X2_get l E (ad 18) (ad 19) 120 z.ps (rg 120 z.rk (nI (z.bel h))) (by decide) _) (cwV 1 S.2.2.2.2 gX4_timeInTurn_X2_get rfl rfl rfl kd_X2_get ⟨Nat.le_of_ble_eq_true rfl, Nat.le_of_ble_eq_true rfl⟩) (hp.V hE (show vwCl[2]? = some (RX2, TX2, 1) from rfl) rfl) rfl rfl hl.1 rfl (lv_room (Nat.le_of_ble_eq_true rfl)) dX4_timeInTurn_88 ⟨Nat.zero_le _, Nat.zero_le _⟩) (fun H locs M => ?_)
      have M : gM E A s.heap [[(ad 15, .inr (4, [.ref (ad 16), .ref (ad 18), .ref (ad 20), .ref (ad 22), .ref (ad 24), .ref (ad 26), .ref (ad 28), .ref (ad 30), .int (nI z.ct)]))], rowW E (ad 16) (ad 17) 120 z.hd, rowW E (ad 18) (ad 19) 120 z.ps, rowW E (ad 20) (ad 21) 120 z.tm, rowW E (ad 22) (ad 23) 120 z.mn, rowW E (ad 24) (ad 25) 120 z.cm, rowW E (ad 26) (ad 27) 120 z.pl, rowW E (ad 28) (ad 29) 120 z.gr, rowW E (ad 30) (ad 31) 120 z.rk] H locs := M
      refine lv_imul S.1 S.2.1 dX4_timeInTurn_91 ?_
      refine lv_iadd S.1 S.2.1 dX4_timeInTurn_92 ?_
      refine va_mmin S.1 S.2.1 (by rw [hl.1]; exact S.2.2.1) S.2.2.2.1 (S.2.2.2.2 (.methodLink RX4 68 Lib.Math.min.name) (by decide +kernel)) (S.2.2.2.2 (.static Lib.Math.min.name) (by decide +kernel)) (S.2.2.2.2 (.initialized "java/lang/Math") (by decide +kernel)) (S.2.2.2.2 (.code Lib.Math.min.name Lib.Math.min.code 2 (some .int)) (by decide +kernel)) (Nat.le_of_ble_eq_true rfl) (Nat.le_of_ble_eq_true rfl) (Nat.zero_le _) (Nat.zero_le _) dX4_timeInTurn_93 ?_
      refine lv_istore (lv' := [(5, .int (imin w ((rg 120 z.tm (rg 120 z.rk (nI (z.bel h)))) + (20 * (rg 120 z.ps (rg 120 z.rk (nI (z.bel h)))))))), (6, .int (rg 120 z.rk (nI (z.bel h)))), (4, .int (nI (z.bel h))), (0, .ref (ad 15)), (1, .int h), (2, .int p), (3, .int w)]) S.1 S.2.1 dX4_timeInTurn_96 hl (by decide) rfl (fun ls hl => ?_)
      refine lv_iload S.1 S.2.1 dX4_timeInTurn_98 (lv_at hl 0 rfl) ?_
      exact giret S hr hlk M (by unfold SpuS.turn SpuS.turn2 SpuS.turn1; rw [if_pos c12, if_neg c55]) (rfl) dX4_timeInTurn_100
  ·
    refine lv_aload_n S.1 S.2.1 dX4_timeInTurn_15 rfl (lv_at hl 2 rfl) ?_
    refine gget S hE M (C := RX4) (T := TX4) (N := 9) (ci := 4) (index := 38) hwi 0 rfl rfl 7 (by decide) (by decide +kernel) rfl dX4_timeInTurn_16 ?_
    refine lv_iload S.1 S.2.1 dX4_timeInTurn_19 (lv_at hl 1 rfl) ?_
    refine lv_iconst (v := 1) S.1 S.2.1 dX4_timeInTurn_21 (by decide) ?_
    refine lv_isub S.1 S.2.1 dX4_timeInTurn_22 ?_
    refine gcalli (L := [[(ad 15, .inr (4, [.ref (ad 16), .ref (ad 18), .ref (ad 20), .ref (ad 22), .ref (ad 24), .ref (ad 26), .ref (ad 28), .ref (ad 30), .int (nI z.ct)]))], rowW E (ad 16) (ad 17) 120 z.hd, rowW E (ad 18) (ad 19) 120 z.ps, rowW E (ad 20) (ad 21) 120 z.tm, rowW E (ad 22) (ad 23) 120 z.mn, rowW E (ad 24) (ad 25) 120 z.cm, rowW E (ad 26) (ad 27) 120 z.pl, rowW E (ad 28) (ad 29) 120 z.gr]) (Mid := [rowW E (ad 30) (ad 31) 120 z.rk]) (Rr := []) (Mid' := [rowW E (ad 30) (ad 31) 120 z.rk]) hE M rfl (List.append_nil _) (List.append_nil _) (fun hp => va_runV (As := [.int ((nI (z.bel h)) - 1)]) (rest := []) S (c_X2_get l E (ad 30) (ad 31) 120 z.rk ((nI (z.bel h)) - 1) (by decide) _) (cwV 1 S.2.2.2.2 gX4_timeInTurn_X2_get rfl rfl rfl kd_X2_get ⟨Nat.le_of_ble_eq_true rfl, Nat.le_of_ble_eq_true rfl⟩) (hp.V hE (show vwCl[2]? = some (RX2, TX2, 1) from rfl) rfl) rfl rfl hl.1 rfl (lv_room (Nat.le_of_ble_eq_true rfl)) dX4_timeInTurn_23 ⟨Nat.zero_le _, Nat.zero_le _⟩) (fun H locs M => ?_)
    have M : gM E A s.heap [[(ad 15, .inr (4, [.ref (ad 16), .ref (ad 18), .ref (ad 20), .ref (ad 22), .ref (ad 24), .ref (ad 26), .ref (ad 28), .ref (ad 30), .int (nI z.ct)]))], rowW E (ad 16) (ad 17) 120 z.hd, rowW E (ad 18) (ad 19) 120 z.ps, rowW E (ad 20) (ad 21) 120 z.tm, rowW E (ad 22) (ad 23) 120 z.mn, rowW E (ad 24) (ad 25) 120 z.cm, rowW E (ad 26) (ad 27) 120 z.pl, rowW E (ad 28) (ad 29) 120 z.gr, rowW E (ad 30) (ad 31) 120 z.rk] H locs := M
    refine lv_istore (lv' := [(6, .int (rg 120 z.rk ((nI (z.bel h)) - 1))), (5, .int w), (4, .int (nI (z.bel h))), (0, .ref (ad 15)), (1, .int h), (2, .int p), (3, .int w)]) S.1 S.2.1 dX4_timeInTurn_26 hl (by decide) rfl (fun ls hl => ?_)
    refine lv_iload S.1 S.2.1 dX4_timeInTurn_28 (lv_at hl 1 rfl) ?_
    refine lv_aload_n S.1 S.2.1 dX4_timeInTurn_30 rfl (lv_at hl 3 rfl) ?_
    refine gget S hE M (C := RX4) (T := TX4) (N := 9) (ci := 4) (index := 23) hwi 0 rfl rfl 2 (by decide) (by decide +kernel) rfl dX4_timeInTurn_31 ?_
    refine lv_iload S.1 S.2.1 dX4_timeInTurn_34 (lv_at hl 0 rfl) ?_
    refine gcalli (L := [[(ad 15, .inr (4, [.ref (ad 16), .ref (ad 18), .ref (ad 20), .ref (ad 22), .ref (ad 24), .ref (ad 26), .ref (ad 28), .ref (ad 30), .int (nI z.ct)]))], rowW E (ad 16) (ad 17) 120 z.hd, rowW E (ad 18) (ad 19) 120 z.ps]) (Mid := [rowW E (ad 20) (ad 21) 120 z.tm]) (Rr := [rowW E (ad 22) (ad 23) 120 z.mn, rowW E (ad 24) (ad 25) 120 z.cm, rowW E (ad 26) (ad 27) 120 z.pl, rowW E (ad 28) (ad 29) 120 z.gr, rowW E (ad 30) (ad 31) 120 z.rk]) (Mid' := [rowW E (ad 20) (ad 21) 120 z.tm]) hE M rfl (List.append_nil _) (List.append_nil _) (fun hp => va_runV (As := [.int (rg 120 z.rk ((nI (z.bel h)) - 1))]) (rest := [.int w]) S (c_X2_get l E (ad 20) (ad 21) 120 z.tm (rg 120 z.rk ((nI (z.bel h)) - 1)) (by decide) _) (cwV 1 S.2.2.2.2 gX4_timeInTurn_X2_get rfl rfl rfl kd_X2_get ⟨Nat.le_of_ble_eq_true rfl, Nat.le_of_ble_eq_true rfl⟩) (hp.V hE (show vwCl[2]? = some (RX2, TX2, 1) from rfl) rfl) rfl rfl hl.1 rfl (lv_room (Nat.le_of_ble_eq_true rfl)) dX4_timeInTurn_36 ⟨Nat.zero_le _, Nat.zero_le _⟩) (fun H locs M => ?_)
    have M : gM E A s.heap [[(ad 15, .inr (4, [.ref (ad 16), .ref (ad 18), .ref (ad 20), .ref (ad 22), .ref (ad 24), .ref (ad 26), .ref (ad 28), .ref (ad 30), .int (nI z.ct)]))], rowW E (ad 16) (ad 17) 120 z.hd, rowW E (ad 18) (ad 19) 120 z.ps, rowW E (ad 20) (ad 21) 120 z.tm, rowW E (ad 22) (ad 23) 120 z.mn, rowW E (ad 24) (ad 25) 120 z.cm, rowW E (ad 26) (ad 27) 120 z.pl, rowW E (ad 28) (ad 29) 120 z.gr, rowW E (ad 30) (ad 31) 120 z.rk] H locs := M
    refine lv_bipush (v := 20) S.1 S.2.1 dX4_timeInTurn_39 (by decide) ?_
    refine lv_iload_n S.1 S.2.1 dX4_timeInTurn_41 rfl (lv_at hl 5 rfl) ?_
    refine lv_imul S.1 S.2.1 dX4_timeInTurn_42 ?_
    refine lv_isub S.1 S.2.1 dX4_timeInTurn_43 ?_
    refine va_mmax S.1 S.2.1 (by rw [hl.1]; exact S.2.2.1) S.2.2.2.1 (S.2.2.2.2 (.methodLink RX4 62 Lib.Math.max.name) (by decide +kernel)) (S.2.2.2.2 (.static Lib.Math.max.name) (by decide +kernel)) (S.2.2.2.2 (.initialized "java/lang/Math") (by decide +kernel)) (S.2.2.2.2 (.code Lib.Math.max.name Lib.Math.max.code 2 (some .int)) (by decide +kernel)) (Nat.le_of_ble_eq_true rfl) (Nat.le_of_ble_eq_true rfl) (Nat.zero_le _) (Nat.zero_le _) dX4_timeInTurn_44 ?_
    refine lv_istore (lv' := [(5, .int (imax w ((rg 120 z.tm (rg 120 z.rk ((nI (z.bel h)) - 1))) - (20 * p)))), (6, .int (rg 120 z.rk ((nI (z.bel h)) - 1))), (4, .int (nI (z.bel h))), (0, .ref (ad 15)), (1, .int h), (2, .int p), (3, .int w)]) S.1 S.2.1 dX4_timeInTurn_47 hl (by decide) rfl (fun ls hl => ?_)
    refine lv_iload S.1 S.2.1 dX4_timeInTurn_49 (lv_at hl 2 rfl) ?_
    refine lv_aload_n S.1 S.2.1 dX4_timeInTurn_51 rfl (lv_at hl 3 rfl) ?_
    refine gget S hE M (C := RX4) (T := TX4) (N := 9) (ci := 4) (index := 41) hwi 0 rfl rfl 8 (by decide) (by decide +kernel) rfl dX4_timeInTurn_52 ?_
    refine lv_icmp_ge (tgt := 98) S.1 S.2.1 dX4_timeInTurn_55 (by decide) (fun c55 => ?_) (fun c55 => ?_)
    ·
      refine lv_iload S.1 S.2.1 dX4_timeInTurn_98 (lv_at hl 0 rfl) ?_
      exact giret S hr hlk M (by unfold SpuS.turn SpuS.turn2 SpuS.turn1; rw [if_neg c12, if_pos c55]) (rfl) dX4_timeInTurn_100
    ·
      refine lv_aload_n S.1 S.2.1 dX4_timeInTurn_58 rfl (lv_at hl 3 rfl) ?_
      refine gget S hE M (C := RX4) (T := TX4) (N := 9) (ci := 4) (index := 38) hwi 0 rfl rfl 7 (by decide) (by decide +kernel) rfl dX4_timeInTurn_59 ?_
      refine lv_iload S.1 S.2.1 dX4_timeInTurn_62 (lv_at hl 2 rfl) ?_
      refine gcalli (L := [[(ad 15, .inr (4, [.ref (ad 16), .ref (ad 18), .ref (ad 20), .ref (ad 22), .ref (ad 24), .ref (ad 26), .ref (ad 28), .ref (ad 30), .int (nI z.ct)]))], rowW E (ad 16) (ad 17) 120 z.hd, rowW E (ad 18) (ad 19) 120 z.ps, rowW E (ad 20) (ad 21) 120 z.tm, rowW E (ad 22) (ad 23) 120 z.mn, rowW E (ad 24) (ad 25) 120 z.cm, rowW E (ad 26) (ad 27) 120 z.pl, rowW E (ad 28) (ad 29) 120 z.gr]) (Mid := [rowW E (ad 30) (ad 31) 120 z.rk]) (Rr := []) (Mid' := [rowW E (ad 30) (ad 31) 120 z.rk]) hE M rfl (List.append_nil _) (List.append_nil _) (fun hp => va_runV (As := [.int (nI (z.bel h))]) (rest := []) S (c_X2_get l E (ad 30) (ad 31) 120 z.rk (nI (z.bel h)) (by decide) _) (cwV 1 S.2.2.2.2 gX4_timeInTurn_X2_get rfl rfl rfl kd_X2_get ⟨Nat.le_of_ble_eq_true rfl, Nat.le_of_ble_eq_true rfl⟩) (hp.V hE (show vwCl[2]? = some (RX2, TX2, 1) from rfl) rfl) rfl rfl hl.1 rfl (lv_room (Nat.le_of_ble_eq_true rfl)) dX4_timeInTurn_64 ⟨Nat.zero_le _, Nat.zero_le _⟩) (fun H locs M => ?_)
      have M : gM E A s.heap [[(ad 15, .inr (4, [.ref (ad 16), .ref (ad 18), .ref (ad 20), .ref (ad 22), .ref (ad 24), .ref (ad 26), .ref (ad 28), .ref (ad 30), .int (nI z.ct)]))], rowW E (ad 16) (ad 17) 120 z.hd, rowW E (ad 18) (ad 19) 120 z.ps, rowW E (ad 20) (ad 21) 120 z.tm, rowW E (ad 22) (ad 23) 120 z.mn, rowW E (ad 24) (ad 25) 120 z.cm, rowW E (ad 26) (ad 27) 120 z.pl, rowW E (ad 28) (ad 29) 120 z.gr, rowW E (ad 30) (ad 31) 120 z.rk] H locs := M
      refine lv_istore (lv' := [(6, .int (rg 120 z.rk (nI (z.bel h)))), (5, .int (imax w ((rg 120 z.tm (rg 120 z.rk ((nI (z.bel h)) - 1))) - (20 * p)))), (4, .int (nI (z.bel h))), (0, .ref (ad 15)), (1, .int h), (2, .int p), (3, .int w)]) S.1 S.2.1 dX4_timeInTurn_67 hl (by decide) rfl (fun ls hl => ?_)
      refine lv_iload S.1 S.2.1 dX4_timeInTurn_69 (lv_at hl 1 rfl) ?_
      refine lv_aload_n S.1 S.2.1 dX4_timeInTurn_71 rfl (lv_at hl 3 rfl) ?_
      refine gget S hE M (C := RX4) (T := TX4) (N := 9) (ci := 4) (index := 23) hwi 0 rfl rfl 2 (by decide) (by decide +kernel) rfl dX4_timeInTurn_72 ?_
      refine lv_iload S.1 S.2.1 dX4_timeInTurn_75 (lv_at hl 0 rfl) ?_
      refine gcalli (L := [[(ad 15, .inr (4, [.ref (ad 16), .ref (ad 18), .ref (ad 20), .ref (ad 22), .ref (ad 24), .ref (ad 26), .ref (ad 28), .ref (ad 30), .int (nI z.ct)]))], rowW E (ad 16) (ad 17) 120 z.hd, rowW E (ad 18) (ad 19) 120 z.ps]) (Mid := [rowW E (ad 20) (ad 21) 120 z.tm]) (Rr := [rowW E (ad 22) (ad 23) 120 z.mn, rowW E (ad 24) (ad 25) 120 z.cm, rowW E (ad 26) (ad 27) 120 z.pl, rowW E (ad 28) (ad 29) 120 z.gr, rowW E (ad 30) (ad 31) 120 z.rk]) (Mid' := [rowW E (ad 20) (ad 21) 120 z.tm]) hE M rfl (List.append_nil _) (List.append_nil _) (fun hp => va_runV (As := [.int (rg 120 z.rk (nI (z.bel h)))]) (rest := [.int (imax w ((rg 120 z.tm (rg 120 z.rk ((nI (z.bel h)) - 1))) - (20 * p)))]) S (c_X2_get l E (ad 20) (ad 21) 120 z.tm (rg 120 z.rk (nI (z.bel h))) (by decide) _) (cwV 1 S.2.2.2.2 gX4_timeInTurn_X2_get rfl rfl rfl kd_X2_get ⟨Nat.le_of_ble_eq_true rfl, Nat.le_of_ble_eq_true rfl⟩) (hp.V hE (show vwCl[2]? = some (RX2, TX2, 1) from rfl) rfl) rfl rfl hl.1 rfl (lv_room (Nat.le_of_ble_eq_true rfl)) dX4_timeInTurn_77 ⟨Nat.zero_le _, Nat.zero_le _⟩) (fun H locs M => ?_)
      have M : gM E A s.heap [[(ad 15, .inr (4, [.ref (ad 16), .ref (ad 18), .ref (ad 20), .ref (ad 22), .ref (ad 24), .ref (ad 26), .ref (ad 28), .ref (ad 30), .int (nI z.ct)]))], rowW E (ad 16) (ad 17) 120 z.hd, rowW E (ad 18) (ad 19) 120 z.ps, rowW E (ad 20) (ad 21) 120 z.tm, rowW E (ad 22) (ad 23) 120 z.mn, rowW E (ad 24) (ad 25) 120 z.cm, rowW E (ad 26) (ad 27) 120 z.pl, rowW E (ad 28) (ad 29) 120 z.gr, rowW E (ad 30) (ad 31) 120 z.rk] H locs := M
      refine lv_bipush (v := 20) S.1 S.2.1 dX4_timeInTurn_80 (by decide) ?_
      refine lv_aload_n S.1 S.2.1 dX4_timeInTurn_82 rfl (lv_at hl 3 rfl) ?_
      refine gget S hE M (C := RX4) (T := TX4) (N := 9) (ci := 4) (index := 20) hwi 0 rfl rfl 1 (by decide) (by decide +kernel) rfl dX4_timeInTurn_83 ?_
      refine lv_iload S.1 S.2.1 dX4_timeInTurn_86 (lv_at hl 0 rfl) ?_
      refine gcalli (L := [[(ad 15, .inr (4, [.ref (ad 16), .ref (ad 18), .ref (ad 20), .ref (ad 22), .ref (ad 24), .ref (ad 26), .ref (ad 28), .ref (ad 30), .int (nI z.ct)]))], rowW E (ad 16) (ad 17) 120 z.hd]) (Mid := [rowW E (ad 18) (ad 19) 120 z.ps]) (Rr := [rowW E (ad 20) (ad 21) 120 z.tm, rowW E (ad 22) (ad 23) 120 z.mn, rowW E (ad 24) (ad 25) 120 z.cm, rowW E (ad 26) (ad 27) 120 z.pl, rowW E (ad 28) (ad 29) 120 z.gr, rowW E (ad 30) (ad 31) 120 z.rk]) (Mid' := [rowW E (ad 18) (ad 19) 120 z.ps]) hE M rfl (List.append_nil _) (List.append_nil _) (fun hp => va_runV (As := [.int (rg 120 z.rk (nI (z.bel h)))]) (rest := [.int 20, .int (rg 120 z.tm (rg 120 z.rk (nI (z.bel h)))), .int (imax w ((rg 120 z.tm (rg 120 z.rk ((nI (z.bel h)) - 1))) - (20 * p)))]) S (c_X2_get l E (ad 18) (ad 19) 120 z.ps (rg 120 z.rk (nI (z.bel h))) (by decide) _) (cwV 1 S.2.2.2.2 gX4_timeInTurn_X2_get rfl rfl rfl kd_X2_get ⟨Nat.le_of_ble_eq_true rfl, Nat.le_of_ble_eq_true rfl⟩) (hp.V hE (show vwCl[2]? = some (RX2, TX2, 1) from rfl) rfl) rfl rfl hl.1 rfl (lv_room (Nat.le_of_ble_eq_true rfl)) dX4_timeInTurn_88 ⟨Nat.zero_le _, Nat.zero_le _⟩) (fun H locs M => ?_)
      have M : gM E A s.heap [[(ad 15, .inr (4, [.ref (ad 16), .ref (ad 18), .ref (ad 20), .ref (ad 22), .ref (ad 24), .ref (ad 26), .ref (ad 28), .ref (ad 30), .int (nI z.ct)]))], rowW E (ad 16) (ad 17) 120 z.hd, rowW E (ad 18) (ad 19) 120 z.ps, rowW E (ad 20) (ad 21) 120 z.tm, rowW E (ad 22) (ad 23) 120 z.mn, rowW E (ad 24) (ad 25) 120 z.cm, rowW E (ad 26) (ad 27) 120 z.pl, rowW E (ad 28) (ad 29) 120 z.gr, rowW E (ad 30) (ad 31) 120 z.rk] H locs := M
      refine lv_imul S.1 S.2.1 dX4_timeInTurn_91 ?_
      refine lv_iadd S.1 S.2.1 dX4_timeInTurn_92 ?_
      refine va_mmin S.1 S.2.1 (by rw [hl.1]; exact S.2.2.1) S.2.2.2.1 (S.2.2.2.2 (.methodLink RX4 68 Lib.Math.min.name) (by decide +kernel)) (S.2.2.2.2 (.static Lib.Math.min.name) (by decide +kernel)) (S.2.2.2.2 (.initialized "java/lang/Math") (by decide +kernel)) (S.2.2.2.2 (.code Lib.Math.min.name Lib.Math.min.code 2 (some .int)) (by decide +kernel)) (Nat.le_of_ble_eq_true rfl) (Nat.le_of_ble_eq_true rfl) (Nat.zero_le _) (Nat.zero_le _) dX4_timeInTurn_93 ?_
      refine lv_istore (lv' := [(5, .int (imin (imax w ((rg 120 z.tm (rg 120 z.rk ((nI (z.bel h)) - 1))) - (20 * p))) ((rg 120 z.tm (rg 120 z.rk (nI (z.bel h)))) + (20 * (rg 120 z.ps (rg 120 z.rk (nI (z.bel h)))))))), (6, .int (rg 120 z.rk (nI (z.bel h)))), (4, .int (nI (z.bel h))), (0, .ref (ad 15)), (1, .int h), (2, .int p), (3, .int w)]) S.1 S.2.1 dX4_timeInTurn_96 hl (by decide) rfl (fun ls hl => ?_)
      refine lv_iload S.1 S.2.1 dX4_timeInTurn_98 (lv_at hl 0 rfl) ?_
      exact giret S hr hlk M (by unfold SpuS.turn SpuS.turn2 SpuS.turn1; rw [if_neg c12, if_neg c55]) (rfl) dX4_timeInTurn_100

set_option maxHeartbeats 4000000 in
set_option maxRecDepth 100000 in
theorem c_X4_add (l : Launch) (E : xE) (ad : Nat → Nat) (z : SpuS) (h : Int32) (p : Int32) (t : Int32) (m0 : Int32) (hc : z.ct ≤ 120) : mI l yX4_add wsX4_add (xrm 2 44) E [.ref (ad 15), .int h, .int p, .int t, .int m0] (spuGs E ad z) (nI z.ct) (spuGs E ad (SpuS.add z h p t m0)) := by
  intro sz
  refine Met.ofW (cc := cX4_add) (maxL := 8) (ret := (some .int)) (by decide +kernel) rfl ?_
  intro vp ve s vm args below meth vc s₁ B hml hv
  obtain ⟨rfl, S, hr, hlk, hnm, A, hA, hE, M⟩ := genter B hml hv
  rw [hA]
  obtain ⟨ls, hfr, hl⟩ := gst (m := vm) (as := [.ref (ad 15), .int h, .int p, .int t, .int m0]) (n := 8) (Nat.le_of_ble_eq_true rfl)
  rw [hfr]
  clear hfr hA
  have hl : lv_has ls 8 [(0, .ref (ad 15)), (1, .int h), (2, .int p), (3, .int t), (4, .int m0)] := hl
  have M : gM E A s.heap [[(ad 15, .inr (4, [.ref (ad 16), .ref (ad 18), .ref (ad 20), .ref (ad 22), .ref (ad 24), .ref (ad 26), .ref (ad 28), .ref (ad 30), .int (nI z.ct)]))], rowW E (ad 16) (ad 17) 120 z.hd, rowW E (ad 18) (ad 19) 120 z.ps, rowW E (ad 20) (ad 21) 120 z.tm, rowW E (ad 22) (ad 23) 120 z.mn, rowW E (ad 24) (ad 25) 120 z.cm, rowW E (ad 26) (ad 27) 120 z.pl, rowW E (ad 28) (ad 29) 120 z.gr, rowW E (ad 30) (ad 31) 120 z.rk] s.heap [] := M
  have hwi : ∀ w ∈ u_ws RX4 TX4 9, w ∈ wsX4_add := by decide +kernel
  have hbl := z.bel_le h
  obtain ⟨Q, hQ⟩ : ∃ Q : State → Prop, MQ below (va_Qi (fun x (_ : Unit) => x = (nI z.ct)) (fun _ => kQ E A (spuGs E ad (SpuS.add z h p t m0))) A) ([.ref (ad 15), .int h, .int p, .int t, .int m0] : List Value).toArray s 0 0 A = Q := ⟨_, rfl⟩
  rw [hQ]
  have hL : ∀ (n : Nat), ∀ (r : Nat) (f : Nat → Int32), r = z.bel h + n → r ≤ z.ct → shf (z.ct - z.bel h) z.ct z.rk = shf n r f → ∀ (H : Heap) (locs : List Loc), gM E A s.heap [[(ad 15, .inr (4, [.ref (ad 16), .ref (ad 18), .ref (ad 20), .ref (ad 22), .ref (ad 24), .ref (ad 26), .ref (ad 28), .ref (ad 30), .int (nI z.ct)]))], rowW E (ad 16) (ad 17) 120 z.hd, rowW E (ad 18) (ad 19) 120 z.ps, rowW E (ad 20) (ad 21) 120 z.tm, rowW E (ad 22) (ad 23) 120 z.mn, rowW E (ad 24) (ad 25) 120 z.cm, rowW E (ad 26) (ad 27) 120 z.pl, rowW E (ad 28) (ad 29) 120 z.gr, rowW E (ad 30) (ad 31) 120 f] H locs → ∀ ls : Array Slot, lv_has ls 8 [(0, .ref (ad 15)), (1, .int h), (2, .int p), (3, .int t), (4, .int m0), (5, .int (nI z.ct)), (6, .int (nI (z.bel h))), (7, .int (nI r))] → W vp l ve (headSpec wsX4_add (xrm 2 44)).room s vm ([.ref (ad 15), .int h, .int p, .int t, .int m0] : List Value).toArray below meth vc H locs 0 0 Q (F0 vm 19 ls []) := by
    intro n
    induction n with
    | zero =>
      intro r f hi hj hI H locs M ls hl
      refine lv_iload S.1 S.2.1 dX4_add_19 (lv_at hl 7 rfl) ?_
      refine lv_iload S.1 S.2.1 dX4_add_21 (lv_at hl 6 rfl) ?_
      refine lv_icmp_le (tgt := 52) S.1 S.2.1 dX4_add_23 (by decide) (fun _ => ?_) (fun c_ => absurd (nI_le (by omega) (by omega)) c_)
      refine lv_aload_n S.1 S.2.1 dX4_add_52 rfl (lv_at hl 0 rfl) ?_
      refine gget S hE M (C := RX4) (T := TX4) (N := 9) (ci := 4) (index := 38) hwi 0 rfl rfl 7 (by decide) (by decide +kernel) rfl dX4_add_53 ?_
      refine lv_iload S.1 S.2.1 dX4_add_56 (lv_at hl 6 rfl) ?_
      refine lv_iload S.1 S.2.1 dX4_add_58 (lv_at hl 5 rfl) ?_
      refine gcallv (L := [[(ad 15, .inr (4, [.ref (ad 16), .ref (ad 18), .ref (ad 20), .ref (ad 22), .ref (ad 24), .ref (ad 26), .ref (ad 28), .ref (ad 30), .int (nI z.ct)]))], rowW E (ad 16) (ad 17) 120 z.hd, rowW E (ad 18) (ad 19) 120 z.ps, rowW E (ad 20) (ad 21) 120 z.tm, rowW E (ad 22) (ad 23) 120 z.mn, rowW E (ad 24) (ad 25) 120 z.cm, rowW E (ad 26) (ad 27) 120 z.pl, rowW E (ad 28) (ad 29) 120 z.gr]) (Mid := [rowW E (ad 30) (ad 31) 120 f]) (Rr := []) (Mid' := [rowW E (ad 30) (ad 31) 120 (rs 120 f (nI (z.bel h)) (nI z.ct))]) hE M rfl (List.append_nil _) (List.append_nil _) (fun hp => va_runV (As := [.int (nI (z.bel h)), .int (nI z.ct)]) (rest := []) S (c_X2_set l E (ad 30) (ad 31) 120 f (nI (z.bel h)) (nI z.ct) (by decide) _) (cwV 2 S.2.2.2.2 gX4_add_X2_set rfl rfl rfl kd_X2_set ⟨Nat.le_of_ble_eq_true rfl, Nat.le_of_ble_eq_true rfl⟩) (hp.V hE (show vwCl[2]? = some (RX2, TX2, 1) from rfl) rfl) rfl rfl hl.1 rfl (lv_room (Nat.le_of_ble_eq_true rfl)) dX4_add_60 ⟨Nat.zero_le _, Nat.zero_le _⟩) (fun H locs M => ?_)
      have M : gM E A s.heap [[(ad 15, .inr (4, [.ref (ad 16), .ref (ad 18), .ref (ad 20), .ref (ad 22), .ref (ad 24), .ref (ad 26), .ref (ad 28), .ref (ad 30), .int (nI z.ct)]))], rowW E (ad 16) (ad 17) 120 z.hd, rowW E (ad 18) (ad 19) 120 z.ps, rowW E (ad 20) (ad 21) 120 z.tm, rowW E (ad 22) (ad 23) 120 z.mn, rowW E (ad 24) (ad 25) 120 z.cm, rowW E (ad 26) (ad 27) 120 z.pl, rowW E (ad 28) (ad 29) 120 z.gr, rowW E (ad 30) (ad 31) 120 (rs 120 f (nI (z.bel h)) (nI z.ct))] H locs := M
      refine lv_aload_n S.1 S.2.1 dX4_add_63 rfl (lv_at hl 0 rfl) ?_
      refine gget S hE M (C := RX4) (T := TX4) (N := 9) (ci := 4) (index := 14) hwi 0 rfl rfl 0 (by decide) (by decide +kernel) rfl dX4_add_64 ?_
      refine lv_iload S.1 S.2.1 dX4_add_67 (lv_at hl 5 rfl) ?_
      refine lv_iload_n S.1 S.2.1 dX4_add_69 rfl (lv_at hl 1 rfl) ?_
      refine gcallv (L := [[(ad 15, .inr (4, [.ref (ad 16), .ref (ad 18), .ref (ad 20), .ref (ad 22), .ref (ad 24), .ref (ad 26), .ref (ad 28), .ref (ad 30), .int (nI z.ct)]))]]) (Mid := [rowW E (ad 16) (ad 17) 120 z.hd]) (Rr := [rowW E (ad 18) (ad 19) 120 z.ps, rowW E (ad 20) (ad 21) 120 z.tm, rowW E (ad 22) (ad 23) 120 z.mn, rowW E (ad 24) (ad 25) 120 z.cm, rowW E (ad 26) (ad 27) 120 z.pl, rowW E (ad 28) (ad 29) 120 z.gr, rowW E (ad 30) (ad 31) 120 (rs 120 f (nI (z.bel h)) (nI z.ct))]) (Mid' := [rowW E (ad 16) (ad 17) 120 (rs 120 z.hd (nI z.ct) h)]) hE M rfl (List.append_nil _) (List.append_nil _) (fun hp => va_runV (As := [.int (nI z.ct), .int h]) (rest := []) S (c_X2_set l E (ad 16) (ad 17) 120 z.hd (nI z.ct) h (by decide) _) (cwV 2 S.2.2.2.2 gX4_add_X2_set rfl rfl rfl kd_X2_set ⟨Nat.le_of_ble_eq_true rfl, Nat.le_of_ble_eq_true rfl⟩) (hp.V hE (show vwCl[2]? = some (RX2, TX2, 1) from rfl) rfl) rfl rfl hl.1 rfl (lv_room (Nat.le_of_ble_eq_true rfl)) dX4_add_70 ⟨Nat.zero_le _, Nat.zero_le _⟩) (fun H locs M => ?_)
      have M : gM E A s.heap [[(ad 15, .inr (4, [.ref (ad 16), .ref (ad 18), .ref (ad 20), .ref (ad 22), .ref (ad 24), .ref (ad 26), .ref (ad 28), .ref (ad 30), .int (nI z.ct)]))], rowW E (ad 16) (ad 17) 120 (rs 120 z.hd (nI z.ct) h), rowW E (ad 18) (ad 19) 120 z.ps, rowW E (ad 20) (ad 21) 120 z.tm, rowW E (ad 22) (ad 23) 120 z.mn, rowW E (ad 24) (ad 25) 120 z.cm, rowW E (ad 26) (ad 27) 120 z.pl, rowW E (ad 28) (ad 29) 120 z.gr, rowW E (ad 30) (ad 31) 120 (rs 120 f (nI (z.bel h)) (nI z.ct))] H locs := M
      refine lv_aload_n S.1 S.2.1 dX4_add_73 rfl (lv_at hl 0 rfl) ?_
      refine gget S hE M (C := RX4) (T := TX4) (N := 9) (ci := 4) (index := 20) hwi 0 rfl rfl 1 (by decide) (by decide +kernel) rfl dX4_add_74 ?_
      refine lv_iload S.1 S.2.1 dX4_add_77 (lv_at hl 5 rfl) ?_
      refine lv_iload_n S.1 S.2.1 dX4_add_79 rfl (lv_at hl 2 rfl) ?_
      refine gcallv (L := [[(ad 15, .inr (4, [.ref (ad 16), .ref (ad 18), .ref (ad 20), .ref (ad 22), .ref (ad 24), .ref (ad 26), .ref (ad 28), .ref (ad 30), .int (nI z.ct)]))], rowW E (ad 16) (ad 17) 120 (rs 120 z.hd (nI z.ct) h)]) (Mid := [rowW E (ad 18) (ad 19) 120 z.ps]) (Rr := [rowW E (ad 20) (ad 21) 120 z.tm, rowW E (ad 22) (ad 23) 120 z.mn, rowW E (ad 24) (ad 25) 120 z.cm, rowW E (ad 26) (ad 27) 120 z.pl, rowW E (ad 28) (ad 29) 120 z.gr, rowW E (ad 30) (ad 31) 120 (rs 120 f (nI (z.bel h)) (nI z.ct))]) (Mid' := [rowW E (ad 18) (ad 19) 120 (rs 120 z.ps (nI z.ct) p)]) hE M rfl (List.append_nil _) (List.append_nil _) (fun hp => va_runV (As := [.int (nI z.ct), .int p]) (rest := []) S (c_X2_set l E (ad 18) (ad 19) 120 z.ps (nI z.ct) p (by decide) _) (cwV 2 S.2.2.2.2 gX4_add_X2_set rfl rfl rfl kd_X2_set ⟨Nat.le_of_ble_eq_true rfl, Nat.le_of_ble_eq_true rfl⟩) (hp.V hE (show vwCl[2]? = some (RX2, TX2, 1) from rfl) rfl) rfl rfl hl.1 rfl (lv_room (Nat.le_of_ble_eq_true rfl)) dX4_add_80 ⟨Nat.zero_le _, Nat.zero_le _⟩) (fun H locs M => ?_)
      have M : gM E A s.heap [[(ad 15, .inr (4, [.ref (ad 16), .ref (ad 18), .ref (ad 20), .ref (ad 22), .ref (ad 24), .ref (ad 26), .ref (ad 28), .ref (ad 30), .int (nI z.ct)]))], rowW E (ad 16) (ad 17) 120 (rs 120 z.hd (nI z.ct) h), rowW E (ad 18) (ad 19) 120 (rs 120 z.ps (nI z.ct) p), rowW E (ad 20) (ad 21) 120 z.tm, rowW E (ad 22) (ad 23) 120 z.mn, rowW E (ad 24) (ad 25) 120 z.cm, rowW E (ad 26) (ad 27) 120 z.pl, rowW E (ad 28) (ad 29) 120 z.gr, rowW E (ad 30) (ad 31) 120 (rs 120 f (nI (z.bel h)) (nI z.ct))] H locs := M
      refine lv_aload_n S.1 S.2.1 dX4_add_83 rfl (lv_at hl 0 rfl) ?_
      refine gget S hE M (C := RX4) (T := TX4) (N := 9) (ci := 4) (index := 23) hwi 0 rfl rfl 2 (by decide) (by decide +kernel) rfl dX4_add_84 ?_
      refine lv_iload S.1 S.2.1 dX4_add_87 (lv_at hl 5 rfl) ?_
      refine lv_iload_n S.1 S.2.1 dX4_add_89 rfl (lv_at hl 3 rfl) ?_
      refine gcallv (L := [[(ad 15, .inr (4, [.ref (ad 16), .ref (ad 18), .ref (ad 20), .ref (ad 22), .ref (ad 24), .ref (ad 26), .ref (ad 28), .ref (ad 30), .int (nI z.ct)]))], rowW E (ad 16) (ad 17) 120 (rs 120 z.hd (nI z.ct) h), rowW E (ad 18) (ad 19) 120 (rs 120 z.ps (nI z.ct) p)]) (Mid := [rowW E (ad 20) (ad 21) 120 z.tm]) (Rr := [rowW E (ad 22) (ad 23) 120 z.mn, rowW E (ad 24) (ad 25) 120 z.cm, rowW E (ad 26) (ad 27) 120 z.pl, rowW E (ad 28) (ad 29) 120 z.gr, rowW E (ad 30) (ad 31) 120 (rs 120 f (nI (z.bel h)) (nI z.ct))]) (Mid' := [rowW E (ad 20) (ad 21) 120 (rs 120 z.tm (nI z.ct) t)]) hE M rfl (List.append_nil _) (List.append_nil _) (fun hp => va_runV (As := [.int (nI z.ct), .int t]) (rest := []) S (c_X2_set l E (ad 20) (ad 21) 120 z.tm (nI z.ct) t (by decide) _) (cwV 2 S.2.2.2.2 gX4_add_X2_set rfl rfl rfl kd_X2_set ⟨Nat.le_of_ble_eq_true rfl, Nat.le_of_ble_eq_true rfl⟩) (hp.V hE (show vwCl[2]? = some (RX2, TX2, 1) from rfl) rfl) rfl rfl hl.1 rfl (lv_room (Nat.le_of_ble_eq_true rfl)) dX4_add_90 ⟨Nat.zero_le _, Nat.zero_le _⟩) (fun H locs M => ?_)
      have M : gM E A s.heap [[(ad 15, .inr (4, [.ref (ad 16), .ref (ad 18), .ref (ad 20), .ref (ad 22), .ref (ad 24), .ref (ad 26), .ref (ad 28), .ref (ad 30), .int (nI z.ct)]))], rowW E (ad 16) (ad 17) 120 (rs 120 z.hd (nI z.ct) h), rowW E (ad 18) (ad 19) 120 (rs 120 z.ps (nI z.ct) p), rowW E (ad 20) (ad 21) 120 (rs 120 z.tm (nI z.ct) t), rowW E (ad 22) (ad 23) 120 z.mn, rowW E (ad 24) (ad 25) 120 z.cm, rowW E (ad 26) (ad 27) 120 z.pl, rowW E (ad 28) (ad 29) 120 z.gr, rowW E (ad 30) (ad 31) 120 (rs 120 f (nI (z.bel h)) (nI z.ct))] H locs := M
      refine lv_aload_n S.1 S.2.1 dX4_add_93 rfl (lv_at hl 0 rfl) ?_
      refine gget S hE M (C := RX4) (T := TX4) (N := 9) (ci := 4) (index := 26) hwi 0 rfl rfl 3 (by decide) (by decide +kernel) rfl dX4_add_94 ?_
      refine lv_iload S.1 S.2.1 dX4_add_97 (lv_at hl 5 rfl) ?_
      refine lv_iload S.1 S.2.1 dX4_add_99 (lv_at hl 4 rfl) ?_
      refine gcallv (L := [[(ad 15, .inr (4, [.ref (ad 16), .ref (ad 18), .ref (ad 20), .ref (ad 22), .ref (ad 24), .ref (ad 26), .ref (ad 28), .ref (ad 30), .int (nI z.ct)]))], rowW E (ad 16) (ad 17) 120 (rs 120 z.hd (nI z.ct) h), rowW E (ad 18) (ad 19) 120 (rs 120 z.ps (nI z.ct) p), rowW E (ad 20) (ad 21) 120 (rs 120 z.tm (nI z.ct) t)]) (Mid := [rowW E (ad 22) (ad 23) 120 z.mn]) (Rr := [rowW E (ad 24) (ad 25) 120 z.cm, rowW E (ad 26) (ad 27) 120 z.pl, rowW E (ad 28) (ad 29) 120 z.gr, rowW E (ad 30) (ad 31) 120 (rs 120 f (nI (z.bel h)) (nI z.ct))]) (Mid' := [rowW E (ad 22) (ad 23) 120 (rs 120 z.mn (nI z.ct) m0)]) hE M rfl (List.append_nil _) (List.append_nil _) (fun hp => va_runV (As := [.int (nI z.ct), .int m0]) (rest := []) S (c_X2_set l E (ad 22) (ad 23) 120 z.mn (nI z.ct) m0 (by decide) _) (cwV 2 S.2.2.2.2 gX4_add_X2_set rfl rfl rfl kd_X2_set ⟨Nat.le_of_ble_eq_true rfl, Nat.le_of_ble_eq_true rfl⟩) (hp.V hE (show vwCl[2]? = some (RX2, TX2, 1) from rfl) rfl) rfl rfl hl.1 rfl (lv_room (Nat.le_of_ble_eq_true rfl)) dX4_add_101 ⟨Nat.zero_le _, Nat.zero_le _⟩) (fun H locs M => ?_)
      have M : gM E A s.heap [[(ad 15, .inr (4, [.ref (ad 16), .ref (ad 18), .ref (ad 20), .ref (ad 22), .ref (ad 24), .ref (ad 26), .ref (ad 28), .ref (ad 30), .int (nI z.ct)]))], rowW E (ad 16) (ad 17) 120 (rs 120 z.hd (nI z.ct) h), rowW E (ad 18) (ad 19) 120 (rs 120 z.ps (nI z.ct) p), rowW E (ad 20) (ad 21) 120 (rs 120 z.tm (nI z.ct) t), rowW E (ad 22) (ad 23) 120 (rs 120 z.mn (nI z.ct) m0), rowW E (ad 24) (ad 25) 120 z.cm, rowW E (ad 26) (ad 27) 120 z.pl, rowW E (ad 28) (ad 29) 120 z.gr, rowW E (ad 30) (ad 31) 120 (rs 120 f (nI (z.bel h)) (nI z.ct))] H locs := M
      refine lv_aload_n S.1 S.2.1 dX4_add_104 rfl (lv_at hl 0 rfl) ?_
      refine gget S hE M (C := RX4) (T := TX4) (N := 9) (ci := 4) (index := 29) hwi 0 rfl rfl 4 (by decide) (by decide +kernel) rfl dX4_add_105 ?_
      refine lv_iload S.1 S.2.1 dX4_add_108 (lv_at hl 5 rfl) ?_
      refine lv_iconst (v := 0) S.1 S.2.1 dX4_add_110 (by decide) ?_
      refine gcallv (L := [[(ad 15, .inr (4, [.ref (ad 16), .ref (ad 18), .ref (ad 20), .ref (ad 22), .ref (ad 24), .ref (ad 26), .ref (ad 28), .ref (ad 30), .int (nI z.ct)]))], rowW E (ad 16) (ad 17) 120 (rs 120 z.hd (nI z.ct) h), rowW E (ad 18) (ad 19) 120 (rs 120 z.ps (nI z.ct) p), rowW E (ad 20) (ad 21) 120 (rs 120 z.tm (nI z.ct) t), rowW E (ad 22) (ad 23) 120 (rs 120 z.mn (nI z.ct) m0)]) (Mid := [rowW E (ad 24) (ad 25) 120 z.cm]) (Rr := [rowW E (ad 26) (ad 27) 120 z.pl, rowW E (ad 28) (ad 29) 120 z.gr, rowW E (ad 30) (ad 31) 120 (rs 120 f (nI (z.bel h)) (nI z.ct))]) (Mid' := [rowW E (ad 24) (ad 25) 120 (rs 120 z.cm (nI z.ct) 0)]) hE M rfl (List.append_nil _) (List.append_nil _) (fun hp => va_runV (As := [.int (nI z.ct), .int 0]) (rest := []) S (c_X2_set l E (ad 24) (ad 25) 120 z.cm (nI z.ct) 0 (by decide) _) (cwV 2 S.2.2.2.2 gX4_add_X2_set rfl rfl rfl kd_X2_set ⟨Nat.le_of_ble_eq_true rfl, Nat.le_of_ble_eq_true rfl⟩) (hp.V hE (show vwCl[2]? = some (RX2, TX2, 1) from rfl) rfl) rfl rfl hl.1 rfl (lv_room (Nat.le_of_ble_eq_true rfl)) dX4_add_111 ⟨Nat.zero_le _, Nat.zero_le _⟩) (fun H locs M => ?_)
      have M : gM E A s.heap [[(ad 15, .inr (4, [.ref (ad 16), .ref (ad 18), .ref (ad 20), .ref (ad 22), .ref (ad 24), .ref (ad 26), .ref (ad 28), .ref (ad 30), .int (nI z.ct)]))], rowW E (ad 16) (ad 17) 120 (rs 120 z.hd (nI z.ct) h), rowW E (ad 18) (ad 19) 120 (rs 120 z.ps (nI z.ct) p), rowW E (ad 20) (ad 21) 120 (rs 120 z.tm (nI z.ct) t), rowW E (ad 22) (ad 23) 120 (rs 120 z.mn (nI z.ct) m0), rowW E (ad 24) (ad 25) 120 (rs 120 z.cm (nI z.ct) 0), rowW E (ad 26) (ad 27) 120 z.pl, rowW E (ad 28) (ad 29) 120 z.gr, rowW E (ad 30) (ad 31) 120 (rs 120 f (nI (z.bel h)) (nI z.ct))] H locs := M
      refine lv_aload_n S.1 S.2.1 dX4_add_114 rfl (lv_at hl 0 rfl) ?_
      refine gget S hE M (C := RX4) (T := TX4) (N := 9) (ci := 4) (index := 32) hwi 0 rfl rfl 5 (by decide) (by decide +kernel) rfl dX4_add_115 ?_
      refine lv_iload S.1 S.2.1 dX4_add_118 (lv_at hl 5 rfl) ?_
      refine lv_iconst (v := 0) S.1 S.2.1 dX4_add_120 (by decide) ?_
      refine gcallv (L := [[(ad 15, .inr (4, [.ref (ad 16), .ref (ad 18), .ref (ad 20), .ref (ad 22), .ref (ad 24), .ref (ad 26), .ref (ad 28), .ref (ad 30), .int (nI z.ct)]))], rowW E (ad 16) (ad 17) 120 (rs 120 z.hd (nI z.ct) h), rowW E (ad 18) (ad 19) 120 (rs 120 z.ps (nI z.ct) p), rowW E (ad 20) (ad 21) 120 (rs 120 z.tm (nI z.ct) t), rowW E (ad 22) (ad 23) 120 (rs 120 z.mn (nI z.ct) m0), rowW E (ad 24) (ad 25) 120 (rs 120 z.cm (nI z.ct) 0)]) (Mid := [rowW E (ad 26) (ad 27) 120 z.pl]) (Rr := [rowW E (ad 28) (ad 29) 120 z.gr, rowW E (ad 30) (ad 31) 120 (rs 120 f (nI (z.bel h)) (nI z.ct))]) (Mid' := [rowW E (ad 26) (ad 27) 120 (rs 120 z.pl (nI z.ct) 0)]) hE M rfl (List.append_nil _) (List.append_nil _) (fun hp => va_runV (As := [.int (nI z.ct), .int 0]) (rest := []) S (c_X2_set l E (ad 26) (ad 27) 120 z.pl (nI z.ct) 0 (by decide) _) (cwV 2 S.2.2.2.2 gX4_add_X2_set rfl rfl rfl kd_X2_set ⟨Nat.le_of_ble_eq_true rfl, Nat.le_of_ble_eq_true rfl⟩) (hp.V hE (show vwCl[2]? = some (RX2, TX2, 1) from rfl) rfl) rfl rfl hl.1 rfl (lv_room (Nat.le_of_ble_eq_true rfl)) dX4_add_121 ⟨Nat.zero_le _, Nat.zero_le _⟩) (fun H locs M => ?_)
      have M : gM E A s.heap [[(ad 15, .inr (4, [.ref (ad 16), .ref (ad 18), .ref (ad 20), .ref (ad 22), .ref (ad 24), .ref (ad 26), .ref (ad 28), .ref (ad 30), .int (nI z.ct)]))], rowW E (ad 16) (ad 17) 120 (rs 120 z.hd (nI z.ct) h), rowW E (ad 18) (ad 19) 120 (rs 120 z.ps (nI z.ct) p), rowW E (ad 20) (ad 21) 120 (rs 120 z.tm (nI z.ct) t), rowW E (ad 22) (ad 23) 120 (rs 120 z.mn (nI z.ct) m0), rowW E (ad 24) (ad 25) 120 (rs 120 z.cm (nI z.ct) 0), rowW E (ad 26) (ad 27) 120 (rs 120 z.pl (nI z.ct) 0), rowW E (ad 28) (ad 29) 120 z.gr, rowW E (ad 30) (ad 31) 120 (rs 120 f (nI (z.bel h)) (nI z.ct))] H locs := M
      refine lv_aload_n S.1 S.2.1 dX4_add_124 rfl (lv_at hl 0 rfl) ?_
      refine gget S hE M (C := RX4) (T := TX4) (N := 9) (ci := 4) (index := 35) hwi 0 rfl rfl 6 (by decide) (by decide +kernel) rfl dX4_add_125 ?_
      refine lv_iload S.1 S.2.1 dX4_add_128 (lv_at hl 5 rfl) ?_
      refine lv_iload_n S.1 S.2.1 dX4_add_130 rfl (lv_at hl 1 rfl) ?_
      refine gcallv (L := [[(ad 15, .inr (4, [.ref (ad 16), .ref (ad 18), .ref (ad 20), .ref (ad 22), .ref (ad 24), .ref (ad 26), .ref (ad 28), .ref (ad 30), .int (nI z.ct)]))], rowW E (ad 16) (ad 17) 120 (rs 120 z.hd (nI z.ct) h), rowW E (ad 18) (ad 19) 120 (rs 120 z.ps (nI z.ct) p), rowW E (ad 20) (ad 21) 120 (rs 120 z.tm (nI z.ct) t), rowW E (ad 22) (ad 23) 120 (rs 120 z.mn (nI z.ct) m0), rowW E (ad 24) (ad 25) 120 (rs 120 z.cm (nI z.ct) 0), rowW E (ad 26) (ad 27) 120 (rs 120 z.pl (nI z.ct) 0)]) (Mid := [rowW E (ad 28) (ad 29) 120 z.gr]) (Rr := [rowW E (ad 30) (ad 31) 120 (rs 120 f (nI (z.bel h)) (nI z.ct))]) (Mid' := [rowW E (ad 28) (ad 29) 120 (rs 120 z.gr (nI z.ct) h)]) hE M rfl (List.append_nil _) (List.append_nil _) (fun hp => va_runV (As := [.int (nI z.ct), .int h]) (rest := []) S (c_X2_set l E (ad 28) (ad 29) 120 z.gr (nI z.ct) h (by decide) _) (cwV 2 S.2.2.2.2 gX4_add_X2_set rfl rfl rfl kd_X2_set ⟨Nat.le_of_ble_eq_true rfl, Nat.le_of_ble_eq_true rfl⟩) (hp.V hE (show vwCl[2]? = some (RX2, TX2, 1) from rfl) rfl) rfl rfl hl.1 rfl (lv_room (Nat.le_of_ble_eq_true rfl)) dX4_add_131 ⟨Nat.zero_le _, Nat.zero_le _⟩) (fun H locs M => ?_)
      have M : gM E A s.heap [[(ad 15, .inr (4, [.ref (ad 16), .ref (ad 18), .ref (ad 20), .ref (ad 22), .ref (ad 24), .ref (ad 26), .ref (ad 28), .ref (ad 30), .int (nI z.ct)]))], rowW E (ad 16) (ad 17) 120 (rs 120 z.hd (nI z.ct) h), rowW E (ad 18) (ad 19) 120 (rs 120 z.ps (nI z.ct) p), rowW E (ad 20) (ad 21) 120 (rs 120 z.tm (nI z.ct) t), rowW E (ad 22) (ad 23) 120 (rs 120 z.mn (nI z.ct) m0), rowW E (ad 24) (ad 25) 120 (rs 120 z.cm (nI z.ct) 0), rowW E (ad 26) (ad 27) 120 (rs 120 z.pl (nI z.ct) 0), rowW E (ad 28) (ad 29) 120 (rs 120 z.gr (nI z.ct) h), rowW E (ad 30) (ad 31) 120 (rs 120 f (nI (z.bel h)) (nI z.ct))] H locs := M
      refine lv_aload_n S.1 S.2.1 dX4_add_134 rfl (lv_at hl 0 rfl) ?_
      refine lv_dup S.1 S.2.1 dX4_add_135 rfl ?_
      refine gget S hE M (C := RX4) (T := TX4) (N := 9) (ci := 4) (index := 41) hwi 0 rfl rfl 8 (by decide) (by decide +kernel) rfl dX4_add_136 ?_
      refine lv_iconst (v := 1) S.1 S.2.1 dX4_add_139 (by decide) ?_
      refine lv_iadd S.1 S.2.1 dX4_add_140 ?_
      refine gtop (x' := nI (z.ct + 1)) (nI_1 _) ?_
      refine gput S hE M (C := RX4) (T := TX4) (N := 9) (ci := 4) (index := 41) (Gs' := [[(ad 15, .inr (4, [.ref (ad 16), .ref (ad 18), .ref (ad 20), .ref (ad 22), .ref (ad 24), .ref (ad 26), .ref (ad 28), .ref (ad 30), .int (nI (z.ct + 1))]))], rowW E (ad 16) (ad 17) 120 (rs 120 z.hd (nI z.ct) h), rowW E (ad 18) (ad 19) 120 (rs 120 z.ps (nI z.ct) p), rowW E (ad 20) (ad 21) 120 (rs 120 z.tm (nI z.ct) t), rowW E (ad 22) (ad 23) 120 (rs 120 z.mn (nI z.ct) m0), rowW E (ad 24) (ad 25) 120 (rs 120 z.cm (nI z.ct) 0), rowW E (ad 26) (ad 27) 120 (rs 120 z.pl (nI z.ct) 0), rowW E (ad 28) (ad 29) 120 (rs 120 z.gr (nI z.ct) h), rowW E (ad 30) (ad 31) 120 (rs 120 f (nI (z.bel h)) (nI z.ct))]) hwi tyX4 tyX4_ok nmX4 0 rfl rfl 8 (by decide) (by decide +kernel) rfl rfl rfl (Nat.le_of_ble_eq_true rfl) rfl dX4_add_141 (fun H locs M => ?_)
      refine lv_iload S.1 S.2.1 dX4_add_144 (lv_at hl 5 rfl) ?_
      rw [← hQ]
      exact giret S hr hlk M (rfl) (by unfold SpuS.add; rw [hI, shf]; rfl) dX4_add_146
    | succ n ih =>
      intro r f hi hj hI H locs M ls hl
      refine lv_iload S.1 S.2.1 dX4_add_19 (lv_at hl 7 rfl) ?_
      refine lv_iload S.1 S.2.1 dX4_add_21 (lv_at hl 6 rfl) ?_
      refine lv_icmp_le (tgt := 52) S.1 S.2.1 dX4_add_23 (by decide) (fun c_ => absurd c_ (nI_ge (by omega) (by omega))) (fun _ => ?_)
      refine lv_aload_n S.1 S.2.1 dX4_add_26 rfl (lv_at hl 0 rfl) ?_
      refine gget S hE M (C := RX4) (T := TX4) (N := 9) (ci := 4) (index := 38) hwi 0 rfl rfl 7 (by decide) (by decide +kernel) rfl dX4_add_27 ?_
      refine lv_iload S.1 S.2.1 dX4_add_30 (lv_at hl 7 rfl) ?_
      refine lv_aload_n S.1 S.2.1 dX4_add_32 rfl (lv_at hl 0 rfl) ?_
      refine gget S hE M (C := RX4) (T := TX4) (N := 9) (ci := 4) (index := 38) hwi 0 rfl rfl 7 (by decide) (by decide +kernel) rfl dX4_add_33 ?_
      refine lv_iload S.1 S.2.1 dX4_add_36 (lv_at hl 7 rfl) ?_
      refine lv_iconst (v := 1) S.1 S.2.1 dX4_add_38 (by decide) ?_
      refine lv_isub S.1 S.2.1 dX4_add_39 ?_
      refine gcalli (L := [[(ad 15, .inr (4, [.ref (ad 16), .ref (ad 18), .ref (ad 20), .ref (ad 22), .ref (ad 24), .ref (ad 26), .ref (ad 28), .ref (ad 30), .int (nI z.ct)]))], rowW E (ad 16) (ad 17) 120 z.hd, rowW E (ad 18) (ad 19) 120 z.ps, rowW E (ad 20) (ad 21) 120 z.tm, rowW E (ad 22) (ad 23) 120 z.mn, rowW E (ad 24) (ad 25) 120 z.cm, rowW E (ad 26) (ad 27) 120 z.pl, rowW E (ad 28) (ad 29) 120 z.gr]) (Mid := [rowW E (ad 30) (ad 31) 120 f]) (Rr := []) (Mid' := [rowW E (ad 30) (ad 31) 120 f]) hE M rfl (List.append_nil _) (List.append_nil _) (fun hp => va_runV (As := [.int ((nI r) - 1)]) (rest := [.int (nI r), .ref (ad 30)]) S (c_X2_get l E (ad 30) (ad 31) 120 f ((nI r) - 1) (by decide) _) (cwV 1 S.2.2.2.2 gX4_add_X2_get rfl rfl rfl kd_X2_get ⟨Nat.le_of_ble_eq_true rfl, Nat.le_of_ble_eq_true rfl⟩) (hp.V hE (show vwCl[2]? = some (RX2, TX2, 1) from rfl) rfl) rfl rfl hl.1 rfl (lv_room (Nat.le_of_ble_eq_true rfl)) dX4_add_40 ⟨Nat.zero_le _, Nat.zero_le _⟩) (fun H locs M => ?_)
      have M : gM E A s.heap [[(ad 15, .inr (4, [.ref (ad 16), .ref (ad 18), .ref (ad 20), .ref (ad 22), .ref (ad 24), .ref (ad 26), .ref (ad 28), .ref (ad 30), .int (nI z.ct)]))], rowW E (ad 16) (ad 17) 120 z.hd, rowW E (ad 18) (ad 19) 120 z.ps, rowW E (ad 20) (ad 21) 120 z.tm, rowW E (ad 22) (ad 23) 120 z.mn, rowW E (ad 24) (ad 25) 120 z.cm, rowW E (ad 26) (ad 27) 120 z.pl, rowW E (ad 28) (ad 29) 120 z.gr, rowW E (ad 30) (ad 31) 120 f] H locs := M
      refine gcallv (L := [[(ad 15, .inr (4, [.ref (ad 16), .ref (ad 18), .ref (ad 20), .ref (ad 22), .ref (ad 24), .ref (ad 26), .ref (ad 28), .ref (ad 30), .int (nI z.ct)]))], rowW E (ad 16) (ad 17) 120 z.hd, rowW E (ad 18) (ad 19) 120 z.ps, rowW E (ad 20) (ad 21) 120 z.tm, rowW E (ad 22) (ad 23) 120 z.mn, rowW E (ad 24) (ad 25) 120 z.cm, rowW E (ad 26) (ad 27) 120 z.pl, rowW E (ad 28) (ad 29) 120 z.gr]) (Mid := [rowW E (ad 30) (ad 31) 120 f]) (Rr := []) (Mid' := [rowW E (ad 30) (ad 31) 120 (rs 120 f (nI r) (rg 120 f ((nI r) - 1)))]) hE M rfl (List.append_nil _) (List.append_nil _) (fun hp => va_runV (As := [.int (nI r), .int (rg 120 f ((nI r) - 1))]) (rest := []) S (c_X2_set l E (ad 30) (ad 31) 120 f (nI r) (rg 120 f ((nI r) - 1)) (by decide) _) (cwV 2 S.2.2.2.2 gX4_add_X2_set rfl rfl rfl kd_X2_set ⟨Nat.le_of_ble_eq_true rfl, Nat.le_of_ble_eq_true rfl⟩) (hp.V hE (show vwCl[2]? = some (RX2, TX2, 1) from rfl) rfl) rfl rfl hl.1 rfl (lv_room (Nat.le_of_ble_eq_true rfl)) dX4_add_43 ⟨Nat.zero_le _, Nat.zero_le _⟩) (fun H locs M => ?_)
      have M : gM E A s.heap [[(ad 15, .inr (4, [.ref (ad 16), .ref (ad 18), .ref (ad 20), .ref (ad 22), .ref (ad 24), .ref (ad 26), .ref (ad 28), .ref (ad 30), .int (nI z.ct)]))], rowW E (ad 16) (ad 17) 120 z.hd, rowW E (ad 18) (ad 19) 120 z.ps, rowW E (ad 20) (ad 21) 120 z.tm, rowW E (ad 22) (ad 23) 120 z.mn, rowW E (ad 24) (ad 25) 120 z.cm, rowW E (ad 26) (ad 27) 120 z.pl, rowW E (ad 28) (ad 29) 120 z.gr, rowW E (ad 30) (ad 31) 120 (rs 120 f (nI r) (rg 120 f ((nI r) - 1)))] H locs := M
      refine lv_iinc (v := nI (r - 1)) (lv' := [(7, .int (nI (r - 1))), (0, .ref (ad 15)), (1, .int h), (2, .int p), (3, .int t), (4, .int m0), (5, .int (nI z.ct)), (6, .int (nI (z.bel h)))]) S.1 S.2.1 dX4_add_46 hl (k := 7) rfl (sb_m1 (by omega)) (by decide) rfl (fun ls hl => ?_)
      refine lv_goto (tgt := 19) S.1 S.2.1 dX4_add_49 (by decide) ?_
      exact ih (r - 1) _ (by omega) (by omega) (by rw [hI, shf]) _ _ M ls (lv_sub hl [1, 2, 3, 4, 5, 6, 7, 0] rfl)
  refine lv_aload_n S.1 S.2.1 dX4_add_0 rfl (lv_at hl 0 rfl) ?_
  refine gget S hE M (C := RX4) (T := TX4) (N := 9) (ci := 4) (index := 41) hwi 0 rfl rfl 8 (by decide) (by decide +kernel) rfl dX4_add_1 ?_
  refine lv_istore (lv' := [(5, .int (nI z.ct)), (0, .ref (ad 15)), (1, .int h), (2, .int p), (3, .int t), (4, .int m0)]) S.1 S.2.1 dX4_add_4 hl (by decide) rfl (fun ls hl => ?_)
  refine lv_aload_n S.1 S.2.1 dX4_add_6 rfl (lv_at hl 1 rfl) ?_
  refine lv_iload_n S.1 S.2.1 dX4_add_7 rfl (lv_at hl 2 rfl) ?_
  refine gcalli (L := []) (Mid := spuGs E ad z) (Rr := []) (Mid' := spuGs E ad z) hE M rfl (rfl) (rfl) (fun hp => va_runV (As := [.int h]) (rest := []) S (c_X4_headsBelow l E ad z h  hc _) (cwV 1 S.2.2.2.2 gX4_add_X4_headsBelow rfl rfl rfl kd_X4_headsBelow ⟨Nat.le_of_ble_eq_true rfl, Nat.le_of_ble_eq_true rfl⟩) (hp.V hE (show vwCl[4]? = some (RX4, TX4, 9) from rfl) rfl) rfl rfl hl.1 rfl (lv_room (Nat.le_of_ble_eq_true rfl)) dX4_add_8 ⟨Nat.zero_le _, Nat.zero_le _⟩) (fun H locs M => ?_)
  have M : gM E A s.heap [[(ad 15, .inr (4, [.ref (ad 16), .ref (ad 18), .ref (ad 20), .ref (ad 22), .ref (ad 24), .ref (ad 26), .ref (ad 28), .ref (ad 30), .int (nI z.ct)]))], rowW E (ad 16) (ad 17) 120 z.hd, rowW E (ad 18) (ad 19) 120 z.ps, rowW E (ad 20) (ad 21) 120 z.tm, rowW E (ad 22) (ad 23) 120 z.mn, rowW E (ad 24) (ad 25) 120 z.cm, rowW E (ad 26) (ad 27) 120 z.pl, rowW E (ad 28) (ad 29) 120 z.gr, rowW E (ad 30) (ad 31) 120 z.rk] H locs := M
  refine lv_istore (lv' := [(6, .int (nI (z.bel h))), (5, .int (nI z.ct)), (0, .ref (ad 15)), (1, .int h), (2, .int p), (3, .int t), (4, .int m0)]) S.1 S.2.1 dX4_add_11 hl (by decide) rfl (fun ls hl => ?_)
  refine lv_aload_n S.1 S.2.1 dX4_add_13 rfl (lv_at hl 2 rfl) ?_
  refine gget S hE M (C := RX4) (T := TX4) (N := 9) (ci := 4) (index := 41) hwi 0 rfl rfl 8 (by decide) (by decide +kernel) rfl dX4_add_14 ?_
  refine lv_istore (lv' := [(7, .int (nI z.ct)), (6, .int (nI (z.bel h))), (5, .int (nI z.ct)), (0, .ref (ad 15)), (1, .int h), (2, .int p), (3, .int t), (4, .int m0)]) S.1 S.2.1 dX4_add_17 hl (by decide) rfl (fun ls hl => ?_)
  exact hL (z.ct - z.bel h) z.ct z.rk (by omega) (by omega) rfl _ _ M ls (lv_sub hl [3, 4, 5, 6, 7, 2, 1, 0] rfl)

set_option maxHeartbeats 4000000 in
set_option maxRecDepth 100000 in
theorem c_X4_countFrame (l : Launch) (E : xE) (ad : Nat → Nat) (z : SpuS) (k : Int32) (n : Int32) (b : Bool) : mV l yX4_countFrame wsX4_countFrame (xrm 2 44) E [.ref (ad 15), .int k, .int n, .int (b2i b)] (spuGs E ad z) (spuGs E ad (SpuS.frame z k n b)) := by
  intro sz
  refine Met.ofW (cc := cX4_countFrame) (maxL := 4) (ret := none) (by decide +kernel) rfl ?_
  intro vp ve s vm args below meth vc s₁ B hml hv
  obtain ⟨rfl, S, hr, hlk, hnm, A, hA, hE, M⟩ := genter B hml hv
  rw [hA]
  obtain ⟨ls, hfr, hl⟩ := gst (m := vm) (as := [.ref (ad 15), .int k, .int n, .int (b2i b)]) (n := 4) (Nat.le_of_ble_eq_true rfl)
  rw [hfr]
  clear hfr hA
  have hl : lv_has ls 4 [(0, .ref (ad 15)), (1, .int k), (2, .int n), (3, .int (b2i b))] := hl
  have M : gM E A s.heap [[(ad 15, .inr (4, [.ref (ad 16), .ref (ad 18), .ref (ad 20), .ref (ad 22), .ref (ad 24), .ref (ad 26), .ref (ad 28), .ref (ad 30), .int (nI z.ct)]))], rowW E (ad 16) (ad 17) 120 z.hd, rowW E (ad 18) (ad 19) 120 z.ps, rowW E (ad 20) (ad 21) 120 z.tm, rowW E (ad 22) (ad 23) 120 z.mn, rowW E (ad 24) (ad 25) 120 z.cm, rowW E (ad 26) (ad 27) 120 z.pl, rowW E (ad 28) (ad 29) 120 z.gr, rowW E (ad 30) (ad 31) 120 z.rk] s.heap [] := M
  have hwi : ∀ w ∈ u_ws RX4 TX4 9, w ∈ wsX4_countFrame := by decide +kernel
  refine lv_aload_n S.1 S.2.1 dX4_countFrame_0 rfl (lv_at hl 0 rfl) ?_
  refine gget S hE M (C := RX4) (T := TX4) (N := 9) (ci := 4) (index := 29) hwi 0 rfl rfl 4 (by decide) (by decide +kernel) rfl dX4_countFrame_1 ?_
  refine lv_iload_n S.1 S.2.1 dX4_countFrame_4 rfl (lv_at hl 1 rfl) ?_
  refine lv_iconst (v := 1) S.1 S.2.1 dX4_countFrame_5 (by decide) ?_
  refine gcallv (L := [[(ad 15, .inr (4, [.ref (ad 16), .ref (ad 18), .ref (ad 20), .ref (ad 22), .ref (ad 24), .ref (ad 26), .ref (ad 28), .ref (ad 30), .int (nI z.ct)]))], rowW E (ad 16) (ad 17) 120 z.hd, rowW E (ad 18) (ad 19) 120 z.ps, rowW E (ad 20) (ad 21) 120 z.tm, rowW E (ad 22) (ad 23) 120 z.mn]) (Mid := [rowW E (ad 24) (ad 25) 120 z.cm]) (Rr := [rowW E (ad 26) (ad 27) 120 z.pl, rowW E (ad 28) (ad 29) 120 z.gr, rowW E (ad 30) (ad 31) 120 z.rk]) (Mid' := [rowW E (ad 24) (ad 25) 120 (rs 120 z.cm k (rg 120 z.cm k + 1))]) hE M rfl (List.append_nil _) (List.append_nil _) (fun hp => va_runV (As := [.int k, .int 1]) (rest := []) S (c_X2_add l E (ad 24) (ad 25) 120 z.cm k 1 (by decide) _) (cwV 2 S.2.2.2.2 gX4_countFrame_X2_add rfl rfl rfl kd_X2_add ⟨Nat.le_of_ble_eq_true rfl, Nat.le_of_ble_eq_true rfl⟩) (hp.V hE (show vwCl[2]? = some (RX2, TX2, 1) from rfl) rfl) rfl rfl hl.1 rfl (lv_room (Nat.le_of_ble_eq_true rfl)) dX4_countFrame_6 ⟨Nat.zero_le _, Nat.zero_le _⟩) (fun H locs M => ?_)
  have M : gM E A s.heap [[(ad 15, .inr (4, [.ref (ad 16), .ref (ad 18), .ref (ad 20), .ref (ad 22), .ref (ad 24), .ref (ad 26), .ref (ad 28), .ref (ad 30), .int (nI z.ct)]))], rowW E (ad 16) (ad 17) 120 z.hd, rowW E (ad 18) (ad 19) 120 z.ps, rowW E (ad 20) (ad 21) 120 z.tm, rowW E (ad 22) (ad 23) 120 z.mn, rowW E (ad 24) (ad 25) 120 (rs 120 z.cm k (rg 120 z.cm k + 1)), rowW E (ad 26) (ad 27) 120 z.pl, rowW E (ad 28) (ad 29) 120 z.gr, rowW E (ad 30) (ad 31) 120 z.rk] H locs := M
  refine lv_aload_n S.1 S.2.1 dX4_countFrame_9 rfl (lv_at hl 0 rfl) ?_
  refine gget S hE M (C := RX4) (T := TX4) (N := 9) (ci := 4) (index := 32) hwi 0 rfl rfl 5 (by decide) (by decide +kernel) rfl dX4_countFrame_10 ?_
  refine lv_iload_n S.1 S.2.1 dX4_countFrame_13 rfl (lv_at hl 1 rfl) ?_
  refine lv_iload_n S.1 S.2.1 dX4_countFrame_14 rfl (lv_at hl 3 rfl) ?_
  refine lv_if_eq (tgt := 22) S.1 S.2.1 dX4_countFrame_15 (by decide) (fun c15 => ?_) (fun c15 => ?_)
  ·
    refine lv_iconst (v := 0) S.1 S.2.1 dX4_countFrame_22 (by decide) ?_
    refine gcallv (L := [[(ad 15, .inr (4, [.ref (ad 16), .ref (ad 18), .ref (ad 20), .ref (ad 22), .ref (ad 24), .ref (ad 26), .ref (ad 28), .ref (ad 30), .int (nI z.ct)]))], rowW E (ad 16) (ad 17) 120 z.hd, rowW E (ad 18) (ad 19) 120 z.ps, rowW E (ad 20) (ad 21) 120 z.tm, rowW E (ad 22) (ad 23) 120 z.mn, rowW E (ad 24) (ad 25) 120 (rs 120 z.cm k (rg 120 z.cm k + 1))]) (Mid := [rowW E (ad 26) (ad 27) 120 z.pl]) (Rr := [rowW E (ad 28) (ad 29) 120 z.gr, rowW E (ad 30) (ad 31) 120 z.rk]) (Mid' := [rowW E (ad 26) (ad 27) 120 (rs 120 z.pl k (rg 120 z.pl k + 0))]) hE M rfl (List.append_nil _) (List.append_nil _) (fun hp => va_runV (As := [.int k, .int 0]) (rest := []) S (c_X2_add l E (ad 26) (ad 27) 120 z.pl k 0 (by decide) _) (cwV 2 S.2.2.2.2 gX4_countFrame_X2_add rfl rfl rfl kd_X2_add ⟨Nat.le_of_ble_eq_true rfl, Nat.le_of_ble_eq_true rfl⟩) (hp.V hE (show vwCl[2]? = some (RX2, TX2, 1) from rfl) rfl) rfl rfl hl.1 rfl (lv_room (Nat.le_of_ble_eq_true rfl)) dX4_countFrame_23 ⟨Nat.zero_le _, Nat.zero_le _⟩) (fun H locs M => ?_)
    have M : gM E A s.heap [[(ad 15, .inr (4, [.ref (ad 16), .ref (ad 18), .ref (ad 20), .ref (ad 22), .ref (ad 24), .ref (ad 26), .ref (ad 28), .ref (ad 30), .int (nI z.ct)]))], rowW E (ad 16) (ad 17) 120 z.hd, rowW E (ad 18) (ad 19) 120 z.ps, rowW E (ad 20) (ad 21) 120 z.tm, rowW E (ad 22) (ad 23) 120 z.mn, rowW E (ad 24) (ad 25) 120 (rs 120 z.cm k (rg 120 z.cm k + 1)), rowW E (ad 26) (ad 27) 120 (rs 120 z.pl k (rg 120 z.pl k + 0)), rowW E (ad 28) (ad 29) 120 z.gr, rowW E (ad 30) (ad 31) 120 z.rk] H locs := M
    refine lv_aload_n S.1 S.2.1 dX4_countFrame_26 rfl (lv_at hl 0 rfl) ?_
    refine gget S hE M (C := RX4) (T := TX4) (N := 9) (ci := 4) (index := 35) hwi 0 rfl rfl 6 (by decide) (by decide +kernel) rfl dX4_countFrame_27 ?_
    refine lv_iload_n S.1 S.2.1 dX4_countFrame_30 rfl (lv_at hl 1 rfl) ?_
    refine lv_aload_n S.1 S.2.1 dX4_countFrame_31 rfl (lv_at hl 0 rfl) ?_
    refine gget S hE M (C := RX4) (T := TX4) (N := 9) (ci := 4) (index := 35) hwi 0 rfl rfl 6 (by decide) (by decide +kernel) rfl dX4_countFrame_32 ?_
    refine lv_iload_n S.1 S.2.1 dX4_countFrame_35 rfl (lv_at hl 1 rfl) ?_
    refine gcalli (L := [[(ad 15, .inr (4, [.ref (ad 16), .ref (ad 18), .ref (ad 20), .ref (ad 22), .ref (ad 24), .ref (ad 26), .ref (ad 28), .ref (ad 30), .int (nI z.ct)]))], rowW E (ad 16) (ad 17) 120 z.hd, rowW E (ad 18) (ad 19) 120 z.ps, rowW E (ad 20) (ad 21) 120 z.tm, rowW E (ad 22) (ad 23) 120 z.mn, rowW E (ad 24) (ad 25) 120 (rs 120 z.cm k (rg 120 z.cm k + 1)), rowW E (ad 26) (ad 27) 120 (rs 120 z.pl k (rg 120 z.pl k + 0))]) (Mid := [rowW E (ad 28) (ad 29) 120 z.gr]) (Rr := [rowW E (ad 30) (ad 31) 120 z.rk]) (Mid' := [rowW E (ad 28) (ad 29) 120 z.gr]) hE M rfl (List.append_nil _) (List.append_nil _) (fun hp => va_runV (As := [.int k]) (rest := [.int k, .ref (ad 28)]) S (c_X2_get l E (ad 28) (ad 29) 120 z.gr k (by decide) _) (cwV 1 S.2.2.2.2 gX4_countFrame_X2_get rfl rfl rfl kd_X2_get ⟨Nat.le_of_ble_eq_true rfl, Nat.le_of_ble_eq_true rfl⟩) (hp.V hE (show vwCl[2]? = some (RX2, TX2, 1) from rfl) rfl) rfl rfl hl.1 rfl (lv_room (Nat.le_of_ble_eq_true rfl)) dX4_countFrame_36 ⟨Nat.zero_le _, Nat.zero_le _⟩) (fun H locs M => ?_)
    have M : gM E A s.heap [[(ad 15, .inr (4, [.ref (ad 16), .ref (ad 18), .ref (ad 20), .ref (ad 22), .ref (ad 24), .ref (ad 26), .ref (ad 28), .ref (ad 30), .int (nI z.ct)]))], rowW E (ad 16) (ad 17) 120 z.hd, rowW E (ad 18) (ad 19) 120 z.ps, rowW E (ad 20) (ad 21) 120 z.tm, rowW E (ad 22) (ad 23) 120 z.mn, rowW E (ad 24) (ad 25) 120 (rs 120 z.cm k (rg 120 z.cm k + 1)), rowW E (ad 26) (ad 27) 120 (rs 120 z.pl k (rg 120 z.pl k + 0)), rowW E (ad 28) (ad 29) 120 z.gr, rowW E (ad 30) (ad 31) 120 z.rk] H locs := M
    refine lv_iload_n S.1 S.2.1 dX4_countFrame_39 rfl (lv_at hl 2 rfl) ?_
    refine va_mmax S.1 S.2.1 (by rw [hl.1]; exact S.2.2.1) S.2.2.2.1 (S.2.2.2.2 (.methodLink RX4 62 Lib.Math.max.name) (by decide +kernel)) (S.2.2.2.2 (.static Lib.Math.max.name) (by decide +kernel)) (S.2.2.2.2 (.initialized "java/lang/Math") (by decide +kernel)) (S.2.2.2.2 (.code Lib.Math.max.name Lib.Math.max.code 2 (some .int)) (by decide +kernel)) (Nat.le_of_ble_eq_true rfl) (Nat.le_of_ble_eq_true rfl) (Nat.zero_le _) (Nat.zero_le _) dX4_countFrame_40 ?_
    refine gcallv (L := [[(ad 15, .inr (4, [.ref (ad 16), .ref (ad 18), .ref (ad 20), .ref (ad 22), .ref (ad 24), .ref (ad 26), .ref (ad 28), .ref (ad 30), .int (nI z.ct)]))], rowW E (ad 16) (ad 17) 120 z.hd, rowW E (ad 18) (ad 19) 120 z.ps, rowW E (ad 20) (ad 21) 120 z.tm, rowW E (ad 22) (ad 23) 120 z.mn, rowW E (ad 24) (ad 25) 120 (rs 120 z.cm k (rg 120 z.cm k + 1)), rowW E (ad 26) (ad 27) 120 (rs 120 z.pl k (rg 120 z.pl k + 0))]) (Mid := [rowW E (ad 28) (ad 29) 120 z.gr]) (Rr := [rowW E (ad 30) (ad 31) 120 z.rk]) (Mid' := [rowW E (ad 28) (ad 29) 120 (rs 120 z.gr k (imax (rg 120 z.gr k) n))]) hE M rfl (List.append_nil _) (List.append_nil _) (fun hp => va_runV (As := [.int k, .int (imax (rg 120 z.gr k) n)]) (rest := []) S (c_X2_set l E (ad 28) (ad 29) 120 z.gr k (imax (rg 120 z.gr k) n) (by decide) _) (cwV 2 S.2.2.2.2 gX4_countFrame_X2_set rfl rfl rfl kd_X2_set ⟨Nat.le_of_ble_eq_true rfl, Nat.le_of_ble_eq_true rfl⟩) (hp.V hE (show vwCl[2]? = some (RX2, TX2, 1) from rfl) rfl) rfl rfl hl.1 rfl (lv_room (Nat.le_of_ble_eq_true rfl)) dX4_countFrame_43 ⟨Nat.zero_le _, Nat.zero_le _⟩) (fun H locs M => ?_)
    have M : gM E A s.heap [[(ad 15, .inr (4, [.ref (ad 16), .ref (ad 18), .ref (ad 20), .ref (ad 22), .ref (ad 24), .ref (ad 26), .ref (ad 28), .ref (ad 30), .int (nI z.ct)]))], rowW E (ad 16) (ad 17) 120 z.hd, rowW E (ad 18) (ad 19) 120 z.ps, rowW E (ad 20) (ad 21) 120 z.tm, rowW E (ad 22) (ad 23) 120 z.mn, rowW E (ad 24) (ad 25) 120 (rs 120 z.cm k (rg 120 z.cm k + 1)), rowW E (ad 26) (ad 27) 120 (rs 120 z.pl k (rg 120 z.pl k + 0)), rowW E (ad 28) (ad 29) 120 (rs 120 z.gr k (imax (rg 120 z.gr k) n)), rowW E (ad 30) (ad 31) 120 z.rk] H locs := M
    exact gvret S hr hlk M (by unfold SpuS.frame; rw [c15]; rfl) dX4_countFrame_46
  ·
    refine lv_iconst (v := 1) S.1 S.2.1 dX4_countFrame_18 (by decide) ?_
    refine lv_goto (tgt := 23) S.1 S.2.1 dX4_countFrame_19 (by decide) ?_
    refine gcallv (L := [[(ad 15, .inr (4, [.ref (ad 16), .ref (ad 18), .ref (ad 20), .ref (ad 22), .ref (ad 24), .ref (ad 26), .ref (ad 28), .ref (ad 30), .int (nI z.ct)]))], rowW E (ad 16) (ad 17) 120 z.hd, rowW E (ad 18) (ad 19) 120 z.ps, rowW E (ad 20) (ad 21) 120 z.tm, rowW E (ad 22) (ad 23) 120 z.mn, rowW E (ad 24) (ad 25) 120 (rs 120 z.cm k (rg 120 z.cm k + 1))]) (Mid := [rowW E (ad 26) (ad 27) 120 z.pl]) (Rr := [rowW E (ad 28) (ad 29) 120 z.gr, rowW E (ad 30) (ad 31) 120 z.rk]) (Mid' := [rowW E (ad 26) (ad 27) 120 (rs 120 z.pl k (rg 120 z.pl k + 1))]) hE M rfl (List.append_nil _) (List.append_nil _) (fun hp => va_runV (As := [.int k, .int 1]) (rest := []) S (c_X2_add l E (ad 26) (ad 27) 120 z.pl k 1 (by decide) _) (cwV 2 S.2.2.2.2 gX4_countFrame_X2_add rfl rfl rfl kd_X2_add ⟨Nat.le_of_ble_eq_true rfl, Nat.le_of_ble_eq_true rfl⟩) (hp.V hE (show vwCl[2]? = some (RX2, TX2, 1) from rfl) rfl) rfl rfl hl.1 rfl (lv_room (Nat.le_of_ble_eq_true rfl)) dX4_countFrame_23 ⟨Nat.zero_le _, Nat.zero_le _⟩) (fun H locs M => ?_)
    have M : gM E A s.heap [[(ad 15, .inr (4, [.ref (ad 16), .ref (ad 18), .ref (ad 20), .ref (ad 22), .ref (ad 24), .ref (ad 26), .ref (ad 28), .ref (ad 30), .int (nI z.ct)]))], rowW E (ad 16) (ad 17) 120 z.hd, rowW E (ad 18) (ad 19) 120 z.ps, rowW E (ad 20) (ad 21) 120 z.tm, rowW E (ad 22) (ad 23) 120 z.mn, rowW E (ad 24) (ad 25) 120 (rs 120 z.cm k (rg 120 z.cm k + 1)), rowW E (ad 26) (ad 27) 120 (rs 120 z.pl k (rg 120 z.pl k + 1)), rowW E (ad 28) (ad 29) 120 z.gr, rowW E (ad 30) (ad 31) 120 z.rk] H locs := M
    refine lv_aload_n S.1 S.2.1 dX4_countFrame_26 rfl (lv_at hl 0 rfl) ?_
    refine gget S hE M (C := RX4) (T := TX4) (N := 9) (ci := 4) (index := 35) hwi 0 rfl rfl 6 (by decide) (by decide +kernel) rfl dX4_countFrame_27 ?_
    refine lv_iload_n S.1 S.2.1 dX4_countFrame_30 rfl (lv_at hl 1 rfl) ?_
    refine lv_aload_n S.1 S.2.1 dX4_countFrame_31 rfl (lv_at hl 0 rfl) ?_
    refine gget S hE M (C := RX4) (T := TX4) (N := 9) (ci := 4) (index := 35) hwi 0 rfl rfl 6 (by decide) (by decide +kernel) rfl dX4_countFrame_32 ?_
    refine lv_iload_n S.1 S.2.1 dX4_countFrame_35 rfl (lv_at hl 1 rfl) ?_
    refine gcalli (L := [[(ad 15, .inr (4, [.ref (ad 16), .ref (ad 18), .ref (ad 20), .ref (ad 22), .ref (ad 24), .ref (ad 26), .ref (ad 28), .ref (ad 30), .int (nI z.ct)]))], rowW E (ad 16) (ad 17) 120 z.hd, rowW E (ad 18) (ad 19) 120 z.ps, rowW E (ad 20) (ad 21) 120 z.tm, rowW E (ad 22) (ad 23) 120 z.mn, rowW E (ad 24) (ad 25) 120 (rs 120 z.cm k (rg 120 z.cm k + 1)), rowW E (ad 26) (ad 27) 120 (rs 120 z.pl k (rg 120 z.pl k + 1))]) (Mid := [rowW E (ad 28) (ad 29) 120 z.gr]) (Rr := [rowW E (ad 30) (ad 31) 120 z.rk]) (Mid' := [rowW E (ad 28) (ad 29) 120 z.gr]) hE M rfl (List.append_nil _) (List.append_nil _) (fun hp => va_runV (As := [.int k]) (rest := [.int k, .ref (ad 28)]) S (c_X2_get l E (ad 28) (ad 29) 120 z.gr k (by decide) _) (cwV 1 S.2.2.2.2 gX4_countFrame_X2_get rfl rfl rfl kd_X2_get ⟨Nat.le_of_ble_eq_true rfl, Nat.le_of_ble_eq_true rfl⟩) (hp.V hE (show vwCl[2]? = some (RX2, TX2, 1) from rfl) rfl) rfl rfl hl.1 rfl (lv_room (Nat.le_of_ble_eq_true rfl)) dX4_countFrame_36 ⟨Nat.zero_le _, Nat.zero_le _⟩) (fun H locs M => ?_)
    have M : gM E A s.heap [[(ad 15, .inr (4, [.ref (ad 16), .ref (ad 18), .ref (ad 20), .ref (ad 22), .ref (ad 24), .ref (ad 26), .ref (ad 28), .ref (ad 30), .int (nI z.ct)]))], rowW E (ad 16) (ad 17) 120 z.hd, rowW E (ad 18) (ad 19) 120 z.ps, rowW E (ad 20) (ad 21) 120 z.tm, rowW E (ad 22) (ad 23) 120 z.mn, rowW E (ad 24) (ad 25) 120 (rs 120 z.cm k (rg 120 z.cm k + 1)), rowW E (ad 26) (ad 27) 120 (rs 120 z.pl k (rg 120 z.pl k + 1)), rowW E (ad 28) (ad 29) 120 z.gr, rowW E (ad 30) (ad 31) 120 z.rk] H locs := M
    refine lv_iload_n S.1 S.2.1 dX4_countFrame_39 rfl (lv_at hl 2 rfl) ?_
    refine va_mmax S.1 S.2.1 (by rw [hl.1]; exact S.2.2.1) S.2.2.2.1 (S.2.2.2.2 (.methodLink RX4 62 Lib.Math.max.name) (by decide +kernel)) (S.2.2.2.2 (.static Lib.Math.max.name) (by decide +kernel)) (S.2.2.2.2 (.initialized "java/lang/Math") (by decide +kernel)) (S.2.2.2.2 (.code Lib.Math.max.name Lib.Math.max.code 2 (some .int)) (by decide +kernel)) (Nat.le_of_ble_eq_true rfl) (Nat.le_of_ble_eq_true rfl) (Nat.zero_le _) (Nat.zero_le _) dX4_countFrame_40 ?_
    refine gcallv (L := [[(ad 15, .inr (4, [.ref (ad 16), .ref (ad 18), .ref (ad 20), .ref (ad 22), .ref (ad 24), .ref (ad 26), .ref (ad 28), .ref (ad 30), .int (nI z.ct)]))], rowW E (ad 16) (ad 17) 120 z.hd, rowW E (ad 18) (ad 19) 120 z.ps, rowW E (ad 20) (ad 21) 120 z.tm, rowW E (ad 22) (ad 23) 120 z.mn, rowW E (ad 24) (ad 25) 120 (rs 120 z.cm k (rg 120 z.cm k + 1)), rowW E (ad 26) (ad 27) 120 (rs 120 z.pl k (rg 120 z.pl k + 1))]) (Mid := [rowW E (ad 28) (ad 29) 120 z.gr]) (Rr := [rowW E (ad 30) (ad 31) 120 z.rk]) (Mid' := [rowW E (ad 28) (ad 29) 120 (rs 120 z.gr k (imax (rg 120 z.gr k) n))]) hE M rfl (List.append_nil _) (List.append_nil _) (fun hp => va_runV (As := [.int k, .int (imax (rg 120 z.gr k) n)]) (rest := []) S (c_X2_set l E (ad 28) (ad 29) 120 z.gr k (imax (rg 120 z.gr k) n) (by decide) _) (cwV 2 S.2.2.2.2 gX4_countFrame_X2_set rfl rfl rfl kd_X2_set ⟨Nat.le_of_ble_eq_true rfl, Nat.le_of_ble_eq_true rfl⟩) (hp.V hE (show vwCl[2]? = some (RX2, TX2, 1) from rfl) rfl) rfl rfl hl.1 rfl (lv_room (Nat.le_of_ble_eq_true rfl)) dX4_countFrame_43 ⟨Nat.zero_le _, Nat.zero_le _⟩) (fun H locs M => ?_)
    have M : gM E A s.heap [[(ad 15, .inr (4, [.ref (ad 16), .ref (ad 18), .ref (ad 20), .ref (ad 22), .ref (ad 24), .ref (ad 26), .ref (ad 28), .ref (ad 30), .int (nI z.ct)]))], rowW E (ad 16) (ad 17) 120 z.hd, rowW E (ad 18) (ad 19) 120 z.ps, rowW E (ad 20) (ad 21) 120 z.tm, rowW E (ad 22) (ad 23) 120 z.mn, rowW E (ad 24) (ad 25) 120 (rs 120 z.cm k (rg 120 z.cm k + 1)), rowW E (ad 26) (ad 27) 120 (rs 120 z.pl k (rg 120 z.pl k + 1)), rowW E (ad 28) (ad 29) 120 (rs 120 z.gr k (imax (rg 120 z.gr k) n)), rowW E (ad 30) (ad 31) 120 z.rk] H locs := M
    exact gvret S hr hlk M (by unfold SpuS.frame; rw [b2i_one c15]; rfl) dX4_countFrame_46

set_option maxHeartbeats 4000000 in
set_option maxRecDepth 100000 in
theorem c_X4_clear (l : Launch) (E : xE) (ad : Nat → Nat) (z : SpuS) : mV l yX4_clear wsX4_clear (xrm 0 0) E [.ref (ad 15)] (spuGs E ad z) (spuGs E ad (SpuS.clear z)) := by
  intro sz
  refine Met.ofW (cc := cX4_clear) (maxL := 1) (ret := none) (by decide +kernel) rfl ?_
  intro vp ve s vm args below meth vc s₁ B hml hv
  obtain ⟨rfl, S, hr, hlk, hnm, A, hA, hE, M⟩ := genter B hml hv
  rw [hA]
  obtain ⟨ls, hfr, hl⟩ := gst (m := vm) (as := [.ref (ad 15)]) (n := 1) (Nat.le_of_ble_eq_true rfl)
  rw [hfr]
  clear hfr hA
  have hl : lv_has ls 1 [(0, .ref (ad 15))] := hl
  have M : gM E A s.heap [[(ad 15, .inr (4, [.ref (ad 16), .ref (ad 18), .ref (ad 20), .ref (ad 22), .ref (ad 24), .ref (ad 26), .ref (ad 28), .ref (ad 30), .int (nI z.ct)]))], rowW E (ad 16) (ad 17) 120 z.hd, rowW E (ad 18) (ad 19) 120 z.ps, rowW E (ad 20) (ad 21) 120 z.tm, rowW E (ad 22) (ad 23) 120 z.mn, rowW E (ad 24) (ad 25) 120 z.cm, rowW E (ad 26) (ad 27) 120 z.pl, rowW E (ad 28) (ad 29) 120 z.gr, rowW E (ad 30) (ad 31) 120 z.rk] s.heap [] := M
  have hwi : ∀ w ∈ u_ws RX4 TX4 9, w ∈ wsX4_clear := by decide +kernel
  refine lv_aload_n S.1 S.2.1 dX4_clear_0 rfl (lv_at hl 0 rfl) ?_
  refine lv_iconst (v := 0) S.1 S.2.1 dX4_clear_1 (by decide) ?_
  refine gput S hE M (C := RX4) (T := TX4) (N := 9) (ci := 4) (index := 41) (Gs' := [[(ad 15, .inr (4, [.ref (ad 16), .ref (ad 18), .ref (ad 20), .ref (ad 22), .ref (ad 24), .ref (ad 26), .ref (ad 28), .ref (ad 30), .int 0]))], rowW E (ad 16) (ad 17) 120 z.hd, rowW E (ad 18) (ad 19) 120 z.ps, rowW E (ad 20) (ad 21) 120 z.tm, rowW E (ad 22) (ad 23) 120 z.mn, rowW E (ad 24) (ad 25) 120 z.cm, rowW E (ad 26) (ad 27) 120 z.pl, rowW E (ad 28) (ad 29) 120 z.gr, rowW E (ad 30) (ad 31) 120 z.rk]) hwi tyX4 tyX4_ok nmX4 0 rfl rfl 8 (by decide) (by decide +kernel) rfl rfl rfl (Nat.le_of_ble_eq_true rfl) rfl dX4_clear_2 (fun H locs M => ?_)
  exact gvret S hr hlk M (rfl) dX4_clear_5

set_option maxHeartbeats 4000000 in
set_option maxRecDepth 100000 in
theorem c_X5_isOn (l : Launch) (E : xE) (ad : Nat → Nat) (z : SurS) : mI l yX5_isOn wsX5_isOn (xrm 0 0) E [.ref (ad 32)] (surGs E ad z) (b2i z.on) (surGs E ad z) := by
  intro sz
  refine Met.ofW (cc := cX5_isOn) (maxL := 1) (ret := (some .boolean)) (by decide +kernel) rfl ?_
  intro vp ve s vm args below meth vc s₁ B hml hv
  obtain ⟨rfl, S, hr, hlk, hnm, A, hA, hE, M⟩ := genter B hml hv
  rw [hA]
  obtain ⟨ls, hfr, hl⟩ := gst (m := vm) (as := [.ref (ad 32)]) (n := 1) (Nat.le_of_ble_eq_true rfl)
  rw [hfr]
  clear hfr hA
  have hl : lv_has ls 1 [(0, .ref (ad 32))] := hl
  have M : gM E A s.heap [[(ad 32, .inr (5, [.int (b2i z.on), .int z.ba, .int z.bg]))]] s.heap [] := M
  have hwi : ∀ w ∈ u_ws RX5 TX5 3, w ∈ wsX5_isOn := by decide +kernel
  refine lv_aload_n S.1 S.2.1 dX5_isOn_0 rfl (lv_at hl 0 rfl) ?_
  refine gget S hE M (C := RX5) (T := TX5) (N := 3) (ci := 5) (index := 7) hwi 0 rfl rfl 0 (by decide) (by decide +kernel) rfl dX5_isOn_1 ?_
  exact gzret S hr hlk M (b2i_nar _) (rfl) (rfl) dX5_isOn_4

set_option maxHeartbeats 4000000 in
set_option maxRecDepth 100000 in
theorem c_X5_base (l : Launch) (E : xE) (ad : Nat → Nat) (z : SurS) : mI l yX5_base wsX5_base (xrm 0 0) E [.ref (ad 32)] (surGs E ad z) z.ba (surGs E ad z) := by
  intro sz
  refine Met.ofW (cc := cX5_base) (maxL := 1) (ret := (some .int)) (by decide +kernel) rfl ?_
  intro vp ve s vm args below meth vc s₁ B hml hv
  obtain ⟨rfl, S, hr, hlk, hnm, A, hA, hE, M⟩ := genter B hml hv
  rw [hA]
  obtain ⟨ls, hfr, hl⟩ := gst (m := vm) (as := [.ref (ad 32)]) (n := 1) (Nat.le_of_ble_eq_true rfl)
  rw [hfr]
  clear hfr hA
  have hl : lv_has ls 1 [(0, .ref (ad 32))] := hl
  have M : gM E A s.heap [[(ad 32, .inr (5, [.int (b2i z.on), .int z.ba, .int z.bg]))]] s.heap [] := M
  have hwi : ∀ w ∈ u_ws RX5 TX5 3, w ∈ wsX5_base := by decide +kernel
  refine lv_aload_n S.1 S.2.1 dX5_base_0 rfl (lv_at hl 0 rfl) ?_
  refine gget S hE M (C := RX5) (T := TX5) (N := 3) (ci := 5) (index := 13) hwi 0 rfl rfl 1 (by decide) (by decide +kernel) rfl dX5_base_1 ?_
  exact giret S hr hlk M (rfl) (rfl) dX5_base_4

set_option maxHeartbeats 4000000 in
set_option maxRecDepth 100000 in
theorem c_X5_begun (l : Launch) (E : xE) (ad : Nat → Nat) (z : SurS) : mI l yX5_begun wsX5_begun (xrm 0 0) E [.ref (ad 32)] (surGs E ad z) z.bg (surGs E ad z) := by
  intro sz
  refine Met.ofW (cc := cX5_begun) (maxL := 1) (ret := (some .int)) (by decide +kernel) rfl ?_
  intro vp ve s vm args below meth vc s₁ B hml hv
  obtain ⟨rfl, S, hr, hlk, hnm, A, hA, hE, M⟩ := genter B hml hv
  rw [hA]
  obtain ⟨ls, hfr, hl⟩ := gst (m := vm) (as := [.ref (ad 32)]) (n := 1) (Nat.le_of_ble_eq_true rfl)
  rw [hfr]
  clear hfr hA
  have hl : lv_has ls 1 [(0, .ref (ad 32))] := hl
  have M : gM E A s.heap [[(ad 32, .inr (5, [.int (b2i z.on), .int z.ba, .int z.bg]))]] s.heap [] := M
  have hwi : ∀ w ∈ u_ws RX5 TX5 3, w ∈ wsX5_begun := by decide +kernel
  refine lv_aload_n S.1 S.2.1 dX5_begun_0 rfl (lv_at hl 0 rfl) ?_
  refine gget S hE M (C := RX5) (T := TX5) (N := 3) (ci := 5) (index := 17) hwi 0 rfl rfl 2 (by decide) (by decide +kernel) rfl dX5_begun_1 ?_
  exact giret S hr hlk M (rfl) (rfl) dX5_begun_4

set_option maxHeartbeats 4000000 in
set_option maxRecDepth 100000 in
theorem c_X5_follow (l : Launch) (E : xE) (ad : Nat → Nat) (z : SurS) (a : Int32) (d : Int32) (j : Int32) : mV l yX5_follow wsX5_follow (xrm 0 0) E [.ref (ad 32), .int a, .int d, .int j] (surGs E ad z) (surGs E ad (SurS.follow z a d j)) := by
  intro sz
  refine Met.ofW (cc := cX5_follow) (maxL := 4) (ret := none) (by decide +kernel) rfl ?_
  intro vp ve s vm args below meth vc s₁ B hml hv
  obtain ⟨rfl, S, hr, hlk, hnm, A, hA, hE, M⟩ := genter B hml hv
  rw [hA]
  obtain ⟨ls, hfr, hl⟩ := gst (m := vm) (as := [.ref (ad 32), .int a, .int d, .int j]) (n := 4) (Nat.le_of_ble_eq_true rfl)
  rw [hfr]
  clear hfr hA
  have hl : lv_has ls 4 [(0, .ref (ad 32)), (1, .int a), (2, .int d), (3, .int j)] := hl
  have M : gM E A s.heap [[(ad 32, .inr (5, [.int (b2i z.on), .int z.ba, .int z.bg]))]] s.heap [] := M
  have hwi : ∀ w ∈ u_ws RX5 TX5 3, w ∈ wsX5_follow := by decide +kernel
  refine lv_aload_n S.1 S.2.1 dX5_follow_0 rfl (lv_at hl 0 rfl) ?_
  refine gget S hE M (C := RX5) (T := TX5) (N := 3) (ci := 5) (index := 7) hwi 0 rfl rfl 0 (by decide) (by decide +kernel) rfl dX5_follow_1 ?_
  refine lv_if_eq (tgt := 31) S.1 S.2.1 dX5_follow_4 (by decide) (fun c4 => ?_) (fun c4 => ?_)
  ·
    refine lv_iload_n S.1 S.2.1 dX5_follow_31 rfl (lv_at hl 2 rfl) ?_
    refine lv_iload_n S.1 S.2.1 dX5_follow_32 rfl (lv_at hl 1 rfl) ?_
    refine lv_iload_n S.1 S.2.1 dX5_follow_33 rfl (lv_at hl 3 rfl) ?_
    refine lv_iadd S.1 S.2.1 dX5_follow_34 ?_
    refine lv_icmp_lt (tgt := 58) S.1 S.2.1 dX5_follow_35 (by decide) (fun c35 => ?_) (fun c35 => ?_)
    ·
      exact gvret S hr hlk M (by unfold SurS.follow; rw [if_pos c4, if_pos c35]; rfl) dX5_follow_58
    ·
      refine lv_aload_n S.1 S.2.1 dX5_follow_38 rfl (lv_at hl 0 rfl) ?_
      refine lv_iconst (v := 1) S.1 S.2.1 dX5_follow_39 (by decide) ?_
      refine gput S hE M (C := RX5) (T := TX5) (N := 3) (ci := 5) (index := 7) (Gs' := [[(ad 32, .inr (5, [.int 1, .int z.ba, .int z.bg]))]]) hwi tyX5 tyX5_ok nmX5 0 rfl rfl 0 (by decide) (by decide +kernel) rfl rfl rfl (Nat.le_of_ble_eq_true rfl) rfl dX5_follow_40 (fun H locs M => ?_)
      refine lv_aload_n S.1 S.2.1 dX5_follow_43 rfl (lv_at hl 0 rfl) ?_
      refine lv_iload_n S.1 S.2.1 dX5_follow_44 rfl (lv_at hl 1 rfl) ?_
      refine gput S hE M (C := RX5) (T := TX5) (N := 3) (ci := 5) (index := 13) (Gs' := [[(ad 32, .inr (5, [.int 1, .int a, .int z.bg]))]]) hwi tyX5 tyX5_ok nmX5 0 rfl rfl 1 (by decide) (by decide +kernel) rfl rfl rfl (Nat.le_of_ble_eq_true rfl) rfl dX5_follow_45 (fun H locs M => ?_)
      refine lv_aload_n S.1 S.2.1 dX5_follow_48 rfl (lv_at hl 0 rfl) ?_
      refine lv_dup S.1 S.2.1 dX5_follow_49 rfl ?_
      refine gget S hE M (C := RX5) (T := TX5) (N := 3) (ci := 5) (index := 17) hwi 0 rfl rfl 2 (by decide) (by decide +kernel) rfl dX5_follow_50 ?_
      refine lv_iconst (v := 1) S.1 S.2.1 dX5_follow_53 (by decide) ?_
      refine lv_iadd S.1 S.2.1 dX5_follow_54 ?_
      refine gput S hE M (C := RX5) (T := TX5) (N := 3) (ci := 5) (index := 17) (Gs' := [[(ad 32, .inr (5, [.int 1, .int a, .int (z.bg + 1)]))]]) hwi tyX5 tyX5_ok nmX5 0 rfl rfl 2 (by decide) (by decide +kernel) rfl rfl rfl (Nat.le_of_ble_eq_true rfl) rfl dX5_follow_55 (fun H locs M => ?_)
      exact gvret S hr hlk M (by unfold SurS.follow; rw [if_pos c4, if_neg c35]; rfl) dX5_follow_58
  ·
    refine lv_aload_n S.1 S.2.1 dX5_follow_7 rfl (lv_at hl 0 rfl) ?_
    refine lv_iload_n S.1 S.2.1 dX5_follow_8 rfl (lv_at hl 2 rfl) ?_
    refine lv_aload_n S.1 S.2.1 dX5_follow_9 rfl (lv_at hl 0 rfl) ?_
    refine gget S hE M (C := RX5) (T := TX5) (N := 3) (ci := 5) (index := 13) hwi 0 rfl rfl 1 (by decide) (by decide +kernel) rfl dX5_follow_10 ?_
    refine lv_iload_n S.1 S.2.1 dX5_follow_13 rfl (lv_at hl 3 rfl) ?_
    refine lv_iconst (v := 2) S.1 S.2.1 dX5_follow_14 (by decide) ?_
    refine lv_idiv S.1 S.2.1 dX5_follow_15 (by decide) ?_
    refine lv_iadd S.1 S.2.1 dX5_follow_16 ?_
    refine lv_icmp_le (tgt := 24) S.1 S.2.1 dX5_follow_17 (by decide) (fun c17 => ?_) (fun c17 => ?_)
    ·
      refine lv_iconst (v := 0) S.1 S.2.1 dX5_follow_24 (by decide) ?_
      refine gput S hE M (C := RX5) (T := TX5) (N := 3) (ci := 5) (index := 7) (Gs' := [[(ad 32, .inr (5, [.int 0, .int z.ba, .int z.bg]))]]) hwi tyX5 tyX5_ok nmX5 0 rfl rfl 0 (by decide) (by decide +kernel) rfl rfl rfl (Nat.le_of_ble_eq_true rfl) rfl dX5_follow_25 (fun H locs M => ?_)
      refine lv_goto (tgt := 58) S.1 S.2.1 dX5_follow_28 (by decide) ?_
      exact gvret S hr hlk M (by unfold SurS.follow; rw [if_neg c4, if_pos c17]; rfl) dX5_follow_58
    ·
      refine lv_iconst (v := 1) S.1 S.2.1 dX5_follow_20 (by decide) ?_
      refine lv_goto (tgt := 25) S.1 S.2.1 dX5_follow_21 (by decide) ?_
      refine gput S hE M (C := RX5) (T := TX5) (N := 3) (ci := 5) (index := 7) (Gs' := [[(ad 32, .inr (5, [.int 1, .int z.ba, .int z.bg]))]]) hwi tyX5 tyX5_ok nmX5 0 rfl rfl 0 (by decide) (by decide +kernel) rfl rfl rfl (Nat.le_of_ble_eq_true rfl) rfl dX5_follow_25 (fun H locs M => ?_)
      refine lv_goto (tgt := 58) S.1 S.2.1 dX5_follow_28 (by decide) ?_
      exact gvret S hr hlk M (by unfold SurS.follow; rw [if_neg c4, if_neg c17]; rfl) dX5_follow_58

set_option maxHeartbeats 4000000 in
set_option maxRecDepth 100000 in
theorem c_X5_clear (l : Launch) (E : xE) (ad : Nat → Nat) (z : SurS) : mV l yX5_clear wsX5_clear (xrm 0 0) E [.ref (ad 32)] (surGs E ad z) (surGs E ad (false, z.ba, 0)) := by
  intro sz
  refine Met.ofW (cc := cX5_clear) (maxL := 1) (ret := none) (by decide +kernel) rfl ?_
  intro vp ve s vm args below meth vc s₁ B hml hv
  obtain ⟨rfl, S, hr, hlk, hnm, A, hA, hE, M⟩ := genter B hml hv
  rw [hA]
  obtain ⟨ls, hfr, hl⟩ := gst (m := vm) (as := [.ref (ad 32)]) (n := 1) (Nat.le_of_ble_eq_true rfl)
  rw [hfr]
  clear hfr hA
  have hl : lv_has ls 1 [(0, .ref (ad 32))] := hl
  have M : gM E A s.heap [[(ad 32, .inr (5, [.int (b2i z.on), .int z.ba, .int z.bg]))]] s.heap [] := M
  have hwi : ∀ w ∈ u_ws RX5 TX5 3, w ∈ wsX5_clear := by decide +kernel
  refine lv_aload_n S.1 S.2.1 dX5_clear_0 rfl (lv_at hl 0 rfl) ?_
  refine lv_iconst (v := 0) S.1 S.2.1 dX5_clear_1 (by decide) ?_
  refine gput S hE M (C := RX5) (T := TX5) (N := 3) (ci := 5) (index := 7) (Gs' := [[(ad 32, .inr (5, [.int 0, .int z.ba, .int z.bg]))]]) hwi tyX5 tyX5_ok nmX5 0 rfl rfl 0 (by decide) (by decide +kernel) rfl rfl rfl (Nat.le_of_ble_eq_true rfl) rfl dX5_clear_2 (fun H locs M => ?_)
  refine lv_aload_n S.1 S.2.1 dX5_clear_5 rfl (lv_at hl 0 rfl) ?_
  refine lv_iconst (v := 0) S.1 S.2.1 dX5_clear_6 (by decide) ?_
  refine gput S hE M (C := RX5) (T := TX5) (N := 3) (ci := 5) (index := 17) (Gs' := [[(ad 32, .inr (5, [.int 0, .int z.ba, .int 0]))]]) hwi tyX5 tyX5_ok nmX5 0 rfl rfl 2 (by decide) (by decide +kernel) rfl rfl rfl (Nat.le_of_ble_eq_true rfl) rfl dX5_clear_7 (fun H locs M => ?_)
  exact gvret S hr hlk M (rfl) dX5_clear_10

set_option maxHeartbeats 4000000 in
set_option maxRecDepth 100000 in
theorem c_X1_upper (l : Launch) (E : xE) (ad : Nat → Nat) (z : LinS) : mI l yX1_upper wsX1_upper (xrm 0 0) E [.ref (ad 33)] (linGs E ad z) z.up (linGs E ad z) := by
  intro sz
  refine Met.ofW (cc := cX1_upper) (maxL := 1) (ret := (some .int)) (by decide +kernel) rfl ?_
  intro vp ve s vm args below meth vc s₁ B hml hv
  obtain ⟨rfl, S, hr, hlk, hnm, A, hA, hE, M⟩ := genter B hml hv
  rw [hA]
  obtain ⟨ls, hfr, hl⟩ := gst (m := vm) (as := [.ref (ad 33)]) (n := 1) (Nat.le_of_ble_eq_true rfl)
  rw [hfr]
  clear hfr hA
  have hl : lv_has ls 1 [(0, .ref (ad 33))] := hl
  have M : gM E A s.heap [[(ad 33, .inr (1, [.ref (ad 34), .ref (ad 36), .int (nI z.cn), .int z.up, .int z.lo]))], rowW E (ad 34) (ad 35) 120 z.cf, rowW E (ad 36) (ad 37) 120 z.cd] s.heap [] := M
  have hwi : ∀ w ∈ u_ws RX1 TX1 5, w ∈ wsX1_upper := by decide +kernel
  refine lv_aload_n S.1 S.2.1 dX1_upper_0 rfl (lv_at hl 0 rfl) ?_
  refine gget S hE M (C := RX1) (T := TX1) (N := 5) (ci := 1) (index := 27) hwi 0 rfl rfl 3 (by decide) (by decide +kernel) rfl dX1_upper_1 ?_
  exact giret S hr hlk M (rfl) (rfl) dX1_upper_4

set_option maxHeartbeats 4000000 in
set_option maxRecDepth 100000 in
theorem c_X1_lower (l : Launch) (E : xE) (ad : Nat → Nat) (z : LinS) : mI l yX1_lower wsX1_lower (xrm 0 0) E [.ref (ad 33)] (linGs E ad z) z.lo (linGs E ad z) := by
  intro sz
  refine Met.ofW (cc := cX1_lower) (maxL := 1) (ret := (some .int)) (by decide +kernel) rfl ?_
  intro vp ve s vm args below meth vc s₁ B hml hv
  obtain ⟨rfl, S, hr, hlk, hnm, A, hA, hE, M⟩ := genter B hml hv
  rw [hA]
  obtain ⟨ls, hfr, hl⟩ := gst (m := vm) (as := [.ref (ad 33)]) (n := 1) (Nat.le_of_ble_eq_true rfl)
  rw [hfr]
  clear hfr hA
  have hl : lv_has ls 1 [(0, .ref (ad 33))] := hl
  have M : gM E A s.heap [[(ad 33, .inr (1, [.ref (ad 34), .ref (ad 36), .int (nI z.cn), .int z.up, .int z.lo]))], rowW E (ad 34) (ad 35) 120 z.cf, rowW E (ad 36) (ad 37) 120 z.cd] s.heap [] := M
  have hwi : ∀ w ∈ u_ws RX1 TX1 5, w ∈ wsX1_lower := by decide +kernel
  refine lv_aload_n S.1 S.2.1 dX1_lower_0 rfl (lv_at hl 0 rfl) ?_
  refine gget S hE M (C := RX1) (T := TX1) (N := 5) (ci := 1) (index := 23) hwi 0 rfl rfl 4 (by decide) (by decide +kernel) rfl dX1_lower_1 ?_
  exact giret S hr hlk M (rfl) (rfl) dX1_lower_4

set_option maxHeartbeats 4000000 in
set_option maxRecDepth 100000 in
theorem c_X1_lastIsNotBelow (l : Launch) (E : xE) (ad : Nat → Nat) (z : LinS) (n : Int32) (d : Int32) : mI l yX1_lastIsNotBelow wsX1_lastIsNotBelow (xrm 1 21) E [.ref (ad 33), .int n, .int d] (linGs E ad z) (nbl z.cf z.cd z.cn n d) (linGs E ad z) := by
  intro sz
  refine Met.ofW (cc := cX1_lastIsNotBelow) (maxL := 7) (ret := (some .boolean)) (by decide +kernel) rfl ?_
  intro vp ve s vm args below meth vc s₁ B hml hv
  obtain ⟨rfl, S, hr, hlk, hnm, A, hA, hE, M⟩ := genter B hml hv
  rw [hA]
  obtain ⟨ls, hfr, hl⟩ := gst (m := vm) (as := [.ref (ad 33), .int n, .int d]) (n := 7) (Nat.le_of_ble_eq_true rfl)
  rw [hfr]
  clear hfr hA
  have hl : lv_has ls 7 [(0, .ref (ad 33)), (1, .int n), (2, .int d)] := hl
  have M : gM E A s.heap [[(ad 33, .inr (1, [.ref (ad 34), .ref (ad 36), .int (nI z.cn), .int z.up, .int z.lo]))], rowW E (ad 34) (ad 35) 120 z.cf, rowW E (ad 36) (ad 37) 120 z.cd] s.heap [] := M
  have hwi : ∀ w ∈ u_ws RX1 TX1 5, w ∈ wsX1_lastIsNotBelow := by decide +kernel
  refine lv_aload_n S.1 S.2.1 dX1_lastIsNotBelow_0 rfl (lv_at hl 0 rfl) ?_
  refine gget S hE M (C := RX1) (T := TX1) (N := 5) (ci := 1) (index := 14) hwi 0 rfl rfl 0 (by decide) (by decide +kernel) rfl dX1_lastIsNotBelow_1 ?_
  refine lv_aload_n S.1 S.2.1 dX1_lastIsNotBelow_4 rfl (lv_at hl 0 rfl) ?_
  refine gget S hE M (C := RX1) (T := TX1) (N := 5) (ci := 1) (index := 30) hwi 0 rfl rfl 2 (by decide) (by decide +kernel) rfl dX1_lastIsNotBelow_5 ?_
  refine lv_iconst (v := 2) S.1 S.2.1 dX1_lastIsNotBelow_8 (by decide) ?_
  refine lv_isub S.1 S.2.1 dX1_lastIsNotBelow_9 ?_
  refine gcalli (L := [[(ad 33, .inr (1, [.ref (ad 34), .ref (ad 36), .int (nI z.cn), .int z.up, .int z.lo]))]]) (Mid := [rowW E (ad 34) (ad 35) 120 z.cf]) (Rr := [rowW E (ad 36) (ad 37) 120 z.cd]) (Mid' := [rowW E (ad 34) (ad 35) 120 z.cf]) hE M rfl (List.append_nil _) (List.append_nil _) (fun hp => va_runV (As := [.int ((nI z.cn) - 2)]) (rest := []) S (c_X2_get l E (ad 34) (ad 35) 120 z.cf ((nI z.cn) - 2) (by decide) _) (cwV 1 S.2.2.2.2 gX1_lastIsNotBelow_X2_get rfl rfl rfl kd_X2_get ⟨Nat.le_of_ble_eq_true rfl, Nat.le_of_ble_eq_true rfl⟩) (hp.V hE (show vwCl[2]? = some (RX2, TX2, 1) from rfl) rfl) rfl rfl hl.1 rfl (lv_room (Nat.le_of_ble_eq_true rfl)) dX1_lastIsNotBelow_10 ⟨Nat.zero_le _, Nat.zero_le _⟩) (fun H locs M => ?_)
  have M : gM E A s.heap [[(ad 33, .inr (1, [.ref (ad 34), .ref (ad 36), .int (nI z.cn), .int z.up, .int z.lo]))], rowW E (ad 34) (ad 35) 120 z.cf, rowW E (ad 36) (ad 37) 120 z.cd] H locs := M
  refine lv_istore_n (lv' := [(3, .int (rg 120 z.cf ((nI z.cn) - 2))), (0, .ref (ad 33)), (1, .int n), (2, .int d)]) S.1 S.2.1 dX1_lastIsNotBelow_13 rfl hl (by decide) rfl (fun ls hl => ?_)
  refine lv_aload_n S.1 S.2.1 dX1_lastIsNotBelow_14 rfl (lv_at hl 1 rfl) ?_
  refine gget S hE M (C := RX1) (T := TX1) (N := 5) (ci := 1) (index := 20) hwi 0 rfl rfl 1 (by decide) (by decide +kernel) rfl dX1_lastIsNotBelow_15 ?_
  refine lv_aload_n S.1 S.2.1 dX1_lastIsNotBelow_18 rfl (lv_at hl 1 rfl) ?_
  refine gget S hE M (C := RX1) (T := TX1) (N := 5) (ci := 1) (index := 30) hwi 0 rfl rfl 2 (by decide) (by decide +kernel) rfl dX1_lastIsNotBelow_19 ?_
  refine lv_iconst (v := 2) S.1 S.2.1 dX1_lastIsNotBelow_22 (by decide) ?_
  refine lv_isub S.1 S.2.1 dX1_lastIsNotBelow_23 ?_
  refine gcalli (L := [[(ad 33, .inr (1, [.ref (ad 34), .ref (ad 36), .int (nI z.cn), .int z.up, .int z.lo]))], rowW E (ad 34) (ad 35) 120 z.cf]) (Mid := [rowW E (ad 36) (ad 37) 120 z.cd]) (Rr := []) (Mid' := [rowW E (ad 36) (ad 37) 120 z.cd]) hE M rfl (List.append_nil _) (List.append_nil _) (fun hp => va_runV (As := [.int ((nI z.cn) - 2)]) (rest := []) S (c_X2_get l E (ad 36) (ad 37) 120 z.cd ((nI z.cn) - 2) (by decide) _) (cwV 1 S.2.2.2.2 gX1_lastIsNotBelow_X2_get rfl rfl rfl kd_X2_get ⟨Nat.le_of_ble_eq_true rfl, Nat.le_of_ble_eq_true rfl⟩) (hp.V hE (show vwCl[2]? = some (RX2, TX2, 1) from rfl) rfl) rfl rfl hl.1 rfl (lv_room (Nat.le_of_ble_eq_true rfl)) dX1_lastIsNotBelow_24 ⟨Nat.zero_le _, Nat.zero_le _⟩) (fun H locs M => ?_)
  have M : gM E A s.heap [[(ad 33, .inr (1, [.ref (ad 34), .ref (ad 36), .int (nI z.cn), .int z.up, .int z.lo]))], rowW E (ad 34) (ad 35) 120 z.cf, rowW E (ad 36) (ad 37) 120 z.cd] H locs := M
  refine lv_istore (lv' := [(4, .int (rg 120 z.cd ((nI z.cn) - 2))), (3, .int (rg 120 z.cf ((nI z.cn) - 2))), (0, .ref (ad 33)), (1, .int n), (2, .int d)]) S.1 S.2.1 dX1_lastIsNotBelow_27 hl (by decide) rfl (fun ls hl => ?_)
  refine lv_aload_n S.1 S.2.1 dX1_lastIsNotBelow_29 rfl (lv_at hl 2 rfl) ?_
  refine gget S hE M (C := RX1) (T := TX1) (N := 5) (ci := 1) (index := 14) hwi 0 rfl rfl 0 (by decide) (by decide +kernel) rfl dX1_lastIsNotBelow_30 ?_
  refine lv_aload_n S.1 S.2.1 dX1_lastIsNotBelow_33 rfl (lv_at hl 2 rfl) ?_
  refine gget S hE M (C := RX1) (T := TX1) (N := 5) (ci := 1) (index := 30) hwi 0 rfl rfl 2 (by decide) (by decide +kernel) rfl dX1_lastIsNotBelow_34 ?_
  refine lv_iconst (v := 1) S.1 S.2.1 dX1_lastIsNotBelow_37 (by decide) ?_
  refine lv_isub S.1 S.2.1 dX1_lastIsNotBelow_38 ?_
  refine gcalli (L := [[(ad 33, .inr (1, [.ref (ad 34), .ref (ad 36), .int (nI z.cn), .int z.up, .int z.lo]))]]) (Mid := [rowW E (ad 34) (ad 35) 120 z.cf]) (Rr := [rowW E (ad 36) (ad 37) 120 z.cd]) (Mid' := [rowW E (ad 34) (ad 35) 120 z.cf]) hE M rfl (List.append_nil _) (List.append_nil _) (fun hp => va_runV (As := [.int ((nI z.cn) - 1)]) (rest := []) S (c_X2_get l E (ad 34) (ad 35) 120 z.cf ((nI z.cn) - 1) (by decide) _) (cwV 1 S.2.2.2.2 gX1_lastIsNotBelow_X2_get rfl rfl rfl kd_X2_get ⟨Nat.le_of_ble_eq_true rfl, Nat.le_of_ble_eq_true rfl⟩) (hp.V hE (show vwCl[2]? = some (RX2, TX2, 1) from rfl) rfl) rfl rfl hl.1 rfl (lv_room (Nat.le_of_ble_eq_true rfl)) dX1_lastIsNotBelow_39 ⟨Nat.zero_le _, Nat.zero_le _⟩) (fun H locs M => ?_)
  have M : gM E A s.heap [[(ad 33, .inr (1, [.ref (ad 34), .ref (ad 36), .int (nI z.cn), .int z.up, .int z.lo]))], rowW E (ad 34) (ad 35) 120 z.cf, rowW E (ad 36) (ad 37) 120 z.cd] H locs := M
  refine lv_iload_n S.1 S.2.1 dX1_lastIsNotBelow_42 rfl (lv_at hl 1 rfl) ?_
  refine lv_isub S.1 S.2.1 dX1_lastIsNotBelow_43 ?_
  refine lv_istore (lv' := [(5, .int ((rg 120 z.cf ((nI z.cn) - 1)) - (rg 120 z.cf ((nI z.cn) - 2)))), (4, .int (rg 120 z.cd ((nI z.cn) - 2))), (3, .int (rg 120 z.cf ((nI z.cn) - 2))), (0, .ref (ad 33)), (1, .int n), (2, .int d)]) S.1 S.2.1 dX1_lastIsNotBelow_44 hl (by decide) rfl (fun ls hl => ?_)
  refine lv_aload_n S.1 S.2.1 dX1_lastIsNotBelow_46 rfl (lv_at hl 3 rfl) ?_
  refine gget S hE M (C := RX1) (T := TX1) (N := 5) (ci := 1) (index := 20) hwi 0 rfl rfl 1 (by decide) (by decide +kernel) rfl dX1_lastIsNotBelow_47 ?_
  refine lv_aload_n S.1 S.2.1 dX1_lastIsNotBelow_50 rfl (lv_at hl 3 rfl) ?_
  refine gget S hE M (C := RX1) (T := TX1) (N := 5) (ci := 1) (index := 30) hwi 0 rfl rfl 2 (by decide) (by decide +kernel) rfl dX1_lastIsNotBelow_51 ?_
  refine lv_iconst (v := 1) S.1 S.2.1 dX1_lastIsNotBelow_54 (by decide) ?_
  refine lv_isub S.1 S.2.1 dX1_lastIsNotBelow_55 ?_
  refine gcalli (L := [[(ad 33, .inr (1, [.ref (ad 34), .ref (ad 36), .int (nI z.cn), .int z.up, .int z.lo]))], rowW E (ad 34) (ad 35) 120 z.cf]) (Mid := [rowW E (ad 36) (ad 37) 120 z.cd]) (Rr := []) (Mid' := [rowW E (ad 36) (ad 37) 120 z.cd]) hE M rfl (List.append_nil _) (List.append_nil _) (fun hp => va_runV (As := [.int ((nI z.cn) - 1)]) (rest := []) S (c_X2_get l E (ad 36) (ad 37) 120 z.cd ((nI z.cn) - 1) (by decide) _) (cwV 1 S.2.2.2.2 gX1_lastIsNotBelow_X2_get rfl rfl rfl kd_X2_get ⟨Nat.le_of_ble_eq_true rfl, Nat.le_of_ble_eq_true rfl⟩) (hp.V hE (show vwCl[2]? = some (RX2, TX2, 1) from rfl) rfl) rfl rfl hl.1 rfl (lv_room (Nat.le_of_ble_eq_true rfl)) dX1_lastIsNotBelow_56 ⟨Nat.zero_le _, Nat.zero_le _⟩) (fun H locs M => ?_)
  have M : gM E A s.heap [[(ad 33, .inr (1, [.ref (ad 34), .ref (ad 36), .int (nI z.cn), .int z.up, .int z.lo]))], rowW E (ad 34) (ad 35) 120 z.cf, rowW E (ad 36) (ad 37) 120 z.cd] H locs := M
  refine lv_iload S.1 S.2.1 dX1_lastIsNotBelow_59 (lv_at hl 1 rfl) ?_
  refine lv_isub S.1 S.2.1 dX1_lastIsNotBelow_61 ?_
  refine lv_istore (lv' := [(6, .int ((rg 120 z.cd ((nI z.cn) - 1)) - (rg 120 z.cd ((nI z.cn) - 2)))), (5, .int ((rg 120 z.cf ((nI z.cn) - 1)) - (rg 120 z.cf ((nI z.cn) - 2)))), (4, .int (rg 120 z.cd ((nI z.cn) - 2))), (3, .int (rg 120 z.cf ((nI z.cn) - 2))), (0, .ref (ad 33)), (1, .int n), (2, .int d)]) S.1 S.2.1 dX1_lastIsNotBelow_62 hl (by decide) rfl (fun ls hl => ?_)
  refine lv_iload S.1 S.2.1 dX1_lastIsNotBelow_64 (lv_at hl 0 rfl) ?_
  refine lv_iload_n S.1 S.2.1 dX1_lastIsNotBelow_66 rfl (lv_at hl 5 rfl) ?_
  refine lv_iload_n S.1 S.2.1 dX1_lastIsNotBelow_67 rfl (lv_at hl 3 rfl) ?_
  refine lv_isub S.1 S.2.1 dX1_lastIsNotBelow_68 ?_
  refine lv_imul S.1 S.2.1 dX1_lastIsNotBelow_69 ?_
  refine lv_iload_n S.1 S.2.1 dX1_lastIsNotBelow_70 rfl (lv_at hl 6 rfl) ?_
  refine lv_iload S.1 S.2.1 dX1_lastIsNotBelow_71 (lv_at hl 2 rfl) ?_
  refine lv_isub S.1 S.2.1 dX1_lastIsNotBelow_73 ?_
  refine lv_iload S.1 S.2.1 dX1_lastIsNotBelow_74 (lv_at hl 1 rfl) ?_
  refine lv_imul S.1 S.2.1 dX1_lastIsNotBelow_76 ?_
  refine lv_icmp_lt (tgt := 84) S.1 S.2.1 dX1_lastIsNotBelow_77 (by decide) (fun c77 => ?_) (fun c77 => ?_)
  ·
    refine lv_iconst (v := 0) S.1 S.2.1 dX1_lastIsNotBelow_84 (by decide) ?_
    exact gzret S hr hlk M (rfl) (by unfold nbl; rw [if_pos c77]) (rfl) dX1_lastIsNotBelow_85
  ·
    refine lv_iconst (v := 1) S.1 S.2.1 dX1_lastIsNotBelow_80 (by decide) ?_
    refine lv_goto (tgt := 85) S.1 S.2.1 dX1_lastIsNotBelow_81 (by decide) ?_
    exact gzret S hr hlk M (rfl) (by unfold nbl; rw [if_neg c77]) (rfl) dX1_lastIsNotBelow_85

set_option maxHeartbeats 4000000 in
set_option maxRecDepth 100000 in
theorem c_X1_addCorner (l : Launch) (E : xE) (ad : Nat → Nat) (z : LinS) (n : Int32) (d : Int32) (hc : z.cn ≤ 300) : mV l yX1_addCorner wsX1_addCorner (xrm 2 47) E [.ref (ad 33), .int n, .int d] (linGs E ad z) (linGs E ad (LinS.addc z n d)) := by
  intro sz
  refine Met.ofW (cc := cX1_addCorner) (maxL := 3) (ret := none) (by decide +kernel) rfl ?_
  intro vp ve s vm args below meth vc s₁ B hml hv
  obtain ⟨rfl, S, hr, hlk, hnm, A, hA, hE, M⟩ := genter B hml hv
  rw [hA]
  obtain ⟨ls, hfr, hl⟩ := gst (m := vm) (as := [.ref (ad 33), .int n, .int d]) (n := 3) (Nat.le_of_ble_eq_true rfl)
  rw [hfr]
  clear hfr hA
  have hl : lv_has ls 3 [(0, .ref (ad 33)), (1, .int n), (2, .int d)] := hl
  have M : gM E A s.heap [[(ad 33, .inr (1, [.ref (ad 34), .ref (ad 36), .int (nI z.cn), .int z.up, .int z.lo]))], rowW E (ad 34) (ad 35) 120 z.cf, rowW E (ad 36) (ad 37) 120 z.cd] s.heap [] := M
  have hwi : ∀ w ∈ u_ws RX1 TX1 5, w ∈ wsX1_addCorner := by decide +kernel
  obtain ⟨Q, hQ⟩ : ∃ Q : State → Prop, MQ below (va_Qv (fun (_ : Unit) => True) (fun _ => kQ E A (linGs E ad (LinS.addc z n d))) A) ([.ref (ad 33), .int n, .int d] : List Value).toArray s 0 0 A = Q := ⟨_, rfl⟩
  rw [hQ]
  have hP : ∀ (c : Nat), popn z.cf z.cd n d z.cn = c → ∀ (H : Heap) (locs : List Loc), gM E A s.heap [[(ad 33, .inr (1, [.ref (ad 34), .ref (ad 36), .int (nI c), .int z.up, .int z.lo]))], rowW E (ad 34) (ad 35) 120 z.cf, rowW E (ad 36) (ad 37) 120 z.cd] H locs → ∀ ls : Array Slot, lv_has ls 3 [(0, .ref (ad 33)), (1, .int n), (2, .int d)] → W vp l ve (headSpec wsX1_addCorner (xrm 2 47)).room s vm ([.ref (ad 33), .int n, .int d] : List Value).toArray below meth vc H locs 0 0 Q (F0 vm 30 ls []) := by
    intro c hI H locs M ls hl
    refine lv_aload_n S.1 S.2.1 dX1_addCorner_30 rfl (lv_at hl 0 rfl) ?_
    refine gget S hE M (C := RX1) (T := TX1) (N := 5) (ci := 1) (index := 14) hwi 0 rfl rfl 0 (by decide) (by decide +kernel) rfl dX1_addCorner_31 ?_
    refine lv_aload_n S.1 S.2.1 dX1_addCorner_34 rfl (lv_at hl 0 rfl) ?_
    refine gget S hE M (C := RX1) (T := TX1) (N := 5) (ci := 1) (index := 30) hwi 0 rfl rfl 2 (by decide) (by decide +kernel) rfl dX1_addCorner_35 ?_
    refine lv_iload_n S.1 S.2.1 dX1_addCorner_38 rfl (lv_at hl 1 rfl) ?_
    refine gcallv (L := [[(ad 33, .inr (1, [.ref (ad 34), .ref (ad 36), .int (nI c), .int z.up, .int z.lo]))]]) (Mid := [rowW E (ad 34) (ad 35) 120 z.cf]) (Rr := [rowW E (ad 36) (ad 37) 120 z.cd]) (Mid' := [rowW E (ad 34) (ad 35) 120 (rs 120 z.cf (nI c) n)]) hE M rfl (List.append_nil _) (List.append_nil _) (fun hp => va_runV (As := [.int (nI c), .int n]) (rest := []) S (c_X2_set l E (ad 34) (ad 35) 120 z.cf (nI c) n (by decide) _) (cwV 2 S.2.2.2.2 gX1_addCorner_X2_set rfl rfl rfl kd_X2_set ⟨Nat.le_of_ble_eq_true rfl, Nat.le_of_ble_eq_true rfl⟩) (hp.V hE (show vwCl[2]? = some (RX2, TX2, 1) from rfl) rfl) rfl rfl hl.1 rfl (lv_room (Nat.le_of_ble_eq_true rfl)) dX1_addCorner_39 ⟨Nat.zero_le _, Nat.zero_le _⟩) (fun H locs M => ?_)
    have M : gM E A s.heap [[(ad 33, .inr (1, [.ref (ad 34), .ref (ad 36), .int (nI c), .int z.up, .int z.lo]))], rowW E (ad 34) (ad 35) 120 (rs 120 z.cf (nI c) n), rowW E (ad 36) (ad 37) 120 z.cd] H locs := M
    refine lv_aload_n S.1 S.2.1 dX1_addCorner_42 rfl (lv_at hl 0 rfl) ?_
    refine gget S hE M (C := RX1) (T := TX1) (N := 5) (ci := 1) (index := 20) hwi 0 rfl rfl 1 (by decide) (by decide +kernel) rfl dX1_addCorner_43 ?_
    refine lv_aload_n S.1 S.2.1 dX1_addCorner_46 rfl (lv_at hl 0 rfl) ?_
    refine gget S hE M (C := RX1) (T := TX1) (N := 5) (ci := 1) (index := 30) hwi 0 rfl rfl 2 (by decide) (by decide +kernel) rfl dX1_addCorner_47 ?_
    refine lv_iload_n S.1 S.2.1 dX1_addCorner_50 rfl (lv_at hl 2 rfl) ?_
    refine gcallv (L := [[(ad 33, .inr (1, [.ref (ad 34), .ref (ad 36), .int (nI c), .int z.up, .int z.lo]))], rowW E (ad 34) (ad 35) 120 (rs 120 z.cf (nI c) n)]) (Mid := [rowW E (ad 36) (ad 37) 120 z.cd]) (Rr := []) (Mid' := [rowW E (ad 36) (ad 37) 120 (rs 120 z.cd (nI c) d)]) hE M rfl (List.append_nil _) (List.append_nil _) (fun hp => va_runV (As := [.int (nI c), .int d]) (rest := []) S (c_X2_set l E (ad 36) (ad 37) 120 z.cd (nI c) d (by decide) _) (cwV 2 S.2.2.2.2 gX1_addCorner_X2_set rfl rfl rfl kd_X2_set ⟨Nat.le_of_ble_eq_true rfl, Nat.le_of_ble_eq_true rfl⟩) (hp.V hE (show vwCl[2]? = some (RX2, TX2, 1) from rfl) rfl) rfl rfl hl.1 rfl (lv_room (Nat.le_of_ble_eq_true rfl)) dX1_addCorner_51 ⟨Nat.zero_le _, Nat.zero_le _⟩) (fun H locs M => ?_)
    have M : gM E A s.heap [[(ad 33, .inr (1, [.ref (ad 34), .ref (ad 36), .int (nI c), .int z.up, .int z.lo]))], rowW E (ad 34) (ad 35) 120 (rs 120 z.cf (nI c) n), rowW E (ad 36) (ad 37) 120 (rs 120 z.cd (nI c) d)] H locs := M
    refine lv_aload_n S.1 S.2.1 dX1_addCorner_54 rfl (lv_at hl 0 rfl) ?_
    refine lv_dup S.1 S.2.1 dX1_addCorner_55 rfl ?_
    refine gget S hE M (C := RX1) (T := TX1) (N := 5) (ci := 1) (index := 30) hwi 0 rfl rfl 2 (by decide) (by decide +kernel) rfl dX1_addCorner_56 ?_
    refine lv_iconst (v := 1) S.1 S.2.1 dX1_addCorner_59 (by decide) ?_
    refine lv_iadd S.1 S.2.1 dX1_addCorner_60 ?_
    refine gtop (x' := nI (c + 1)) (nI_1 _) ?_
    refine gput S hE M (C := RX1) (T := TX1) (N := 5) (ci := 1) (index := 30) (Gs' := [[(ad 33, .inr (1, [.ref (ad 34), .ref (ad 36), .int (nI (c + 1)), .int z.up, .int z.lo]))], rowW E (ad 34) (ad 35) 120 (rs 120 z.cf (nI c) n), rowW E (ad 36) (ad 37) 120 (rs 120 z.cd (nI c) d)]) hwi tyX1 tyX1_ok nmX1 0 rfl rfl 2 (by decide) (by decide +kernel) rfl rfl rfl (Nat.le_of_ble_eq_true rfl) rfl dX1_addCorner_61 (fun H locs M => ?_)
    rw [← hQ]
    exact gvret S hr hlk M (by unfold LinS.addc; rw [hI]; rfl) dX1_addCorner_64
  have hL : ∀ (k : Nat), ∀ (c : Nat), c ≤ k → c ≤ 300 → popn z.cf z.cd n d z.cn = popn z.cf z.cd n d c → ∀ (H : Heap) (locs : List Loc), gM E A s.heap [[(ad 33, .inr (1, [.ref (ad 34), .ref (ad 36), .int (nI c), .int z.up, .int z.lo]))], rowW E (ad 34) (ad 35) 120 z.cf, rowW E (ad 36) (ad 37) 120 z.cd] H locs → ∀ ls : Array Slot, lv_has ls 3 [(0, .ref (ad 33)), (1, .int n), (2, .int d)] → W vp l ve (headSpec wsX1_addCorner (xrm 2 47)).room s vm ([.ref (ad 33), .int n, .int d] : List Value).toArray below meth vc H locs 0 0 Q (F0 vm 0 ls []) := by
    intro k
    induction k with
    | zero =>
      intro c hk hcc hI H locs M ls hl
      refine lv_aload_n S.1 S.2.1 dX1_addCorner_0 rfl (lv_at hl 0 rfl) ?_
      refine gget S hE M (C := RX1) (T := TX1) (N := 5) (ci := 1) (index := 30) hwi 0 rfl rfl 2 (by decide) (by decide +kernel) rfl dX1_addCorner_1 ?_
      refine lv_iconst (v := 2) S.1 S.2.1 dX1_addCorner_4 (by decide) ?_
      refine lv_icmp_lt (tgt := 30) S.1 S.2.1 dX1_addCorner_5 (by decide) (fun _ => ?_) (fun c_ => absurd (nI_lt (b := 2) (by omega) (by omega)) c_)
      exact hP c (by rw [hI, popn_lt (by omega)]) _ _ M ls (lv_sub hl [0, 1, 2] rfl)
    | succ k ih =>
      intro c hk hcc hI H locs M ls hl
      refine lv_aload_n S.1 S.2.1 dX1_addCorner_0 rfl (lv_at hl 0 rfl) ?_
      refine gget S hE M (C := RX1) (T := TX1) (N := 5) (ci := 1) (index := 30) hwi 0 rfl rfl 2 (by decide) (by decide +kernel) rfl dX1_addCorner_1 ?_
      refine lv_iconst (v := 2) S.1 S.2.1 dX1_addCorner_4 (by decide) ?_
      refine lv_icmp_lt (tgt := 30) S.1 S.2.1 dX1_addCorner_5 (by decide) (fun c5 => ?_) (fun c5 => ?_)
      ·
        have c2 : c < 2 := Nat.lt_of_not_le fun q => nI_nlt (a := c) (b := 2) q (by omega) c5
        exact hP c (by rw [hI, popn_lt (by omega)]) _ _ M ls (lv_sub hl [0, 1, 2] rfl)
      ·
        have c2 : 2 ≤ c := Nat.le_of_not_lt fun q => c5 (nI_lt (b := 2) q (by omega))
        refine lv_aload_n S.1 S.2.1 dX1_addCorner_8 rfl (lv_at hl 0 rfl) ?_
        refine lv_iload_n S.1 S.2.1 dX1_addCorner_9 rfl (lv_at hl 1 rfl) ?_
        refine lv_iload_n S.1 S.2.1 dX1_addCorner_10 rfl (lv_at hl 2 rfl) ?_
        refine gcalli (L := []) (Mid := linGs E ad ((z.cf, z.cd, c, z.up, z.lo) : LinS)) (Rr := []) (Mid' := linGs E ad ((z.cf, z.cd, c, z.up, z.lo) : LinS)) hE M rfl (rfl) (rfl) (fun hp => va_runV (As := [.int n, .int d]) (rest := []) S (c_X1_lastIsNotBelow l E ad ((z.cf, z.cd, c, z.up, z.lo) : LinS) n d  _) (cwV 2 S.2.2.2.2 gX1_addCorner_X1_lastIsNotBelow rfl rfl rfl kd_X1_lastIsNotBelow ⟨Nat.le_of_ble_eq_true rfl, Nat.le_of_ble_eq_true rfl⟩) (hp.V hE (show vwCl[1]? = some (RX1, TX1, 5) from rfl) rfl) rfl rfl hl.1 rfl (lv_room (Nat.le_of_ble_eq_true rfl)) dX1_addCorner_11 ⟨Nat.zero_le _, Nat.zero_le _⟩) (fun H locs M => ?_)
        have M : gM E A s.heap [[(ad 33, .inr (1, [.ref (ad 34), .ref (ad 36), .int (nI c), .int z.up, .int z.lo]))], rowW E (ad 34) (ad 35) 120 z.cf, rowW E (ad 36) (ad 37) 120 z.cd] H locs := M
        refine lv_if_eq (tgt := 30) S.1 S.2.1 dX1_addCorner_14 (by decide) (fun c14 => ?_) (fun c14 => ?_)
        ·
          exact hP c (by rw [hI, popn_ge c2, if_pos c14]) _ _ M ls (lv_sub hl [0, 1, 2] rfl)
        ·
          refine lv_aload_n S.1 S.2.1 dX1_addCorner_17 rfl (lv_at hl 0 rfl) ?_
          refine lv_dup S.1 S.2.1 dX1_addCorner_18 rfl ?_
          refine gget S hE M (C := RX1) (T := TX1) (N := 5) (ci := 1) (index := 30) hwi 0 rfl rfl 2 (by decide) (by decide +kernel) rfl dX1_addCorner_19 ?_
          refine lv_iconst (v := 1) S.1 S.2.1 dX1_addCorner_22 (by decide) ?_
          refine lv_isub S.1 S.2.1 dX1_addCorner_23 ?_
          refine gtop (x' := nI (c - 1)) (nI_dec (by omega)) ?_
          refine gput S hE M (C := RX1) (T := TX1) (N := 5) (ci := 1) (index := 30) (Gs' := [[(ad 33, .inr (1, [.ref (ad 34), .ref (ad 36), .int (nI (c - 1)), .int z.up, .int z.lo]))], rowW E (ad 34) (ad 35) 120 z.cf, rowW E (ad 36) (ad 37) 120 z.cd]) hwi tyX1 tyX1_ok nmX1 0 rfl rfl 2 (by decide) (by decide +kernel) rfl rfl rfl (Nat.le_of_ble_eq_true rfl) rfl dX1_addCorner_24 (fun H locs M => ?_)
          refine lv_goto (tgt := 0) S.1 S.2.1 dX1_addCorner_27 (by decide) ?_
          exact ih (c - 1) (by omega) (by omega) (by rw [hI, popn_ge c2, if_neg c14]) _ _ M ls (lv_sub hl [0, 1, 2] rfl)
  exact hL z.cn z.cn (Nat.le_refl _) hc rfl _ _ M ls (lv_sub hl [0, 1, 2] rfl)

set_option maxHeartbeats 4000000 in
set_option maxRecDepth 100000 in
theorem c_X1_greatestDivisor (l : Launch) (E : xE) (a : Int32) (b : Int32) : mI l yX1_greatestDivisor wsX1_greatestDivisor (xrm 0 0) E [.int a, .int b] (([] : List va_W)) (gdl 64 a b) (([] : List va_W)) := by
  intro sz
  refine Met.ofW (cc := cX1_greatestDivisor) (maxL := 6) (ret := (some .int)) (by decide +kernel) rfl ?_
  intro vp ve s vm args below meth vc s₁ B hml hv
  obtain ⟨rfl, S, hr, hlk, hnm, A, hA, hE, M⟩ := genter B hml hv
  rw [hA]
  obtain ⟨ls, hfr, hl⟩ := gst (m := vm) (as := [.int a, .int b]) (n := 6) (Nat.le_of_ble_eq_true rfl)
  rw [hfr]
  clear hfr hA
  have hl : lv_has ls 6 [(0, .int a), (1, .int b)] := hl
  have M : gM E A s.heap [] s.heap [] := M
  obtain ⟨Q, hQ⟩ : ∃ Q : State → Prop, MQ below (va_Qi (fun x (_ : Unit) => x = (gdl 64 a b)) (fun _ => kQ E A (([] : List va_W))) A) ([.int a, .int b] : List Value).toArray s 0 0 A = Q := ⟨_, rfl⟩
  rw [hQ]
  have hL : ∀ (n : Nat), ∀ (r : Nat) (x y : Int32), r + n = 64 → gdl 64 a b = gdl n x y → ∀ (H : Heap) (locs : List Loc), gM E A s.heap [] H locs → ∀ ls : Array Slot, lv_has ls 6 [(0, .int a), (1, .int b), (2, .int x), (3, .int y), (4, .int (nI r))] → W vp l ve (headSpec wsX1_greatestDivisor (xrm 0 0)).room s vm ([.int a, .int b] : List Value).toArray below meth vc H locs 0 0 Q (F0 vm 7 ls []) := by
    intro n
    induction n with
    | zero =>
      intro r x y hi hI H locs M ls hl
      refine lv_iload S.1 S.2.1 dX1_greatestDivisor_7 (lv_at hl 4 rfl) ?_
      refine lv_bipush (v := 64) S.1 S.2.1 dX1_greatestDivisor_9 (by decide) ?_
      refine lv_icmp_ge (tgt := 34) S.1 S.2.1 dX1_greatestDivisor_11 (by decide) (fun _ => ?_) (fun c_ => absurd (nI_le (a := 64) (by omega) (by omega)) c_)
      refine lv_iload_n S.1 S.2.1 dX1_greatestDivisor_34 rfl (lv_at hl 2 rfl) ?_
      rw [← hQ]
      exact giret S hr hlk M (by rw [hI, gdl]) (rfl) dX1_greatestDivisor_35
    | succ n ih =>
      intro r x y hi hI H locs M ls hl
      refine lv_iload S.1 S.2.1 dX1_greatestDivisor_7 (lv_at hl 4 rfl) ?_
      refine lv_bipush (v := 64) S.1 S.2.1 dX1_greatestDivisor_9 (by decide) ?_
      refine lv_icmp_ge (tgt := 34) S.1 S.2.1 dX1_greatestDivisor_11 (by decide) (fun c_ => absurd c_ (nI_ge (b := 64) (by omega) (by omega))) (fun _ => ?_)
      refine lv_iload_n S.1 S.2.1 dX1_greatestDivisor_14 rfl (lv_at hl 3 rfl) ?_
      refine lv_if_eq (tgt := 34) S.1 S.2.1 dX1_greatestDivisor_15 (by decide) (fun c15 => ?_) (fun c15 => ?_)
      ·
        refine lv_iload_n S.1 S.2.1 dX1_greatestDivisor_34 rfl (lv_at hl 2 rfl) ?_
        rw [← hQ]
        exact giret S hr hlk M (by rw [hI, gdl, if_pos c15]) (rfl) dX1_greatestDivisor_35
      ·
        refine lv_iload_n S.1 S.2.1 dX1_greatestDivisor_18 rfl (lv_at hl 2 rfl) ?_
        refine lv_iload_n S.1 S.2.1 dX1_greatestDivisor_19 rfl (lv_at hl 3 rfl) ?_
        refine lv_irem S.1 S.2.1 dX1_greatestDivisor_20 (c15) ?_
        refine lv_istore (lv' := [(5, .int (x - x / y * y)), (0, .int a), (1, .int b), (2, .int x), (3, .int y), (4, .int (nI r))]) S.1 S.2.1 dX1_greatestDivisor_21 hl (by decide) rfl (fun ls hl => ?_)
        refine lv_iload_n S.1 S.2.1 dX1_greatestDivisor_23 rfl (lv_at hl 4 rfl) ?_
        refine lv_istore_n (lv' := [(2, .int y), (5, .int (x - x / y * y)), (0, .int a), (1, .int b), (3, .int y), (4, .int (nI r))]) S.1 S.2.1 dX1_greatestDivisor_24 rfl hl (by decide) rfl (fun ls hl => ?_)
        refine lv_iload S.1 S.2.1 dX1_greatestDivisor_25 (lv_at hl 1 rfl) ?_
        refine lv_istore_n (lv' := [(3, .int (x - x / y * y)), (2, .int y), (5, .int (x - x / y * y)), (0, .int a), (1, .int b), (4, .int (nI r))]) S.1 S.2.1 dX1_greatestDivisor_27 rfl hl (by decide) rfl (fun ls hl => ?_)
        refine lv_iinc (v := nI (r + 1)) (lv' := [(4, .int (nI (r + 1))), (3, .int (x - x / y * y)), (2, .int y), (5, .int (x - x / y * y)), (0, .int a), (1, .int b)]) S.1 S.2.1 dX1_greatestDivisor_28 hl (k := 5) rfl (nI_1 _) (by decide) rfl (fun ls hl => ?_)
        refine lv_goto (tgt := 7) S.1 S.2.1 dX1_greatestDivisor_31 (by decide) ?_
        exact ih (r + 1) _ _ (by omega) (by rw [hI, gdl, if_neg c15]) _ _ M ls (lv_sub hl [4, 5, 2, 1, 0] rfl)
  refine lv_iload_n S.1 S.2.1 dX1_greatestDivisor_0 rfl (lv_at hl 0 rfl) ?_
  refine lv_istore_n (lv' := [(2, .int a), (0, .int a), (1, .int b)]) S.1 S.2.1 dX1_greatestDivisor_1 rfl hl (by decide) rfl (fun ls hl => ?_)
  refine lv_iload_n S.1 S.2.1 dX1_greatestDivisor_2 rfl (lv_at hl 2 rfl) ?_
  refine lv_istore_n (lv' := [(3, .int b), (2, .int a), (0, .int a), (1, .int b)]) S.1 S.2.1 dX1_greatestDivisor_3 rfl hl (by decide) rfl (fun ls hl => ?_)
  refine lv_iconst (v := 0) S.1 S.2.1 dX1_greatestDivisor_4 (by decide) ?_
  refine lv_istore (lv' := [(4, .int 0), (3, .int b), (2, .int a), (0, .int a), (1, .int b)]) S.1 S.2.1 dX1_greatestDivisor_5 hl (by decide) rfl (fun ls hl => ?_)
  exact hL 64 0 a b (by omega) rfl _ _ M ls (lv_sub hl [3, 4, 2, 1, 0] rfl)

set_option maxHeartbeats 4000000 in
set_option maxRecDepth 100000 in
theorem c_X1_setRise (l : Launch) (E : xE) (ad : Nat → Nat) (z : LinS) (d : Int32) (f : Int32) : mV l yX1_setRise wsX1_setRise (xrm 1 25) E [.ref (ad 33), .int d, .int f] (linGs E ad z) (linGs E ad (LinS.rise z d f)) := by
  intro sz
  refine Met.ofW (cc := cX1_setRise) (maxL := 4) (ret := none) (by decide +kernel) rfl ?_
  intro vp ve s vm args below meth vc s₁ B hml hv
  obtain ⟨rfl, S, hr, hlk, hnm, A, hA, hE, M⟩ := genter B hml hv
  rw [hA]
  obtain ⟨ls, hfr, hl⟩ := gst (m := vm) (as := [.ref (ad 33), .int d, .int f]) (n := 4) (Nat.le_of_ble_eq_true rfl)
  rw [hfr]
  clear hfr hA
  have hl : lv_has ls 4 [(0, .ref (ad 33)), (1, .int d), (2, .int f)] := hl
  have M : gM E A s.heap [[(ad 33, .inr (1, [.ref (ad 34), .ref (ad 36), .int (nI z.cn), .int z.up, .int z.lo]))], rowW E (ad 34) (ad 35) 120 z.cf, rowW E (ad 36) (ad 37) 120 z.cd] s.heap [] := M
  have hwi : ∀ w ∈ u_ws RX1 TX1 5, w ∈ wsX1_setRise := by decide +kernel
  refine lv_iload_n S.1 S.2.1 dX1_setRise_0 rfl (lv_at hl 1 rfl) ?_
  refine va_mabs S.1 S.2.1 (by rw [hl.1]; exact S.2.2.1) S.2.2.2.1 (S.2.2.2.2 (.methodLink RX1 62 Lib.Math.abs.name) (by decide +kernel)) (S.2.2.2.2 (.static Lib.Math.abs.name) (by decide +kernel)) (S.2.2.2.2 (.initialized "java/lang/Math") (by decide +kernel)) (S.2.2.2.2 (.code Lib.Math.abs.name Lib.Math.abs.code 1 (some .int)) (by decide +kernel)) (Nat.le_of_ble_eq_true rfl) (Nat.le_of_ble_eq_true rfl) (Nat.zero_le _) (Nat.zero_le _) dX1_setRise_1 ?_
  refine lv_iload_n S.1 S.2.1 dX1_setRise_4 rfl (lv_at hl 2 rfl) ?_
  refine gcalli (L := []) (Mid := []) (Rr := [[(ad 33, .inr (1, [.ref (ad 34), .ref (ad 36), .int (nI z.cn), .int z.up, .int z.lo]))], rowW E (ad 34) (ad 35) 120 z.cf, rowW E (ad 36) (ad 37) 120 z.cd]) (Mid' := []) hE M rfl (rfl) (rfl) (fun hp => va_runS (As := [.int (iabs d), .int f]) (rest := []) S (c_X1_greatestDivisor l E (iabs d) f _) (va_cwS 2 S.2.2.2.2 gX1_setRise_X1_greatestDivisor rfl rfl rfl kd_X1_greatestDivisor.2 ⟨Nat.le_of_ble_eq_true rfl, Nat.le_of_ble_eq_true rfl⟩) hp.S rfl rfl hl.1 rfl (lv_room (Nat.le_of_ble_eq_true rfl)) dX1_setRise_5 ⟨Nat.zero_le _, Nat.zero_le _⟩) (fun H locs M => ?_)
  have M : gM E A s.heap [[(ad 33, .inr (1, [.ref (ad 34), .ref (ad 36), .int (nI z.cn), .int z.up, .int z.lo]))], rowW E (ad 34) (ad 35) 120 z.cf, rowW E (ad 36) (ad 37) 120 z.cd] H locs := M
  refine lv_istore_n (lv' := [(3, .int (gdl 64 (iabs d) f)), (0, .ref (ad 33)), (1, .int d), (2, .int f)]) S.1 S.2.1 dX1_setRise_8 rfl hl (by decide) rfl (fun ls hl => ?_)
  refine lv_iload_n S.1 S.2.1 dX1_setRise_9 rfl (lv_at hl 0 rfl) ?_
  refine lv_if_le (tgt := 27) S.1 S.2.1 dX1_setRise_10 (by decide) (fun c10 => ?_) (fun c10 => ?_)
  ·
    exact gvret S hr hlk M (by unfold LinS.rise; rw [if_pos c10]; rfl) dX1_setRise_27
  ·
    refine lv_aload_n S.1 S.2.1 dX1_setRise_13 rfl (lv_at hl 1 rfl) ?_
    refine lv_iload_n S.1 S.2.1 dX1_setRise_14 rfl (lv_at hl 2 rfl) ?_
    refine lv_iload_n S.1 S.2.1 dX1_setRise_15 rfl (lv_at hl 0 rfl) ?_
    refine lv_idiv S.1 S.2.1 dX1_setRise_16 (fun q => c10 (by rw [q]; decide)) ?_
    refine gput S hE M (C := RX1) (T := TX1) (N := 5) (ci := 1) (index := 27) (Gs' := [[(ad 33, .inr (1, [.ref (ad 34), .ref (ad 36), .int (nI z.cn), .int (d / (gdl 64 (iabs d) f)), .int z.lo]))], rowW E (ad 34) (ad 35) 120 z.cf, rowW E (ad 36) (ad 37) 120 z.cd]) hwi tyX1 tyX1_ok nmX1 0 rfl rfl 3 (by decide) (by decide +kernel) rfl rfl rfl (Nat.le_of_ble_eq_true rfl) rfl dX1_setRise_17 (fun H locs M => ?_)
    refine lv_aload_n S.1 S.2.1 dX1_setRise_20 rfl (lv_at hl 1 rfl) ?_
    refine lv_iload_n S.1 S.2.1 dX1_setRise_21 rfl (lv_at hl 3 rfl) ?_
    refine lv_iload_n S.1 S.2.1 dX1_setRise_22 rfl (lv_at hl 0 rfl) ?_
    refine lv_idiv S.1 S.2.1 dX1_setRise_23 (fun q => c10 (by rw [q]; decide)) ?_
    refine gput S hE M (C := RX1) (T := TX1) (N := 5) (ci := 1) (index := 23) (Gs' := [[(ad 33, .inr (1, [.ref (ad 34), .ref (ad 36), .int (nI z.cn), .int (d / (gdl 64 (iabs d) f)), .int (f / (gdl 64 (iabs d) f))]))], rowW E (ad 34) (ad 35) 120 z.cf, rowW E (ad 36) (ad 37) 120 z.cd]) hwi tyX1 tyX1_ok nmX1 0 rfl rfl 4 (by decide) (by decide +kernel) rfl rfl rfl (Nat.le_of_ble_eq_true rfl) rfl dX1_setRise_24 (fun H locs M => ?_)
    exact gvret S hr hlk M (by unfold LinS.rise; rw [if_neg c10]; rfl) dX1_setRise_27

set_option maxHeartbeats 4000000 in
set_option maxRecDepth 100000 in
theorem c_X1_takeRiseAtMiddle (l : Launch) (E : xE) (ad : Nat → Nat) (z : LinS) (hc : z.cn ≤ 300) : mV l yX1_takeRiseAtMiddle wsX1_takeRiseAtMiddle (xrm 2 48) E [.ref (ad 33)] (linGs E ad z) (linGs E ad (LinS.take z)) := by
  intro sz
  refine Met.ofW (cc := cX1_takeRiseAtMiddle) (maxL := 3) (ret := none) (by decide +kernel) rfl ?_
  intro vp ve s vm args below meth vc s₁ B hml hv
  obtain ⟨rfl, S, hr, hlk, hnm, A, hA, hE, M⟩ := genter B hml hv
  rw [hA]
  obtain ⟨ls, hfr, hl⟩ := gst (m := vm) (as := [.ref (ad 33)]) (n := 3) (Nat.le_of_ble_eq_true rfl)
  rw [hfr]
  clear hfr hA
  have hl : lv_has ls 3 [(0, .ref (ad 33))] := hl
  have M : gM E A s.heap [[(ad 33, .inr (1, [.ref (ad 34), .ref (ad 36), .int (nI z.cn), .int z.up, .int z.lo]))], rowW E (ad 34) (ad 35) 120 z.cf, rowW E (ad 36) (ad 37) 120 z.cd] s.heap [] := M
  have hwi : ∀ w ∈ u_ws RX1 TX1 5, w ∈ wsX1_takeRiseAtMiddle := by decide +kernel
  obtain ⟨Q, hQ⟩ : ∃ Q : State → Prop, MQ below (va_Qv (fun (_ : Unit) => True) (fun _ => kQ E A (linGs E ad (LinS.take z))) A) ([.ref (ad 33)] : List Value).toArray s 0 0 A = Q := ⟨_, rfl⟩
  rw [hQ]
  have hL : ∀ (n : Nat), ∀ (c : Nat), c + n = z.cn ∨ (z.cn = 0 ∧ n = 0) → c ≤ 400 → z.take = tkl z (rg 120 z.cf 0 + rg 120 z.cf (nI z.cn - 1)) n c → ∀ (H : Heap) (locs : List Loc), gM E A s.heap [[(ad 33, .inr (1, [.ref (ad 34), .ref (ad 36), .int (nI z.cn), .int z.up, .int z.lo]))], rowW E (ad 34) (ad 35) 120 z.cf, rowW E (ad 36) (ad 37) 120 z.cd] H locs → ∀ ls : Array Slot, lv_has ls 3 [(0, .ref (ad 33)), (1, .int (rg 120 z.cf 0 + rg 120 z.cf (nI z.cn - 1))), (2, .int (nI c))] → W vp l ve (headSpec wsX1_takeRiseAtMiddle (xrm 2 48)).room s vm ([.ref (ad 33)] : List Value).toArray below meth vc H locs 0 0 Q (F0 vm 25 ls []) := by
    intro n
    induction n with
    | zero =>
      intro c hi hj hI H locs M ls hl
      refine lv_iload_n S.1 S.2.1 dX1_takeRiseAtMiddle_25 rfl (lv_at hl 2 rfl) ?_
      refine lv_aload_n S.1 S.2.1 dX1_takeRiseAtMiddle_26 rfl (lv_at hl 0 rfl) ?_
      refine gget S hE M (C := RX1) (T := TX1) (N := 5) (ci := 1) (index := 30) hwi 0 rfl rfl 2 (by decide) (by decide +kernel) rfl dX1_takeRiseAtMiddle_27 ?_
      refine lv_icmp_ge (tgt := 96) S.1 S.2.1 dX1_takeRiseAtMiddle_30 (by decide) (fun _ => ?_) (fun c_ => absurd (nI_le (by omega) (by omega)) c_)
      rw [← hQ]
      exact gvret S hr hlk M (by rw [hI, tkl]; rfl) dX1_takeRiseAtMiddle_96
    | succ n ih =>
      intro c hi hj hI H locs M ls hl
      refine lv_iload_n S.1 S.2.1 dX1_takeRiseAtMiddle_25 rfl (lv_at hl 2 rfl) ?_
      refine lv_aload_n S.1 S.2.1 dX1_takeRiseAtMiddle_26 rfl (lv_at hl 0 rfl) ?_
      refine gget S hE M (C := RX1) (T := TX1) (N := 5) (ci := 1) (index := 30) hwi 0 rfl rfl 2 (by decide) (by decide +kernel) rfl dX1_takeRiseAtMiddle_27 ?_
      refine lv_icmp_ge (tgt := 96) S.1 S.2.1 dX1_takeRiseAtMiddle_30 (by decide) (fun c_ => absurd c_ (nI_ge (by omega) (by omega))) (fun _ => ?_)
      refine lv_iconst (v := 2) S.1 S.2.1 dX1_takeRiseAtMiddle_33 (by decide) ?_
      refine lv_aload_n S.1 S.2.1 dX1_takeRiseAtMiddle_34 rfl (lv_at hl 0 rfl) ?_
      refine gget S hE M (C := RX1) (T := TX1) (N := 5) (ci := 1) (index := 14) hwi 0 rfl rfl 0 (by decide) (by decide +kernel) rfl dX1_takeRiseAtMiddle_35 ?_
      refine lv_iload_n S.1 S.2.1 dX1_takeRiseAtMiddle_38 rfl (lv_at hl 2 rfl) ?_
      refine gcalli (L := [[(ad 33, .inr (1, [.ref (ad 34), .ref (ad 36), .int (nI z.cn), .int z.up, .int z.lo]))]]) (Mid := [rowW E (ad 34) (ad 35) 120 z.cf]) (Rr := [rowW E (ad 36) (ad 37) 120 z.cd]) (Mid' := [rowW E (ad 34) (ad 35) 120 z.cf]) hE M rfl (List.append_nil _) (List.append_nil _) (fun hp => va_runV (As := [.int (nI c)]) (rest := [.int 2]) S (c_X2_get l E (ad 34) (ad 35) 120 z.cf (nI c) (by decide) _) (cwV 1 S.2.2.2.2 gX1_takeRiseAtMiddle_X2_get rfl rfl rfl kd_X2_get ⟨Nat.le_of_ble_eq_true rfl, Nat.le_of_ble_eq_true rfl⟩) (hp.V hE (show vwCl[2]? = some (RX2, TX2, 1) from rfl) rfl) rfl rfl hl.1 rfl (lv_room (Nat.le_of_ble_eq_true rfl)) dX1_takeRiseAtMiddle_39 ⟨Nat.zero_le _, Nat.zero_le _⟩) (fun H locs M => ?_)
      have M : gM E A s.heap [[(ad 33, .inr (1, [.ref (ad 34), .ref (ad 36), .int (nI z.cn), .int z.up, .int z.lo]))], rowW E (ad 34) (ad 35) 120 z.cf, rowW E (ad 36) (ad 37) 120 z.cd] H locs := M
      refine lv_imul S.1 S.2.1 dX1_takeRiseAtMiddle_42 ?_
      refine lv_iload_n S.1 S.2.1 dX1_takeRiseAtMiddle_43 rfl (lv_at hl 1 rfl) ?_
      refine lv_icmp_lt (tgt := 90) S.1 S.2.1 dX1_takeRiseAtMiddle_44 (by decide) (fun c44 => ?_) (fun c44 => ?_)
      ·
        refine lv_iinc (v := nI (c + 1)) (lv' := [(2, .int (nI (c + 1))), (0, .ref (ad 33)), (1, .int (rg 120 z.cf 0 + rg 120 z.cf (nI z.cn - 1)))]) S.1 S.2.1 dX1_takeRiseAtMiddle_90 hl (k := 2) rfl (nI_1 _) (by decide) rfl (fun ls hl => ?_)
        refine lv_goto (tgt := 25) S.1 S.2.1 dX1_takeRiseAtMiddle_93 (by decide) ?_
        exact ih (c + 1) (by omega) (by omega) (by rw [hI, tkl, if_pos c44]) _ _ M ls (lv_sub hl [1, 2, 0] rfl)
      ·
        refine lv_aload_n S.1 S.2.1 dX1_takeRiseAtMiddle_47 rfl (lv_at hl 0 rfl) ?_
        refine lv_aload_n S.1 S.2.1 dX1_takeRiseAtMiddle_48 rfl (lv_at hl 0 rfl) ?_
        refine gget S hE M (C := RX1) (T := TX1) (N := 5) (ci := 1) (index := 20) hwi 0 rfl rfl 1 (by decide) (by decide +kernel) rfl dX1_takeRiseAtMiddle_49 ?_
        refine lv_iload_n S.1 S.2.1 dX1_takeRiseAtMiddle_52 rfl (lv_at hl 2 rfl) ?_
        refine gcalli (L := [[(ad 33, .inr (1, [.ref (ad 34), .ref (ad 36), .int (nI z.cn), .int z.up, .int z.lo]))], rowW E (ad 34) (ad 35) 120 z.cf]) (Mid := [rowW E (ad 36) (ad 37) 120 z.cd]) (Rr := []) (Mid' := [rowW E (ad 36) (ad 37) 120 z.cd]) hE M rfl (List.append_nil _) (List.append_nil _) (fun hp => va_runV (As := [.int (nI c)]) (rest := [.ref (ad 33)]) S (c_X2_get l E (ad 36) (ad 37) 120 z.cd (nI c) (by decide) _) (cwV 1 S.2.2.2.2 gX1_takeRiseAtMiddle_X2_get rfl rfl rfl kd_X2_get ⟨Nat.le_of_ble_eq_true rfl, Nat.le_of_ble_eq_true rfl⟩) (hp.V hE (show vwCl[2]? = some (RX2, TX2, 1) from rfl) rfl) rfl rfl hl.1 rfl (lv_room (Nat.le_of_ble_eq_true rfl)) dX1_takeRiseAtMiddle_53 ⟨Nat.zero_le _, Nat.zero_le _⟩) (fun H locs M => ?_)
        have M : gM E A s.heap [[(ad 33, .inr (1, [.ref (ad 34), .ref (ad 36), .int (nI z.cn), .int z.up, .int z.lo]))], rowW E (ad 34) (ad 35) 120 z.cf, rowW E (ad 36) (ad 37) 120 z.cd] H locs := M
        refine lv_aload_n S.1 S.2.1 dX1_takeRiseAtMiddle_56 rfl (lv_at hl 0 rfl) ?_
        refine gget S hE M (C := RX1) (T := TX1) (N := 5) (ci := 1) (index := 20) hwi 0 rfl rfl 1 (by decide) (by decide +kernel) rfl dX1_takeRiseAtMiddle_57 ?_
        refine lv_iload_n S.1 S.2.1 dX1_takeRiseAtMiddle_60 rfl (lv_at hl 2 rfl) ?_
        refine lv_iconst (v := 1) S.1 S.2.1 dX1_takeRiseAtMiddle_61 (by decide) ?_
        refine lv_isub S.1 S.2.1 dX1_takeRiseAtMiddle_62 ?_
        refine gcalli (L := [[(ad 33, .inr (1, [.ref (ad 34), .ref (ad 36), .int (nI z.cn), .int z.up, .int z.lo]))], rowW E (ad 34) (ad 35) 120 z.cf]) (Mid := [rowW E (ad 36) (ad 37) 120 z.cd]) (Rr := []) (Mid' := [rowW E (ad 36) (ad 37) 120 z.cd]) hE M rfl (List.append_nil _) (List.append_nil _) (fun hp => va_runV (As := [.int ((nI c) - 1)]) (rest := [.int (rg 120 z.cd (nI c)), .ref (ad 33)]) S (c_X2_get l E (ad 36) (ad 37) 120 z.cd ((nI c) - 1) (by decide) _) (cwV 1 S.2.2.2.2 gX1_takeRiseAtMiddle_X2_get rfl rfl rfl kd_X2_get ⟨Nat.le_of_ble_eq_true rfl, Nat.le_of_ble_eq_true rfl⟩) (hp.V hE (show vwCl[2]? = some (RX2, TX2, 1) from rfl) rfl) rfl rfl hl.1 rfl (lv_room (Nat.le_of_ble_eq_true rfl)) dX1_takeRiseAtMiddle_63 ⟨Nat.zero_le _, Nat.zero_le _⟩) (fun H locs M => ?_)
        have M : gM E A s.heap [[(ad 33, .inr (1, [.ref (ad 34), .ref (ad 36), .int (nI z.cn), .int z.up, .int z.lo]))], rowW E (ad 34) (ad 35) 120 z.cf, rowW E (ad 36) (ad 37) 120 z.cd] H locs := M
        refine lv_isub S.1 S.2.1 dX1_takeRiseAtMiddle_66 ?_
        refine lv_aload_n S.1 S.2.1 dX1_takeRiseAtMiddle_67 rfl (lv_at hl 0 rfl) ?_
        refine gget S hE M (C := RX1) (T := TX1) (N := 5) (ci := 1) (index := 14) hwi 0 rfl rfl 0 (by decide) (by decide +kernel) rfl dX1_takeRiseAtMiddle_68 ?_
        refine lv_iload_n S.1 S.2.1 dX1_takeRiseAtMiddle_71 rfl (lv_at hl 2 rfl) ?_
        refine gcalli (L := [[(ad 33, .inr (1, [.ref (ad 34), .ref (ad 36), .int (nI z.cn), .int z.up, .int z.lo]))]]) (Mid := [rowW E (ad 34) (ad 35) 120 z.cf]) (Rr := [rowW E (ad 36) (ad 37) 120 z.cd]) (Mid' := [rowW E (ad 34) (ad 35) 120 z.cf]) hE M rfl (List.append_nil _) (List.append_nil _) (fun hp => va_runV (As := [.int (nI c)]) (rest := [.int ((rg 120 z.cd (nI c)) - (rg 120 z.cd ((nI c) - 1))), .ref (ad 33)]) S (c_X2_get l E (ad 34) (ad 35) 120 z.cf (nI c) (by decide) _) (cwV 1 S.2.2.2.2 gX1_takeRiseAtMiddle_X2_get rfl rfl rfl kd_X2_get ⟨Nat.le_of_ble_eq_true rfl, Nat.le_of_ble_eq_true rfl⟩) (hp.V hE (show vwCl[2]? = some (RX2, TX2, 1) from rfl) rfl) rfl rfl hl.1 rfl (lv_room (Nat.le_of_ble_eq_true rfl)) dX1_takeRiseAtMiddle_72 ⟨Nat.zero_le _, Nat.zero_le _⟩) (fun H locs M => ?_)
        have M : gM E A s.heap [[(ad 33, .inr (1, [.ref (ad 34), .ref (ad 36), .int (nI z.cn), .int z.up, .int z.lo]))], rowW E (ad 34) (ad 35) 120 z.cf, rowW E (ad 36) (ad 37) 120 z.cd] H locs := M
        refine lv_aload_n S.1 S.2.1 dX1_takeRiseAtMiddle_75 rfl (lv_at hl 0 rfl) ?_
        refine gget S hE M (C := RX1) (T := TX1) (N := 5) (ci := 1) (index := 14) hwi 0 rfl rfl 0 (by decide) (by decide +kernel) rfl dX1_takeRiseAtMiddle_76 ?_
        refine lv_iload_n S.1 S.2.1 dX1_takeRiseAtMiddle_79 rfl (lv_at hl 2 rfl) ?_
        refine lv_iconst (v := 1) S.1 S.2.1 dX1_takeRiseAtMiddle_80 (by decide) ?_
        refine lv_isub S.1 S.2.1 dX1_takeRiseAtMiddle_81 ?_
        refine gcalli (L := [[(ad 33, .inr (1, [.ref (ad 34), .ref (ad 36), .int (nI z.cn), .int z.up, .int z.lo]))]]) (Mid := [rowW E (ad 34) (ad 35) 120 z.cf]) (Rr := [rowW E (ad 36) (ad 37) 120 z.cd]) (Mid' := [rowW E (ad 34) (ad 35) 120 z.cf]) hE M rfl (List.append_nil _) (List.append_nil _) (fun hp => va_runV (As := [.int ((nI c) - 1)]) (rest := [.int (rg 120 z.cf (nI c)), .int ((rg 120 z.cd (nI c)) - (rg 120 z.cd ((nI c) - 1))), .ref (ad 33)]) S (c_X2_get l E (ad 34) (ad 35) 120 z.cf ((nI c) - 1) (by decide) _) (cwV 1 S.2.2.2.2 gX1_takeRiseAtMiddle_X2_get rfl rfl rfl kd_X2_get ⟨Nat.le_of_ble_eq_true rfl, Nat.le_of_ble_eq_true rfl⟩) (hp.V hE (show vwCl[2]? = some (RX2, TX2, 1) from rfl) rfl) rfl rfl hl.1 rfl (lv_room (Nat.le_of_ble_eq_true rfl)) dX1_takeRiseAtMiddle_82 ⟨Nat.zero_le _, Nat.zero_le _⟩) (fun H locs M => ?_)
        have M : gM E A s.heap [[(ad 33, .inr (1, [.ref (ad 34), .ref (ad 36), .int (nI z.cn), .int z.up, .int z.lo]))], rowW E (ad 34) (ad 35) 120 z.cf, rowW E (ad 36) (ad 37) 120 z.cd] H locs := M
        refine lv_isub S.1 S.2.1 dX1_takeRiseAtMiddle_85 ?_
        refine gcallv (L := []) (Mid := linGs E ad z) (Rr := []) (Mid' := linGs E ad (LinS.rise z ((rg 120 z.cd (nI c)) - (rg 120 z.cd ((nI c) - 1))) ((rg 120 z.cf (nI c)) - (rg 120 z.cf ((nI c) - 1))))) hE M rfl (rfl) (rfl) (fun hp => va_runV (As := [.int ((rg 120 z.cd (nI c)) - (rg 120 z.cd ((nI c) - 1))), .int ((rg 120 z.cf (nI c)) - (rg 120 z.cf ((nI c) - 1)))]) (rest := []) S (c_X1_setRise l E ad z ((rg 120 z.cd (nI c)) - (rg 120 z.cd ((nI c) - 1))) ((rg 120 z.cf (nI c)) - (rg 120 z.cf ((nI c) - 1)))  _) (cwV 2 S.2.2.2.2 gX1_takeRiseAtMiddle_X1_setRise rfl rfl rfl kd_X1_setRise ⟨Nat.le_of_ble_eq_true rfl, Nat.le_of_ble_eq_true rfl⟩) (hp.V hE (show vwCl[1]? = some (RX1, TX1, 5) from rfl) rfl) rfl rfl hl.1 rfl (lv_room (Nat.le_of_ble_eq_true rfl)) dX1_takeRiseAtMiddle_86 ⟨Nat.zero_le _, Nat.zero_le _⟩) (fun H locs M => ?_)
        have M : gM E A s.heap [[(ad 33, .inr (1, [.ref (ad 34), .ref (ad 36), .int (nI (LinS.rise z ((rg 120 z.cd (nI c)) - (rg 120 z.cd ((nI c) - 1))) ((rg 120 z.cf (nI c)) - (rg 120 z.cf ((nI c) - 1)))).cn), .int ((LinS.rise z ((rg 120 z.cd (nI c)) - (rg 120 z.cd ((nI c) - 1))) ((rg 120 z.cf (nI c)) - (rg 120 z.cf ((nI c) - 1)))).up), .int ((LinS.rise z ((rg 120 z.cd (nI c)) - (rg 120 z.cd ((nI c) - 1))) ((rg 120 z.cf (nI c)) - (rg 120 z.cf ((nI c) - 1)))).lo)]))], rowW E (ad 34) (ad 35) 120 ((LinS.rise z ((rg 120 z.cd (nI c)) - (rg 120 z.cd ((nI c) - 1))) ((rg 120 z.cf (nI c)) - (rg 120 z.cf ((nI c) - 1)))).cf), rowW E (ad 36) (ad 37) 120 ((LinS.rise z ((rg 120 z.cd (nI c)) - (rg 120 z.cd ((nI c) - 1))) ((rg 120 z.cf (nI c)) - (rg 120 z.cf ((nI c) - 1)))).cd)] H locs := M
        rw [← hQ]
        exact gvret S hr hlk M (by rw [hI, tkl, if_neg c44]; rfl) dX1_takeRiseAtMiddle_89
  refine lv_aload_n S.1 S.2.1 dX1_takeRiseAtMiddle_0 rfl (lv_at hl 0 rfl) ?_
  refine gget S hE M (C := RX1) (T := TX1) (N := 5) (ci := 1) (index := 14) hwi 0 rfl rfl 0 (by decide) (by decide +kernel) rfl dX1_takeRiseAtMiddle_1 ?_
  refine lv_iconst (v := 0) S.1 S.2.1 dX1_takeRiseAtMiddle_4 (by decide) ?_
  refine gcalli (L := [[(ad 33, .inr (1, [.ref (ad 34), .ref (ad 36), .int (nI z.cn), .int z.up, .int z.lo]))]]) (Mid := [rowW E (ad 34) (ad 35) 120 z.cf]) (Rr := [rowW E (ad 36) (ad 37) 120 z.cd]) (Mid' := [rowW E (ad 34) (ad 35) 120 z.cf]) hE M rfl (List.append_nil _) (List.append_nil _) (fun hp => va_runV (As := [.int 0]) (rest := []) S (c_X2_get l E (ad 34) (ad 35) 120 z.cf 0 (by decide) _) (cwV 1 S.2.2.2.2 gX1_takeRiseAtMiddle_X2_get rfl rfl rfl kd_X2_get ⟨Nat.le_of_ble_eq_true rfl, Nat.le_of_ble_eq_true rfl⟩) (hp.V hE (show vwCl[2]? = some (RX2, TX2, 1) from rfl) rfl) rfl rfl hl.1 rfl (lv_room (Nat.le_of_ble_eq_true rfl)) dX1_takeRiseAtMiddle_5 ⟨Nat.zero_le _, Nat.zero_le _⟩) (fun H locs M => ?_)
  have M : gM E A s.heap [[(ad 33, .inr (1, [.ref (ad 34), .ref (ad 36), .int (nI z.cn), .int z.up, .int z.lo]))], rowW E (ad 34) (ad 35) 120 z.cf, rowW E (ad 36) (ad 37) 120 z.cd] H locs := M
  refine lv_aload_n S.1 S.2.1 dX1_takeRiseAtMiddle_8 rfl (lv_at hl 0 rfl) ?_
  refine gget S hE M (C := RX1) (T := TX1) (N := 5) (ci := 1) (index := 14) hwi 0 rfl rfl 0 (by decide) (by decide +kernel) rfl dX1_takeRiseAtMiddle_9 ?_
  refine lv_aload_n S.1 S.2.1 dX1_takeRiseAtMiddle_12 rfl (lv_at hl 0 rfl) ?_
  refine gget S hE M (C := RX1) (T := TX1) (N := 5) (ci := 1) (index := 30) hwi 0 rfl rfl 2 (by decide) (by decide +kernel) rfl dX1_takeRiseAtMiddle_13 ?_
  refine lv_iconst (v := 1) S.1 S.2.1 dX1_takeRiseAtMiddle_16 (by decide) ?_
  refine lv_isub S.1 S.2.1 dX1_takeRiseAtMiddle_17 ?_
  refine gcalli (L := [[(ad 33, .inr (1, [.ref (ad 34), .ref (ad 36), .int (nI z.cn), .int z.up, .int z.lo]))]]) (Mid := [rowW E (ad 34) (ad 35) 120 z.cf]) (Rr := [rowW E (ad 36) (ad 37) 120 z.cd]) (Mid' := [rowW E (ad 34) (ad 35) 120 z.cf]) hE M rfl (List.append_nil _) (List.append_nil _) (fun hp => va_runV (As := [.int ((nI z.cn) - 1)]) (rest := [.int (rg 120 z.cf 0)]) S (c_X2_get l E (ad 34) (ad 35) 120 z.cf ((nI z.cn) - 1) (by decide) _) (cwV 1 S.2.2.2.2 gX1_takeRiseAtMiddle_X2_get rfl rfl rfl kd_X2_get ⟨Nat.le_of_ble_eq_true rfl, Nat.le_of_ble_eq_true rfl⟩) (hp.V hE (show vwCl[2]? = some (RX2, TX2, 1) from rfl) rfl) rfl rfl hl.1 rfl (lv_room (Nat.le_of_ble_eq_true rfl)) dX1_takeRiseAtMiddle_18 ⟨Nat.zero_le _, Nat.zero_le _⟩) (fun H locs M => ?_)
  have M : gM E A s.heap [[(ad 33, .inr (1, [.ref (ad 34), .ref (ad 36), .int (nI z.cn), .int z.up, .int z.lo]))], rowW E (ad 34) (ad 35) 120 z.cf, rowW E (ad 36) (ad 37) 120 z.cd] H locs := M
  refine lv_iadd S.1 S.2.1 dX1_takeRiseAtMiddle_21 ?_
  refine lv_istore_n (lv' := [(1, .int ((rg 120 z.cf 0) + (rg 120 z.cf ((nI z.cn) - 1)))), (0, .ref (ad 33))]) S.1 S.2.1 dX1_takeRiseAtMiddle_22 rfl hl (by decide) rfl (fun ls hl => ?_)
  refine lv_iconst (v := 1) S.1 S.2.1 dX1_takeRiseAtMiddle_23 (by decide) ?_
  refine lv_istore_n (lv' := [(2, .int 1), (1, .int ((rg 120 z.cf 0) + (rg 120 z.cf ((nI z.cn) - 1)))), (0, .ref (ad 33))]) S.1 S.2.1 dX1_takeRiseAtMiddle_24 rfl hl (by decide) rfl (fun ls hl => ?_)
  exact hL (z.cn - 1) 1 (by omega) (by omega) rfl _ _ M ls (lv_sub hl [2, 1, 0] rfl)

set_option maxHeartbeats 4000000 in
set_option maxRecDepth 100000 in
theorem c_X1_riseOver (l : Launch) (E : xE) (ad : Nat → Nat) (z : LinS) (n : Int32) : mI l yX1_riseOver wsX1_riseOver (xrm 1 22) E [.ref (ad 33), .int n] (linGs E ad z) (z.over n) (linGs E ad z) := by
  intro sz
  refine Met.ofW (cc := cX1_riseOver) (maxL := 2) (ret := (some .int)) (by decide +kernel) rfl ?_
  intro vp ve s vm args below meth vc s₁ B hml hv
  obtain ⟨rfl, S, hr, hlk, hnm, A, hA, hE, M⟩ := genter B hml hv
  rw [hA]
  obtain ⟨ls, hfr, hl⟩ := gst (m := vm) (as := [.ref (ad 33), .int n]) (n := 2) (Nat.le_of_ble_eq_true rfl)
  rw [hfr]
  clear hfr hA
  have hl : lv_has ls 2 [(0, .ref (ad 33)), (1, .int n)] := hl
  have M : gM E A s.heap [[(ad 33, .inr (1, [.ref (ad 34), .ref (ad 36), .int (nI z.cn), .int z.up, .int z.lo]))], rowW E (ad 34) (ad 35) 120 z.cf, rowW E (ad 36) (ad 37) 120 z.cd] s.heap [] := M
  have hwi : ∀ w ∈ u_ws RX1 TX1 5, w ∈ wsX1_riseOver := by decide +kernel
  refine lv_aload_n S.1 S.2.1 dX1_riseOver_0 rfl (lv_at hl 0 rfl) ?_
  refine gget S hE M (C := RX1) (T := TX1) (N := 5) (ci := 1) (index := 23) hwi 0 rfl rfl 4 (by decide) (by decide +kernel) rfl dX1_riseOver_1 ?_
  refine lv_if_le (tgt := 25) S.1 S.2.1 dX1_riseOver_4 (by decide) (fun c4 => ?_) (fun c4 => ?_)
  ·
    refine lv_iconst (v := 0) S.1 S.2.1 dX1_riseOver_25 (by decide) ?_
    exact giret S hr hlk M (by unfold LinS.over; rw [if_pos c4]) (rfl) dX1_riseOver_26
  ·
    refine lv_aload_n S.1 S.2.1 dX1_riseOver_7 rfl (lv_at hl 0 rfl) ?_
    refine gget S hE M (C := RX1) (T := TX1) (N := 5) (ci := 1) (index := 27) hwi 0 rfl rfl 3 (by decide) (by decide +kernel) rfl dX1_riseOver_8 ?_
    refine lv_ineg S.1 S.2.1 dX1_riseOver_11 ?_
    refine lv_iload_n S.1 S.2.1 dX1_riseOver_12 rfl (lv_at hl 1 rfl) ?_
    refine lv_imul S.1 S.2.1 dX1_riseOver_13 ?_
    refine lv_aload_n S.1 S.2.1 dX1_riseOver_14 rfl (lv_at hl 0 rfl) ?_
    refine gget S hE M (C := RX1) (T := TX1) (N := 5) (ci := 1) (index := 23) hwi 0 rfl rfl 4 (by decide) (by decide +kernel) rfl dX1_riseOver_15 ?_
    refine gcalli (L := []) (Mid := []) (Rr := [[(ad 33, .inr (1, [.ref (ad 34), .ref (ad 36), .int (nI z.cn), .int z.up, .int z.lo]))], rowW E (ad 34) (ad 35) 120 z.cf, rowW E (ad 36) (ad 37) 120 z.cd]) (Mid' := []) hE M rfl (rfl) (rfl) (fun hp => va_runS (As := [.int ((-z.up) * n), .int z.lo]) (rest := []) S (c_J9_floorDiv_7cf53 l E ((-z.up) * n) z.lo (fun q => c4 (by rw [q]; decide)) _) (va_cwS 2 S.2.2.2.2 gX1_riseOver_J9_floorDiv_7cf53 rfl rfl rfl kd_J9_floorDiv_7cf53.2 ⟨Nat.le_of_ble_eq_true rfl, Nat.le_of_ble_eq_true rfl⟩) hp.S rfl rfl hl.1 rfl (lv_room (Nat.le_of_ble_eq_true rfl)) dX1_riseOver_18 ⟨Nat.zero_le _, Nat.zero_le _⟩) (fun H locs M => ?_)
    have M : gM E A s.heap [[(ad 33, .inr (1, [.ref (ad 34), .ref (ad 36), .int (nI z.cn), .int z.up, .int z.lo]))], rowW E (ad 34) (ad 35) 120 z.cf, rowW E (ad 36) (ad 37) 120 z.cd] H locs := M
    refine lv_ineg S.1 S.2.1 dX1_riseOver_21 ?_
    refine lv_goto (tgt := 26) S.1 S.2.1 dX1_riseOver_22 (by decide) ?_
    exact giret S hr hlk M (by unfold LinS.over; rw [if_neg c4]) (rfl) dX1_riseOver_26

set_option maxHeartbeats 4000000 in
set_option maxRecDepth 100000 in
theorem c_X1_fitUnder (l : Launch) (E : xE) (ad : Nat → Nat) (z : LinS) (ar : ArrS) : mV l yX1_fitUnder wsX1_fitUnder (xrm 3 70) E [.ref (ad 33), .ref (ad 4)] ((linGs E ad z ++ [arrW E ad ar])) ((linGs E ad (LinS.fit z ar) ++ [arrW E ad ar])) := by
  intro sz
  refine Met.ofW (cc := cX1_fitUnder) (maxL := 4) (ret := none) (by decide +kernel) rfl ?_
  intro vp ve s vm args below meth vc s₁ B hml hv
  obtain ⟨rfl, S, hr, hlk, hnm, A, hA, hE, M⟩ := genter B hml hv
  rw [hA]
  obtain ⟨ls, hfr, hl⟩ := gst (m := vm) (as := [.ref (ad 33), .ref (ad 4)]) (n := 4) (Nat.le_of_ble_eq_true rfl)
  rw [hfr]
  clear hfr hA
  have hl : lv_has ls 4 [(0, .ref (ad 33)), (1, .ref (ad 4))] := hl
  have M : gM E A s.heap [[(ad 33, .inr (1, [.ref (ad 34), .ref (ad 36), .int (nI z.cn), .int z.up, .int z.lo]))], rowW E (ad 34) (ad 35) 120 z.cf, rowW E (ad 36) (ad 37) 120 z.cd, arrW E ad ar] s.heap [] := M
  have hwi : ∀ w ∈ u_ws RX1 TX1 5, w ∈ wsX1_fitUnder := by decide +kernel
  obtain ⟨Q, hQ⟩ : ∃ Q : State → Prop, MQ below (va_Qv (fun (_ : Unit) => True) (fun _ => kQ E A ((linGs E ad (LinS.fit z ar) ++ [arrW E ad ar]))) A) ([.ref (ad 33), .ref (ad 4)] : List Value).toArray s 0 0 A = Q := ⟨_, rfl⟩
  rw [hQ]
  have hL : ∀ (n : Nat), ∀ (i : Nat) (w : LinS), i + n = 300 → w.cn ≤ i → fitl ar 300 0 (z.cf, z.cd, 0, 0, 1) = fitl ar n i w → ∀ (H : Heap) (locs : List Loc), gM E A s.heap [[(ad 33, .inr (1, [.ref (ad 34), .ref (ad 36), .int (nI w.cn), .int w.up, .int w.lo]))], rowW E (ad 34) (ad 35) 120 w.cf, rowW E (ad 36) (ad 37) 120 w.cd, arrW E ad ar] H locs → ∀ ls : Array Slot, lv_has ls 4 [(0, .ref (ad 33)), (1, .ref (ad 4)), (2, .int (nI i))] → W vp l ve (headSpec wsX1_fitUnder (xrm 3 70)).room s vm ([.ref (ad 33), .ref (ad 4)] : List Value).toArray below meth vc H locs 0 0 Q (F0 vm 17 ls []) := by
    intro n
    induction n with
    | zero =>
      intro i w hi hj hI H locs M ls hl
      refine lv_iload_n S.1 S.2.1 dX1_fitUnder_17 rfl (lv_at hl 2 rfl) ?_
      refine lv_sipush (v := 300) S.1 S.2.1 dX1_fitUnder_18 (by decide) ?_
      refine lv_icmp_ge (tgt := 51) S.1 S.2.1 dX1_fitUnder_21 (by decide) (fun _ => ?_) (fun c_ => absurd (nI_le (a := 300) (by omega) (by omega)) c_)
      refine lv_aload_n S.1 S.2.1 dX1_fitUnder_51 rfl (lv_at hl 0 rfl) ?_
      refine gcallv (L := []) (Mid := linGs E ad w) (Rr := [arrW E ad ar]) (Mid' := linGs E ad (LinS.take w)) hE M rfl (rfl) (rfl) (fun hp => va_runV (As := []) (rest := []) S (c_X1_takeRiseAtMiddle l E ad w   (by omega) _) (cwV 0 S.2.2.2.2 gX1_fitUnder_X1_takeRiseAtMiddle rfl rfl rfl kd_X1_takeRiseAtMiddle ⟨Nat.le_of_ble_eq_true rfl, Nat.le_of_ble_eq_true rfl⟩) (hp.V hE (show vwCl[1]? = some (RX1, TX1, 5) from rfl) rfl) rfl rfl hl.1 rfl (lv_room (Nat.le_of_ble_eq_true rfl)) dX1_fitUnder_52 ⟨Nat.zero_le _, Nat.zero_le _⟩) (fun H locs M => ?_)
      have M : gM E A s.heap [[(ad 33, .inr (1, [.ref (ad 34), .ref (ad 36), .int (nI (LinS.take w).cn), .int ((LinS.take w).up), .int ((LinS.take w).lo)]))], rowW E (ad 34) (ad 35) 120 ((LinS.take w).cf), rowW E (ad 36) (ad 37) 120 ((LinS.take w).cd), arrW E ad ar] H locs := M
      rw [← hQ]
      exact gvret S hr hlk M (by unfold LinS.fit; rw [hI, fitl]; rfl) dX1_fitUnder_55
    | succ n ih =>
      intro i w hi hj hI H locs M ls hl
      refine lv_iload_n S.1 S.2.1 dX1_fitUnder_17 rfl (lv_at hl 2 rfl) ?_
      refine lv_sipush (v := 300) S.1 S.2.1 dX1_fitUnder_18 (by decide) ?_
      refine lv_icmp_ge (tgt := 51) S.1 S.2.1 dX1_fitUnder_21 (by decide) (fun c_ => absurd c_ (nI_ge (b := 300) (by omega) (by omega))) (fun _ => ?_)
      refine lv_aload_n S.1 S.2.1 dX1_fitUnder_24 rfl (lv_at hl 1 rfl) ?_
      refine lv_iload_n S.1 S.2.1 dX1_fitUnder_25 rfl (lv_at hl 2 rfl) ?_
      refine gcalli (L := [[(ad 33, .inr (1, [.ref (ad 34), .ref (ad 36), .int (nI w.cn), .int w.up, .int w.lo]))], rowW E (ad 34) (ad 35) 120 w.cf, rowW E (ad 36) (ad 37) 120 w.cd]) (Mid := [arrW E ad ar]) (Rr := []) (Mid' := [arrW E ad ar]) hE M rfl (List.append_nil _) (List.append_nil _) (fun hp => va_runV (As := [.int (nI i)]) (rest := []) S (c_X0_placeOf l E ad ar (nI i)  _) (cwV 1 S.2.2.2.2 gX1_fitUnder_X0_placeOf rfl rfl rfl kd_X0_placeOf ⟨Nat.le_of_ble_eq_true rfl, Nat.le_of_ble_eq_true rfl⟩) (hp.V hE (show vwCl[0]? = some (RX0, TX0, 6) from rfl) rfl) rfl rfl hl.1 rfl (lv_room (Nat.le_of_ble_eq_true rfl)) dX1_fitUnder_26 ⟨Nat.zero_le _, Nat.zero_le _⟩) (fun H locs M => ?_)
      have M : gM E A s.heap [[(ad 33, .inr (1, [.ref (ad 34), .ref (ad 36), .int (nI w.cn), .int w.up, .int w.lo]))], rowW E (ad 34) (ad 35) 120 w.cf, rowW E (ad 36) (ad 37) 120 w.cd, arrW E ad ar] H locs := M
      refine lv_istore_n (lv' := [(3, .int (rg 300 ar.pa (nI i) - 1)), (0, .ref (ad 33)), (1, .ref (ad 4)), (2, .int (nI i))]) S.1 S.2.1 dX1_fitUnder_29 rfl hl (by decide) rfl (fun ls hl => ?_)
      refine lv_iload_n S.1 S.2.1 dX1_fitUnder_30 rfl (lv_at hl 0 rfl) ?_
      refine lv_iconst (v := (-1)) S.1 S.2.1 dX1_fitUnder_31 (by decide) ?_
      refine lv_icmp_eq (tgt := 45) S.1 S.2.1 dX1_fitUnder_32 (by decide) (fun c32 => ?_) (fun c32 => ?_)
      ·
        refine lv_iinc (v := nI (i + 1)) (lv' := [(2, .int (nI (i + 1))), (3, .int (rg 300 ar.pa (nI i) - 1)), (0, .ref (ad 33)), (1, .ref (ad 4))]) S.1 S.2.1 dX1_fitUnder_45 hl (k := 3) rfl (nI_1 _) (by decide) rfl (fun ls hl => ?_)
        refine lv_goto (tgt := 17) S.1 S.2.1 dX1_fitUnder_48 (by decide) ?_
        exact ih (i + 1) w (by omega) (by have q := fits1_cn ar i w; rw [fits1, if_pos c32] at q; omega) (by rw [hI, fitl, fits1, if_pos c32]) _ _ M ls (lv_sub hl [2, 3, 0] rfl)
      ·
        refine lv_aload_n S.1 S.2.1 dX1_fitUnder_35 rfl (lv_at hl 1 rfl) ?_
        refine lv_iload_n S.1 S.2.1 dX1_fitUnder_36 rfl (lv_at hl 3 rfl) ?_
        refine lv_aload_n S.1 S.2.1 dX1_fitUnder_37 rfl (lv_at hl 2 rfl) ?_
        refine lv_iload_n S.1 S.2.1 dX1_fitUnder_38 rfl (lv_at hl 0 rfl) ?_
        refine gcalli (L := [[(ad 33, .inr (1, [.ref (ad 34), .ref (ad 36), .int (nI w.cn), .int w.up, .int w.lo]))], rowW E (ad 34) (ad 35) 120 w.cf, rowW E (ad 36) (ad 37) 120 w.cd]) (Mid := [arrW E ad ar]) (Rr := []) (Mid' := [arrW E ad ar]) hE M rfl (List.append_nil _) (List.append_nil _) (fun hp => va_runV (As := [.int (rg 300 ar.pa (nI i) - 1)]) (rest := [.int (nI i), .ref (ad 33)]) S (c_X0_delayAt l E ad ar (rg 300 ar.pa (nI i) - 1)  _) (cwV 1 S.2.2.2.2 gX1_fitUnder_X0_delayAt rfl rfl rfl kd_X0_delayAt ⟨Nat.le_of_ble_eq_true rfl, Nat.le_of_ble_eq_true rfl⟩) (hp.V hE (show vwCl[0]? = some (RX0, TX0, 6) from rfl) rfl) rfl rfl hl.1 rfl (lv_room (Nat.le_of_ble_eq_true rfl)) dX1_fitUnder_39 ⟨Nat.zero_le _, Nat.zero_le _⟩) (fun H locs M => ?_)
        have M : gM E A s.heap [[(ad 33, .inr (1, [.ref (ad 34), .ref (ad 36), .int (nI w.cn), .int w.up, .int w.lo]))], rowW E (ad 34) (ad 35) 120 w.cf, rowW E (ad 36) (ad 37) 120 w.cd, arrW E ad ar] H locs := M
        refine gcallv (L := []) (Mid := linGs E ad w) (Rr := [arrW E ad ar]) (Mid' := linGs E ad (LinS.addc w (nI i) (ar.dl (rg 300 ar.pa (nI i) - 1)))) hE M rfl (rfl) (rfl) (fun hp => va_runV (As := [.int (nI i), .int (ar.dl (rg 300 ar.pa (nI i) - 1))]) (rest := []) S (c_X1_addCorner l E ad w (nI i) (ar.dl (rg 300 ar.pa (nI i) - 1))  (by omega) _) (cwV 2 S.2.2.2.2 gX1_fitUnder_X1_addCorner rfl rfl rfl kd_X1_addCorner ⟨Nat.le_of_ble_eq_true rfl, Nat.le_of_ble_eq_true rfl⟩) (hp.V hE (show vwCl[1]? = some (RX1, TX1, 5) from rfl) rfl) rfl rfl hl.1 rfl (lv_room (Nat.le_of_ble_eq_true rfl)) dX1_fitUnder_42 ⟨Nat.zero_le _, Nat.zero_le _⟩) (fun H locs M => ?_)
        have M : gM E A s.heap [[(ad 33, .inr (1, [.ref (ad 34), .ref (ad 36), .int (nI (LinS.addc w (nI i) (ar.dl (rg 300 ar.pa (nI i) - 1))).cn), .int ((LinS.addc w (nI i) (ar.dl (rg 300 ar.pa (nI i) - 1))).up), .int ((LinS.addc w (nI i) (ar.dl (rg 300 ar.pa (nI i) - 1))).lo)]))], rowW E (ad 34) (ad 35) 120 ((LinS.addc w (nI i) (ar.dl (rg 300 ar.pa (nI i) - 1))).cf), rowW E (ad 36) (ad 37) 120 ((LinS.addc w (nI i) (ar.dl (rg 300 ar.pa (nI i) - 1))).cd), arrW E ad ar] H locs := M
        refine lv_iinc (v := nI (i + 1)) (lv' := [(2, .int (nI (i + 1))), (3, .int (rg 300 ar.pa (nI i) - 1)), (0, .ref (ad 33)), (1, .ref (ad 4))]) S.1 S.2.1 dX1_fitUnder_45 hl (k := 3) rfl (nI_1 _) (by decide) rfl (fun ls hl => ?_)
        refine lv_goto (tgt := 17) S.1 S.2.1 dX1_fitUnder_48 (by decide) ?_
        exact ih (i + 1) (LinS.addc w (nI i) (ar.dl (rg 300 ar.pa (nI i) - 1))) (by omega) (by have q := fits1_cn ar i w; rw [fits1, if_neg c32] at q; omega) (by rw [hI, fitl, fits1, if_neg c32]) _ _ M ls (lv_sub hl [2, 3, 0] rfl)
  refine lv_aload_n S.1 S.2.1 dX1_fitUnder_0 rfl (lv_at hl 0 rfl) ?_
  refine lv_iconst (v := 0) S.1 S.2.1 dX1_fitUnder_1 (by decide) ?_
  refine gput S hE M (C := RX1) (T := TX1) (N := 5) (ci := 1) (index := 30) (Gs' := [[(ad 33, .inr (1, [.ref (ad 34), .ref (ad 36), .int 0, .int z.up, .int z.lo]))], rowW E (ad 34) (ad 35) 120 z.cf, rowW E (ad 36) (ad 37) 120 z.cd, arrW E ad ar]) hwi tyX1 tyX1_ok nmX1 0 rfl rfl 2 (by decide) (by decide +kernel) rfl rfl rfl (Nat.le_of_ble_eq_true rfl) rfl dX1_fitUnder_2 (fun H locs M => ?_)
  refine lv_aload_n S.1 S.2.1 dX1_fitUnder_5 rfl (lv_at hl 0 rfl) ?_
  refine lv_iconst (v := 0) S.1 S.2.1 dX1_fitUnder_6 (by decide) ?_
  refine gput S hE M (C := RX1) (T := TX1) (N := 5) (ci := 1) (index := 27) (Gs' := [[(ad 33, .inr (1, [.ref (ad 34), .ref (ad 36), .int 0, .int 0, .int z.lo]))], rowW E (ad 34) (ad 35) 120 z.cf, rowW E (ad 36) (ad 37) 120 z.cd, arrW E ad ar]) hwi tyX1 tyX1_ok nmX1 0 rfl rfl 3 (by decide) (by decide +kernel) rfl rfl rfl (Nat.le_of_ble_eq_true rfl) rfl dX1_fitUnder_7 (fun H locs M => ?_)
  refine lv_aload_n S.1 S.2.1 dX1_fitUnder_10 rfl (lv_at hl 0 rfl) ?_
  refine lv_iconst (v := 1) S.1 S.2.1 dX1_fitUnder_11 (by decide) ?_
  refine gput S hE M (C := RX1) (T := TX1) (N := 5) (ci := 1) (index := 23) (Gs' := [[(ad 33, .inr (1, [.ref (ad 34), .ref (ad 36), .int 0, .int 0, .int 1]))], rowW E (ad 34) (ad 35) 120 z.cf, rowW E (ad 36) (ad 37) 120 z.cd, arrW E ad ar]) hwi tyX1 tyX1_ok nmX1 0 rfl rfl 4 (by decide) (by decide +kernel) rfl rfl rfl (Nat.le_of_ble_eq_true rfl) rfl dX1_fitUnder_12 (fun H locs M => ?_)
  refine lv_iconst (v := 0) S.1 S.2.1 dX1_fitUnder_15 (by decide) ?_
  refine lv_istore_n (lv' := [(2, .int 0), (0, .ref (ad 33)), (1, .ref (ad 4))]) S.1 S.2.1 dX1_fitUnder_16 rfl hl (by decide) rfl (fun ls hl => ?_)
  exact hL 300 0 (z.cf, z.cd, 0, 0, 1) (by omega) (Nat.le_refl 0) rfl _ _ M ls (lv_sub hl [1, 2, 0] rfl)

set_option maxHeartbeats 4000000 in
set_option maxRecDepth 100000 in
theorem c_X7_gather (l : Launch) (E : xE) (ad : Nat → Nat) (z : WisS) (ln : LinS) (ar : ArrS) (hc : ar.ct ≤ 120) : mV l yX7_gather wsX7_gather (xrm 2 42) E [.ref (ad 38), .ref (ad 4)] ((wisGs E ad z ++ [linW E ad ln, arrW E ad ar])) ((wisGs E ad (WisS.gather z ar) ++ [linW E ad ln, arrW E ad ar])) := by
  intro sz
  refine Met.ofW (cc := cX7_gather) (maxL := 3) (ret := none) (by decide +kernel) rfl ?_
  intro vp ve s vm args below meth vc s₁ B hml hv
  obtain ⟨rfl, S, hr, hlk, hnm, A, hA, hE, M⟩ := genter B hml hv
  rw [hA]
  obtain ⟨ls, hfr, hl⟩ := gst (m := vm) (as := [.ref (ad 38), .ref (ad 4)]) (n := 3) (Nat.le_of_ble_eq_true rfl)
  rw [hfr]
  clear hfr hA
  have hl : lv_has ls 3 [(0, .ref (ad 38)), (1, .ref (ad 4))] := hl
  have M : gM E A s.heap [[(ad 38, .inr (7, [.ref (ad 39), .int (nI z.sz)]))], rowW E (ad 39) (ad 40) 32 z.ds, linW E ad ln, arrW E ad ar] s.heap [] := M
  have hwi : ∀ w ∈ u_ws RX7 TX7 2, w ∈ wsX7_gather := by decide +kernel
  have hh : ar.hs ≤ 32 := Nat.min_le_right _ _
  obtain ⟨Q, hQ⟩ : ∃ Q : State → Prop, MQ below (va_Qv (fun (_ : Unit) => True) (fun _ => kQ E A ((wisGs E ad (WisS.gather z ar) ++ [linW E ad ln, arrW E ad ar]))) A) ([.ref (ad 38), .ref (ad 4)] : List Value).toArray s 0 0 A = Q := ⟨_, rfl⟩
  rw [hQ]
  have hL : ∀ (n : Nat), ∀ (i : Nat) (f : Nat → Int32), i + n = ar.hs → gatl ar ar.hs 0 z.ds = gatl ar n i f → ∀ (H : Heap) (locs : List Loc), gM E A s.heap [[(ad 38, .inr (7, [.ref (ad 39), .int (nI ar.hs)]))], rowW E (ad 39) (ad 40) 32 f, linW E ad ln, arrW E ad ar] H locs → ∀ ls : Array Slot, lv_has ls 3 [(0, .ref (ad 38)), (1, .ref (ad 4)), (2, .int (nI i))] → W vp l ve (headSpec wsX7_gather (xrm 2 42)).room s vm ([.ref (ad 38), .ref (ad 4)] : List Value).toArray below meth vc H locs 0 0 Q (F0 vm 10 ls []) := by
    intro n
    induction n with
    | zero =>
      intro i f hi hI H locs M ls hl
      refine lv_iload_n S.1 S.2.1 dX7_gather_10 rfl (lv_at hl 2 rfl) ?_
      refine lv_aload_n S.1 S.2.1 dX7_gather_11 rfl (lv_at hl 0 rfl) ?_
      refine gget S hE M (C := RX7) (T := TX7) (N := 2) (ci := 7) (index := 26) hwi 0 rfl rfl 1 (by decide) (by decide +kernel) rfl dX7_gather_12 ?_
      refine lv_icmp_ge (tgt := 42) S.1 S.2.1 dX7_gather_15 (by decide) (fun _ => ?_) (fun c_ => absurd (nI_le (by omega) (by omega)) c_)
      rw [← hQ]
      exact gvret S hr hlk M (by unfold WisS.gather; rw [hI, gatl]; rfl) dX7_gather_42
    | succ n ih =>
      intro i f hi hI H locs M ls hl
      refine lv_iload_n S.1 S.2.1 dX7_gather_10 rfl (lv_at hl 2 rfl) ?_
      refine lv_aload_n S.1 S.2.1 dX7_gather_11 rfl (lv_at hl 0 rfl) ?_
      refine gget S hE M (C := RX7) (T := TX7) (N := 2) (ci := 7) (index := 26) hwi 0 rfl rfl 1 (by decide) (by decide +kernel) rfl dX7_gather_12 ?_
      refine lv_icmp_ge (tgt := 42) S.1 S.2.1 dX7_gather_15 (by decide) (fun c_ => absurd c_ (nI_ge (by omega) (by omega))) (fun _ => ?_)
      refine lv_aload_n S.1 S.2.1 dX7_gather_18 rfl (lv_at hl 0 rfl) ?_
      refine gget S hE M (C := RX7) (T := TX7) (N := 2) (ci := 7) (index := 14) hwi 0 rfl rfl 0 (by decide) (by decide +kernel) rfl dX7_gather_19 ?_
      refine lv_iload_n S.1 S.2.1 dX7_gather_22 rfl (lv_at hl 2 rfl) ?_
      refine lv_aload_n S.1 S.2.1 dX7_gather_23 rfl (lv_at hl 1 rfl) ?_
      refine lv_aload_n S.1 S.2.1 dX7_gather_24 rfl (lv_at hl 1 rfl) ?_
      refine gcalli (L := [[(ad 38, .inr (7, [.ref (ad 39), .int (nI ar.hs)]))], rowW E (ad 39) (ad 40) 32 f, linW E ad ln]) (Mid := [arrW E ad ar]) (Rr := []) (Mid' := [arrW E ad ar]) hE M rfl (List.append_nil _) (List.append_nil _) (fun hp => va_runV (As := []) (rest := [.ref (ad 4), .int (nI i), .ref (ad 39)]) S (c_X0_lastPlace l E ad ar   _) (cwV 0 S.2.2.2.2 gX7_gather_X0_lastPlace rfl rfl rfl kd_X0_lastPlace ⟨Nat.le_of_ble_eq_true rfl, Nat.le_of_ble_eq_true rfl⟩) (hp.V hE (show vwCl[0]? = some (RX0, TX0, 6) from rfl) rfl) rfl rfl hl.1 rfl (lv_room (Nat.le_of_ble_eq_true rfl)) dX7_gather_25 ⟨Nat.zero_le _, Nat.zero_le _⟩) (fun H locs M => ?_)
      have M : gM E A s.heap [[(ad 38, .inr (7, [.ref (ad 39), .int (nI ar.hs)]))], rowW E (ad 39) (ad 40) 32 f, linW E ad ln, arrW E ad ar] H locs := M
      refine lv_iload_n S.1 S.2.1 dX7_gather_28 rfl (lv_at hl 2 rfl) ?_
      refine lv_isub S.1 S.2.1 dX7_gather_29 ?_
      refine gcalli (L := [[(ad 38, .inr (7, [.ref (ad 39), .int (nI ar.hs)]))], rowW E (ad 39) (ad 40) 32 f, linW E ad ln]) (Mid := [arrW E ad ar]) (Rr := []) (Mid' := [arrW E ad ar]) hE M rfl (List.append_nil _) (List.append_nil _) (fun hp => va_runV (As := [.int ((nI ar.ct - 1) - (nI i))]) (rest := [.int (nI i), .ref (ad 39)]) S (c_X0_delayAt l E ad ar ((nI ar.ct - 1) - (nI i))  _) (cwV 1 S.2.2.2.2 gX7_gather_X0_delayAt rfl rfl rfl kd_X0_delayAt ⟨Nat.le_of_ble_eq_true rfl, Nat.le_of_ble_eq_true rfl⟩) (hp.V hE (show vwCl[0]? = some (RX0, TX0, 6) from rfl) rfl) rfl rfl hl.1 rfl (lv_room (Nat.le_of_ble_eq_true rfl)) dX7_gather_30 ⟨Nat.zero_le _, Nat.zero_le _⟩) (fun H locs M => ?_)
      have M : gM E A s.heap [[(ad 38, .inr (7, [.ref (ad 39), .int (nI ar.hs)]))], rowW E (ad 39) (ad 40) 32 f, linW E ad ln, arrW E ad ar] H locs := M
      refine gcallv (L := [[(ad 38, .inr (7, [.ref (ad 39), .int (nI ar.hs)]))]]) (Mid := [rowW E (ad 39) (ad 40) 32 f]) (Rr := [linW E ad ln, arrW E ad ar]) (Mid' := [rowW E (ad 39) (ad 40) 32 (rs 32 f (nI i) (ar.dl ((nI ar.ct - 1) - (nI i))))]) hE M rfl (List.append_nil _) (List.append_nil _) (fun hp => va_runV (As := [.int (nI i), .int (ar.dl ((nI ar.ct - 1) - (nI i)))]) (rest := []) S (c_X2_set l E (ad 39) (ad 40) 32 f (nI i) (ar.dl ((nI ar.ct - 1) - (nI i))) (by decide) _) (cwV 2 S.2.2.2.2 gX7_gather_X2_set rfl rfl rfl kd_X2_set ⟨Nat.le_of_ble_eq_true rfl, Nat.le_of_ble_eq_true rfl⟩) (hp.V hE (show vwCl[2]? = some (RX2, TX2, 1) from rfl) rfl) rfl rfl hl.1 rfl (lv_room (Nat.le_of_ble_eq_true rfl)) dX7_gather_33 ⟨Nat.zero_le _, Nat.zero_le _⟩) (fun H locs M => ?_)
      have M : gM E A s.heap [[(ad 38, .inr (7, [.ref (ad 39), .int (nI ar.hs)]))], rowW E (ad 39) (ad 40) 32 (rs 32 f (nI i) (ar.dl ((nI ar.ct - 1) - (nI i)))), linW E ad ln, arrW E ad ar] H locs := M
      refine lv_iinc (v := nI (i + 1)) (lv' := [(2, .int (nI (i + 1))), (0, .ref (ad 38)), (1, .ref (ad 4))]) S.1 S.2.1 dX7_gather_36 hl (k := 2) rfl (nI_1 _) (by decide) rfl (fun ls hl => ?_)
      refine lv_goto (tgt := 10) S.1 S.2.1 dX7_gather_39 (by decide) ?_
      exact ih (i + 1) _ (by omega) (by rw [hI, gatl]) _ _ M ls (lv_sub hl [1, 2, 0] rfl)
  refine lv_aload_n S.1 S.2.1 dX7_gather_0 rfl (lv_at hl 0 rfl) ?_
  refine lv_aload_n S.1 S.2.1 dX7_gather_1 rfl (lv_at hl 1 rfl) ?_
  refine gcalli (L := [[(ad 38, .inr (7, [.ref (ad 39), .int (nI z.sz)]))], rowW E (ad 39) (ad 40) 32 z.ds, linW E ad ln]) (Mid := [arrW E ad ar]) (Rr := []) (Mid' := [arrW E ad ar]) hE M rfl (List.append_nil _) (List.append_nil _) (fun hp => va_runV (As := []) (rest := [.ref (ad 38)]) S (c_X0_historySize l E ad ar   _) (cwV 0 S.2.2.2.2 gX7_gather_X0_historySize rfl rfl rfl kd_X0_historySize ⟨Nat.le_of_ble_eq_true rfl, Nat.le_of_ble_eq_true rfl⟩) (hp.V hE (show vwCl[0]? = some (RX0, TX0, 6) from rfl) rfl) rfl rfl hl.1 rfl (lv_room (Nat.le_of_ble_eq_true rfl)) dX7_gather_2 ⟨Nat.zero_le _, Nat.zero_le _⟩) (fun H locs M => ?_)
  have M : gM E A s.heap [[(ad 38, .inr (7, [.ref (ad 39), .int (nI z.sz)]))], rowW E (ad 39) (ad 40) 32 z.ds, linW E ad ln, arrW E ad ar] H locs := M
  refine gtop (x' := nI ar.hs) (imin_nI (b := 32) (by omega) (by omega)) ?_
  refine gput S hE M (C := RX7) (T := TX7) (N := 2) (ci := 7) (index := 26) (Gs' := [[(ad 38, .inr (7, [.ref (ad 39), .int (nI ar.hs)]))], rowW E (ad 39) (ad 40) 32 z.ds, linW E ad ln, arrW E ad ar]) hwi tyX7 tyX7_ok nmX7 0 rfl rfl 1 (by decide) (by decide +kernel) rfl rfl rfl (Nat.le_of_ble_eq_true rfl) rfl dX7_gather_5 (fun H locs M => ?_)
  refine lv_iconst (v := 0) S.1 S.2.1 dX7_gather_8 (by decide) ?_
  refine lv_istore_n (lv' := [(2, .int 0), (0, .ref (ad 38)), (1, .ref (ad 4))]) S.1 S.2.1 dX7_gather_9 rfl hl (by decide) rfl (fun ls hl => ?_)
  exact hL ar.hs 0 z.ds (by omega) rfl _ _ M ls (lv_sub hl [1, 2, 0] rfl)

set_option maxHeartbeats 4000000 in
set_option maxRecDepth 100000 in
theorem c_X7_carryAlong (l : Launch) (E : xE) (ad : Nat → Nat) (z : WisS) (ln : LinS) (ar : ArrS) (h : Int32) (hc : z.sz ≤ 32) : mV l yX7_carryAlong wsX7_carryAlong (xrm 2 44) E [.ref (ad 38), .ref (ad 33), .ref (ad 4), .int h] ((wisGs E ad z ++ [linW E ad ln, arrW E ad ar])) ((wisGs E ad (WisS.carry z ln ar h) ++ [linW E ad ln, arrW E ad ar])) := by
  intro sz
  refine Met.ofW (cc := cX7_carryAlong) (maxL := 6) (ret := none) (by decide +kernel) rfl ?_
  intro vp ve s vm args below meth vc s₁ B hml hv
  obtain ⟨rfl, S, hr, hlk, hnm, A, hA, hE, M⟩ := genter B hml hv
  rw [hA]
  obtain ⟨ls, hfr, hl⟩ := gst (m := vm) (as := [.ref (ad 38), .ref (ad 33), .ref (ad 4), .int h]) (n := 6) (Nat.le_of_ble_eq_true rfl)
  rw [hfr]
  clear hfr hA
  have hl : lv_has ls 6 [(0, .ref (ad 38)), (1, .ref (ad 33)), (2, .ref (ad 4)), (3, .int h)] := hl
  have M : gM E A s.heap [[(ad 38, .inr (7, [.ref (ad 39), .int (nI z.sz)]))], rowW E (ad 39) (ad 40) 32 z.ds, linW E ad ln, arrW E ad ar] s.heap [] := M
  have hwi : ∀ w ∈ u_ws RX7 TX7 2, w ∈ wsX7_carryAlong := by decide +kernel
  obtain ⟨Q, hQ⟩ : ∃ Q : State → Prop, MQ below (va_Qv (fun (_ : Unit) => True) (fun _ => kQ E A ((wisGs E ad (WisS.carry z ln ar h) ++ [linW E ad ln, arrW E ad ar]))) A) ([.ref (ad 38), .ref (ad 33), .ref (ad 4), .int h] : List Value).toArray s 0 0 A = Q := ⟨_, rfl⟩
  rw [hQ]
  have hL : ∀ (n : Nat), ∀ (i : Nat) (f : Nat → Int32), i + n = z.sz → carl ln ar h z.sz 0 z.ds = carl ln ar h n i f → ∀ (H : Heap) (locs : List Loc), gM E A s.heap [[(ad 38, .inr (7, [.ref (ad 39), .int (nI z.sz)]))], rowW E (ad 39) (ad 40) 32 f, linW E ad ln, arrW E ad ar] H locs → ∀ ls : Array Slot, lv_has ls 6 [(0, .ref (ad 38)), (1, .ref (ad 33)), (2, .ref (ad 4)), (3, .int h), (4, .int (nI i))] → W vp l ve (headSpec wsX7_carryAlong (xrm 2 44)).room s vm ([.ref (ad 38), .ref (ad 33), .ref (ad 4), .int h] : List Value).toArray below meth vc H locs 0 0 Q (F0 vm 3 ls []) := by
    intro n
    induction n with
    | zero =>
      intro i f hi hI H locs M ls hl
      refine lv_iload S.1 S.2.1 dX7_carryAlong_3 (lv_at hl 4 rfl) ?_
      refine lv_aload_n S.1 S.2.1 dX7_carryAlong_5 rfl (lv_at hl 0 rfl) ?_
      refine gget S hE M (C := RX7) (T := TX7) (N := 2) (ci := 7) (index := 26) hwi 0 rfl rfl 1 (by decide) (by decide +kernel) rfl dX7_carryAlong_6 ?_
      refine lv_icmp_ge (tgt := 48) S.1 S.2.1 dX7_carryAlong_9 (by decide) (fun _ => ?_) (fun c_ => absurd (nI_le (by omega) (by omega)) c_)
      rw [← hQ]
      exact gvret S hr hlk M (by unfold WisS.carry; rw [hI, carl]; rfl) dX7_carryAlong_48
    | succ n ih =>
      intro i f hi hI H locs M ls hl
      refine lv_iload S.1 S.2.1 dX7_carryAlong_3 (lv_at hl 4 rfl) ?_
      refine lv_aload_n S.1 S.2.1 dX7_carryAlong_5 rfl (lv_at hl 0 rfl) ?_
      refine gget S hE M (C := RX7) (T := TX7) (N := 2) (ci := 7) (index := 26) hwi 0 rfl rfl 1 (by decide) (by decide +kernel) rfl dX7_carryAlong_6 ?_
      refine lv_icmp_ge (tgt := 48) S.1 S.2.1 dX7_carryAlong_9 (by decide) (fun c_ => absurd c_ (nI_ge (by omega) (by omega))) (fun _ => ?_)
      refine lv_aload_n S.1 S.2.1 dX7_carryAlong_12 rfl (lv_at hl 2 rfl) ?_
      refine lv_aload_n S.1 S.2.1 dX7_carryAlong_13 rfl (lv_at hl 2 rfl) ?_
      refine gcalli (L := [[(ad 38, .inr (7, [.ref (ad 39), .int (nI z.sz)]))], rowW E (ad 39) (ad 40) 32 f, linW E ad ln]) (Mid := [arrW E ad ar]) (Rr := []) (Mid' := [arrW E ad ar]) hE M rfl (List.append_nil _) (List.append_nil _) (fun hp => va_runV (As := []) (rest := [.ref (ad 4)]) S (c_X0_lastPlace l E ad ar   _) (cwV 0 S.2.2.2.2 gX7_carryAlong_X0_lastPlace rfl rfl rfl kd_X0_lastPlace ⟨Nat.le_of_ble_eq_true rfl, Nat.le_of_ble_eq_true rfl⟩) (hp.V hE (show vwCl[0]? = some (RX0, TX0, 6) from rfl) rfl) rfl rfl hl.1 rfl (lv_room (Nat.le_of_ble_eq_true rfl)) dX7_carryAlong_14 ⟨Nat.zero_le _, Nat.zero_le _⟩) (fun H locs M => ?_)
      have M : gM E A s.heap [[(ad 38, .inr (7, [.ref (ad 39), .int (nI z.sz)]))], rowW E (ad 39) (ad 40) 32 f, linW E ad ln, arrW E ad ar] H locs := M
      refine lv_iload S.1 S.2.1 dX7_carryAlong_17 (lv_at hl 4 rfl) ?_
      refine lv_isub S.1 S.2.1 dX7_carryAlong_19 ?_
      refine gcalli (L := [[(ad 38, .inr (7, [.ref (ad 39), .int (nI z.sz)]))], rowW E (ad 39) (ad 40) 32 f, linW E ad ln]) (Mid := [arrW E ad ar]) (Rr := []) (Mid' := [arrW E ad ar]) hE M rfl (List.append_nil _) (List.append_nil _) (fun hp => va_runV (As := [.int ((nI ar.ct - 1) - (nI i))]) (rest := []) S (c_X0_frameAt l E ad ar ((nI ar.ct - 1) - (nI i))  _) (cwV 1 S.2.2.2.2 gX7_carryAlong_X0_frameAt rfl rfl rfl kd_X0_frameAt ⟨Nat.le_of_ble_eq_true rfl, Nat.le_of_ble_eq_true rfl⟩) (hp.V hE (show vwCl[0]? = some (RX0, TX0, 6) from rfl) rfl) rfl rfl hl.1 rfl (lv_room (Nat.le_of_ble_eq_true rfl)) dX7_carryAlong_20 ⟨Nat.zero_le _, Nat.zero_le _⟩) (fun H locs M => ?_)
      have M : gM E A s.heap [[(ad 38, .inr (7, [.ref (ad 39), .int (nI z.sz)]))], rowW E (ad 39) (ad 40) 32 f, linW E ad ln, arrW E ad ar] H locs := M
      refine lv_istore (lv' := [(5, .int (rg 120 ar.fr ((nI ar.ct - 1) - (nI i)))), (0, .ref (ad 38)), (1, .ref (ad 33)), (2, .ref (ad 4)), (3, .int h), (4, .int (nI i))]) S.1 S.2.1 dX7_carryAlong_23 hl (by decide) rfl (fun ls hl => ?_)
      refine lv_aload_n S.1 S.2.1 dX7_carryAlong_25 rfl (lv_at hl 1 rfl) ?_
      refine gget S hE M (C := RX7) (T := TX7) (N := 2) (ci := 7) (index := 14) hwi 0 rfl rfl 0 (by decide) (by decide +kernel) rfl dX7_carryAlong_26 ?_
      refine lv_iload S.1 S.2.1 dX7_carryAlong_29 (lv_at hl 5 rfl) ?_
      refine lv_aload_n S.1 S.2.1 dX7_carryAlong_31 rfl (lv_at hl 2 rfl) ?_
      refine lv_iload_n S.1 S.2.1 dX7_carryAlong_32 rfl (lv_at hl 4 rfl) ?_
      refine lv_iload S.1 S.2.1 dX7_carryAlong_33 (lv_at hl 0 rfl) ?_
      refine lv_isub S.1 S.2.1 dX7_carryAlong_35 ?_
      refine gcalli (L := [[(ad 38, .inr (7, [.ref (ad 39), .int (nI z.sz)]))], rowW E (ad 39) (ad 40) 32 f]) (Mid := [linW E ad ln]) (Rr := [arrW E ad ar]) (Mid' := [linW E ad ln]) hE M rfl (List.append_nil _) (List.append_nil _) (fun hp => va_runV (As := [.int (h - (rg 120 ar.fr ((nI ar.ct - 1) - (nI i))))]) (rest := [.int (nI i), .ref (ad 39)]) S (c_X1_riseOver l E ad ln (h - (rg 120 ar.fr ((nI ar.ct - 1) - (nI i))))  _) (cwV 1 S.2.2.2.2 gX7_carryAlong_X1_riseOver rfl rfl rfl kd_X1_riseOver ⟨Nat.le_of_ble_eq_true rfl, Nat.le_of_ble_eq_true rfl⟩) (hp.V hE (show vwCl[1]? = some (RX1, TX1, 5) from rfl) rfl) rfl rfl hl.1 rfl (lv_room (Nat.le_of_ble_eq_true rfl)) dX7_carryAlong_36 ⟨Nat.zero_le _, Nat.zero_le _⟩) (fun H locs M => ?_)
      have M : gM E A s.heap [[(ad 38, .inr (7, [.ref (ad 39), .int (nI z.sz)]))], rowW E (ad 39) (ad 40) 32 f, linW E ad ln, arrW E ad ar] H locs := M
      refine gcallv (L := [[(ad 38, .inr (7, [.ref (ad 39), .int (nI z.sz)]))]]) (Mid := [rowW E (ad 39) (ad 40) 32 f]) (Rr := [linW E ad ln, arrW E ad ar]) (Mid' := [rowW E (ad 39) (ad 40) 32 (rs 32 f (nI i) (rg 32 f (nI i) + (ln.over (h - (rg 120 ar.fr ((nI ar.ct - 1) - (nI i)))))))]) hE M rfl (List.append_nil _) (List.append_nil _) (fun hp => va_runV (As := [.int (nI i), .int (ln.over (h - (rg 120 ar.fr ((nI ar.ct - 1) - (nI i)))))]) (rest := []) S (c_X2_add l E (ad 39) (ad 40) 32 f (nI i) (ln.over (h - (rg 120 ar.fr ((nI ar.ct - 1) - (nI i))))) (by decide) _) (cwV 2 S.2.2.2.2 gX7_carryAlong_X2_add rfl rfl rfl kd_X2_add ⟨Nat.le_of_ble_eq_true rfl, Nat.le_of_ble_eq_true rfl⟩) (hp.V hE (show vwCl[2]? = some (RX2, TX2, 1) from rfl) rfl) rfl rfl hl.1 rfl (lv_room (Nat.le_of_ble_eq_true rfl)) dX7_carryAlong_39 ⟨Nat.zero_le _, Nat.zero_le _⟩) (fun H locs M => ?_)
      have M : gM E A s.heap [[(ad 38, .inr (7, [.ref (ad 39), .int (nI z.sz)]))], rowW E (ad 39) (ad 40) 32 (rs 32 f (nI i) (rg 32 f (nI i) + (ln.over (h - (rg 120 ar.fr ((nI ar.ct - 1) - (nI i))))))), linW E ad ln, arrW E ad ar] H locs := M
      refine lv_iinc (v := nI (i + 1)) (lv' := [(4, .int (nI (i + 1))), (5, .int (rg 120 ar.fr ((nI ar.ct - 1) - (nI i)))), (0, .ref (ad 38)), (1, .ref (ad 33)), (2, .ref (ad 4)), (3, .int h)]) S.1 S.2.1 dX7_carryAlong_42 hl (k := 5) rfl (nI_1 _) (by decide) rfl (fun ls hl => ?_)
      refine lv_goto (tgt := 3) S.1 S.2.1 dX7_carryAlong_45 (by decide) ?_
      exact ih (i + 1) _ (by omega) (by rw [hI, carl]) _ _ M ls (lv_sub hl [2, 3, 4, 5, 0] rfl)
  refine lv_iconst (v := 0) S.1 S.2.1 dX7_carryAlong_0 (by decide) ?_
  refine lv_istore (lv' := [(4, .int 0), (0, .ref (ad 38)), (1, .ref (ad 33)), (2, .ref (ad 4)), (3, .int h)]) S.1 S.2.1 dX7_carryAlong_1 hl (by decide) rfl (fun ls hl => ?_)
  exact hL z.sz 0 z.ds (by omega) rfl _ _ M ls (lv_sub hl [1, 2, 3, 4, 0] rfl)

set_option maxHeartbeats 4000000 in
set_option maxRecDepth 100000 in
theorem c_X7_greatestOfLast (l : Launch) (E : xE) (ad : Nat → Nat) (z : WisS) (k : Nat) (hk : k ≤ 32) : mI l yX7_greatestOfLast wsX7_greatestOfLast (xrm 1 21) E [.ref (ad 38), .int (nI k)] (wisGs E ad z) (z.most k) (wisGs E ad z) := by
  intro sz
  refine Met.ofW (cc := cX7_greatestOfLast) (maxL := 4) (ret := (some .int)) (by decide +kernel) rfl ?_
  intro vp ve s vm args below meth vc s₁ B hml hv
  obtain ⟨rfl, S, hr, hlk, hnm, A, hA, hE, M⟩ := genter B hml hv
  rw [hA]
  obtain ⟨ls, hfr, hl⟩ := gst (m := vm) (as := [.ref (ad 38), .int (nI k)]) (n := 4) (Nat.le_of_ble_eq_true rfl)
  rw [hfr]
  clear hfr hA
  have hl : lv_has ls 4 [(0, .ref (ad 38)), (1, .int (nI k))] := hl
  have M : gM E A s.heap [[(ad 38, .inr (7, [.ref (ad 39), .int (nI z.sz)]))], rowW E (ad 39) (ad 40) 32 z.ds] s.heap [] := M
  have hwi : ∀ w ∈ u_ws RX7 TX7 2, w ∈ wsX7_greatestOfLast := by decide +kernel
  obtain ⟨Q, hQ⟩ : ∃ Q : State → Prop, MQ below (va_Qi (fun x (_ : Unit) => x = (z.most k)) (fun _ => kQ E A (wisGs E ad z)) A) ([.ref (ad 38), .int (nI k)] : List Value).toArray s 0 0 A = Q := ⟨_, rfl⟩
  rw [hQ]
  have hL : ∀ (n : Nat), ∀ (i : Nat) (b : Int32), i + n = k ∨ (k = 0 ∧ n = 0) → i ≤ 40 → z.most k = gtl z.ds n i b → ∀ (H : Heap) (locs : List Loc), gM E A s.heap [[(ad 38, .inr (7, [.ref (ad 39), .int (nI z.sz)]))], rowW E (ad 39) (ad 40) 32 z.ds] H locs → ∀ ls : Array Slot, lv_has ls 4 [(0, .ref (ad 38)), (1, .int (nI k)), (2, .int b), (3, .int (nI i))] → W vp l ve (headSpec wsX7_greatestOfLast (xrm 1 21)).room s vm ([.ref (ad 38), .int (nI k)] : List Value).toArray below meth vc H locs 0 0 Q (F0 vm 11 ls []) := by
    intro n
    induction n with
    | zero =>
      intro i b hi hj hI H locs M ls hl
      refine lv_iload_n S.1 S.2.1 dX7_greatestOfLast_11 rfl (lv_at hl 3 rfl) ?_
      refine lv_iload_n S.1 S.2.1 dX7_greatestOfLast_12 rfl (lv_at hl 1 rfl) ?_
      refine lv_icmp_ge (tgt := 35) S.1 S.2.1 dX7_greatestOfLast_13 (by decide) (fun _ => ?_) (fun c_ => absurd (nI_le (by omega) (by omega)) c_)
      refine lv_iload_n S.1 S.2.1 dX7_greatestOfLast_35 rfl (lv_at hl 2 rfl) ?_
      rw [← hQ]
      exact giret S hr hlk M (hI.symm) (rfl) dX7_greatestOfLast_36
    | succ n ih =>
      intro i b hi hj hI H locs M ls hl
      refine lv_iload_n S.1 S.2.1 dX7_greatestOfLast_11 rfl (lv_at hl 3 rfl) ?_
      refine lv_iload_n S.1 S.2.1 dX7_greatestOfLast_12 rfl (lv_at hl 1 rfl) ?_
      refine lv_icmp_ge (tgt := 35) S.1 S.2.1 dX7_greatestOfLast_13 (by decide) (fun c_ => absurd c_ (nI_ge (by omega) (by omega))) (fun _ => ?_)
      refine lv_iload_n S.1 S.2.1 dX7_greatestOfLast_16 rfl (lv_at hl 2 rfl) ?_
      refine lv_aload_n S.1 S.2.1 dX7_greatestOfLast_17 rfl (lv_at hl 0 rfl) ?_
      refine gget S hE M (C := RX7) (T := TX7) (N := 2) (ci := 7) (index := 14) hwi 0 rfl rfl 0 (by decide) (by decide +kernel) rfl dX7_greatestOfLast_18 ?_
      refine lv_iload_n S.1 S.2.1 dX7_greatestOfLast_21 rfl (lv_at hl 3 rfl) ?_
      refine gcalli (L := [[(ad 38, .inr (7, [.ref (ad 39), .int (nI z.sz)]))]]) (Mid := [rowW E (ad 39) (ad 40) 32 z.ds]) (Rr := []) (Mid' := [rowW E (ad 39) (ad 40) 32 z.ds]) hE M rfl (List.append_nil _) (List.append_nil _) (fun hp => va_runV (As := [.int (nI i)]) (rest := [.int b]) S (c_X2_get l E (ad 39) (ad 40) 32 z.ds (nI i) (by decide) _) (cwV 1 S.2.2.2.2 gX7_greatestOfLast_X2_get rfl rfl rfl kd_X2_get ⟨Nat.le_of_ble_eq_true rfl, Nat.le_of_ble_eq_true rfl⟩) (hp.V hE (show vwCl[2]? = some (RX2, TX2, 1) from rfl) rfl) rfl rfl hl.1 rfl (lv_room (Nat.le_of_ble_eq_true rfl)) dX7_greatestOfLast_22 ⟨Nat.zero_le _, Nat.zero_le _⟩) (fun H locs M => ?_)
      have M : gM E A s.heap [[(ad 38, .inr (7, [.ref (ad 39), .int (nI z.sz)]))], rowW E (ad 39) (ad 40) 32 z.ds] H locs := M
      refine va_mmax S.1 S.2.1 (by rw [hl.1]; exact S.2.2.1) S.2.2.2.1 (S.2.2.2.2 (.methodLink RX7 73 Lib.Math.max.name) (by decide +kernel)) (S.2.2.2.2 (.static Lib.Math.max.name) (by decide +kernel)) (S.2.2.2.2 (.initialized "java/lang/Math") (by decide +kernel)) (S.2.2.2.2 (.code Lib.Math.max.name Lib.Math.max.code 2 (some .int)) (by decide +kernel)) (Nat.le_of_ble_eq_true rfl) (Nat.le_of_ble_eq_true rfl) (Nat.zero_le _) (Nat.zero_le _) dX7_greatestOfLast_25 ?_
      refine lv_istore_n (lv' := [(2, .int (imax b (rg 32 z.ds (nI i)))), (0, .ref (ad 38)), (1, .int (nI k)), (3, .int (nI i))]) S.1 S.2.1 dX7_greatestOfLast_28 rfl hl (by decide) rfl (fun ls hl => ?_)
      refine lv_iinc (v := nI (i + 1)) (lv' := [(3, .int (nI (i + 1))), (2, .int (imax b (rg 32 z.ds (nI i)))), (0, .ref (ad 38)), (1, .int (nI k))]) S.1 S.2.1 dX7_greatestOfLast_29 hl (k := 3) rfl (nI_1 _) (by decide) rfl (fun ls hl => ?_)
      refine lv_goto (tgt := 11) S.1 S.2.1 dX7_greatestOfLast_32 (by decide) ?_
      exact ih (i + 1) _ (by omega) (by omega) (by rw [hI, gtl]) _ _ M ls (lv_sub hl [2, 3, 1, 0] rfl)
  refine lv_aload_n S.1 S.2.1 dX7_greatestOfLast_0 rfl (lv_at hl 0 rfl) ?_
  refine gget S hE M (C := RX7) (T := TX7) (N := 2) (ci := 7) (index := 14) hwi 0 rfl rfl 0 (by decide) (by decide +kernel) rfl dX7_greatestOfLast_1 ?_
  refine lv_iconst (v := 0) S.1 S.2.1 dX7_greatestOfLast_4 (by decide) ?_
  refine gcalli (L := [[(ad 38, .inr (7, [.ref (ad 39), .int (nI z.sz)]))]]) (Mid := [rowW E (ad 39) (ad 40) 32 z.ds]) (Rr := []) (Mid' := [rowW E (ad 39) (ad 40) 32 z.ds]) hE M rfl (List.append_nil _) (List.append_nil _) (fun hp => va_runV (As := [.int 0]) (rest := []) S (c_X2_get l E (ad 39) (ad 40) 32 z.ds 0 (by decide) _) (cwV 1 S.2.2.2.2 gX7_greatestOfLast_X2_get rfl rfl rfl kd_X2_get ⟨Nat.le_of_ble_eq_true rfl, Nat.le_of_ble_eq_true rfl⟩) (hp.V hE (show vwCl[2]? = some (RX2, TX2, 1) from rfl) rfl) rfl rfl hl.1 rfl (lv_room (Nat.le_of_ble_eq_true rfl)) dX7_greatestOfLast_5 ⟨Nat.zero_le _, Nat.zero_le _⟩) (fun H locs M => ?_)
  have M : gM E A s.heap [[(ad 38, .inr (7, [.ref (ad 39), .int (nI z.sz)]))], rowW E (ad 39) (ad 40) 32 z.ds] H locs := M
  refine lv_istore_n (lv' := [(2, .int (rg 32 z.ds 0)), (0, .ref (ad 38)), (1, .int (nI k))]) S.1 S.2.1 dX7_greatestOfLast_8 rfl hl (by decide) rfl (fun ls hl => ?_)
  refine lv_iconst (v := 1) S.1 S.2.1 dX7_greatestOfLast_9 (by decide) ?_
  refine lv_istore_n (lv' := [(3, .int 1), (2, .int (rg 32 z.ds 0)), (0, .ref (ad 38)), (1, .int (nI k))]) S.1 S.2.1 dX7_greatestOfLast_10 rfl hl (by decide) rfl (fun ls hl => ?_)
  exact hL (k - 1) 1 _ (by omega) (by omega) rfl _ _ M ls (lv_sub hl [2, 3, 1, 0] rfl)

set_option maxHeartbeats 4000000 in
set_option maxRecDepth 100000 in
theorem c_X7_countAbove (l : Launch) (E : xE) (ad : Nat → Nat) (z : WisS) (v : Int32) (hc : z.sz ≤ 32) : mI l yX7_countAbove wsX7_countAbove (xrm 1 21) E [.ref (ad 38), .int v] (wisGs E ad z) (z.above v) (wisGs E ad z) := by
  intro sz
  refine Met.ofW (cc := cX7_countAbove) (maxL := 4) (ret := (some .int)) (by decide +kernel) rfl ?_
  intro vp ve s vm args below meth vc s₁ B hml hv
  obtain ⟨rfl, S, hr, hlk, hnm, A, hA, hE, M⟩ := genter B hml hv
  rw [hA]
  obtain ⟨ls, hfr, hl⟩ := gst (m := vm) (as := [.ref (ad 38), .int v]) (n := 4) (Nat.le_of_ble_eq_true rfl)
  rw [hfr]
  clear hfr hA
  have hl : lv_has ls 4 [(0, .ref (ad 38)), (1, .int v)] := hl
  have M : gM E A s.heap [[(ad 38, .inr (7, [.ref (ad 39), .int (nI z.sz)]))], rowW E (ad 39) (ad 40) 32 z.ds] s.heap [] := M
  have hwi : ∀ w ∈ u_ws RX7 TX7 2, w ∈ wsX7_countAbove := by decide +kernel
  obtain ⟨Q, hQ⟩ : ∃ Q : State → Prop, MQ below (va_Qi (fun x (_ : Unit) => x = (z.above v)) (fun _ => kQ E A (wisGs E ad z)) A) ([.ref (ad 38), .int v] : List Value).toArray s 0 0 A = Q := ⟨_, rfl⟩
  rw [hQ]
  have hL : ∀ (n : Nat), ∀ (i : Nat) (a : Int32), i + n = z.sz → z.above v = cgt (fun i => rg 32 z.ds (nI i)) v n i a → ∀ (H : Heap) (locs : List Loc), gM E A s.heap [[(ad 38, .inr (7, [.ref (ad 39), .int (nI z.sz)]))], rowW E (ad 39) (ad 40) 32 z.ds] H locs → ∀ ls : Array Slot, lv_has ls 4 [(0, .ref (ad 38)), (1, .int v), (2, .int a), (3, .int (nI i))] → W vp l ve (headSpec wsX7_countAbove (xrm 1 21)).room s vm ([.ref (ad 38), .int v] : List Value).toArray below meth vc H locs 0 0 Q (F0 vm 4 ls []) := by
    intro n
    induction n with
    | zero =>
      intro i a hi hI H locs M ls hl
      refine lv_iload_n S.1 S.2.1 dX7_countAbove_4 rfl (lv_at hl 3 rfl) ?_
      refine lv_aload_n S.1 S.2.1 dX7_countAbove_5 rfl (lv_at hl 0 rfl) ?_
      refine gget S hE M (C := RX7) (T := TX7) (N := 2) (ci := 7) (index := 26) hwi 0 rfl rfl 1 (by decide) (by decide +kernel) rfl dX7_countAbove_6 ?_
      refine lv_icmp_ge (tgt := 33) S.1 S.2.1 dX7_countAbove_9 (by decide) (fun _ => ?_) (fun c_ => absurd (nI_le (by omega) (by omega)) c_)
      refine lv_iload_n S.1 S.2.1 dX7_countAbove_33 rfl (lv_at hl 2 rfl) ?_
      rw [← hQ]
      exact giret S hr hlk M (hI.symm) (rfl) dX7_countAbove_34
    | succ n ih =>
      intro i a hi hI H locs M ls hl
      refine lv_iload_n S.1 S.2.1 dX7_countAbove_4 rfl (lv_at hl 3 rfl) ?_
      refine lv_aload_n S.1 S.2.1 dX7_countAbove_5 rfl (lv_at hl 0 rfl) ?_
      refine gget S hE M (C := RX7) (T := TX7) (N := 2) (ci := 7) (index := 26) hwi 0 rfl rfl 1 (by decide) (by decide +kernel) rfl dX7_countAbove_6 ?_
      refine lv_icmp_ge (tgt := 33) S.1 S.2.1 dX7_countAbove_9 (by decide) (fun c_ => absurd c_ (nI_ge (by omega) (by omega))) (fun _ => ?_)
      refine lv_aload_n S.1 S.2.1 dX7_countAbove_12 rfl (lv_at hl 0 rfl) ?_
      refine gget S hE M (C := RX7) (T := TX7) (N := 2) (ci := 7) (index := 14) hwi 0 rfl rfl 0 (by decide) (by decide +kernel) rfl dX7_countAbove_13 ?_
      refine lv_iload_n S.1 S.2.1 dX7_countAbove_16 rfl (lv_at hl 3 rfl) ?_
      refine gcalli (L := [[(ad 38, .inr (7, [.ref (ad 39), .int (nI z.sz)]))]]) (Mid := [rowW E (ad 39) (ad 40) 32 z.ds]) (Rr := []) (Mid' := [rowW E (ad 39) (ad 40) 32 z.ds]) hE M rfl (List.append_nil _) (List.append_nil _) (fun hp => va_runV (As := [.int (nI i)]) (rest := []) S (c_X2_get l E (ad 39) (ad 40) 32 z.ds (nI i) (by decide) _) (cwV 1 S.2.2.2.2 gX7_countAbove_X2_get rfl rfl rfl kd_X2_get ⟨Nat.le_of_ble_eq_true rfl, Nat.le_of_ble_eq_true rfl⟩) (hp.V hE (show vwCl[2]? = some (RX2, TX2, 1) from rfl) rfl) rfl rfl hl.1 rfl (lv_room (Nat.le_of_ble_eq_true rfl)) dX7_countAbove_17 ⟨Nat.zero_le _, Nat.zero_le _⟩) (fun H locs M => ?_)
      have M : gM E A s.heap [[(ad 38, .inr (7, [.ref (ad 39), .int (nI z.sz)]))], rowW E (ad 39) (ad 40) 32 z.ds] H locs := M
      refine lv_iload_n S.1 S.2.1 dX7_countAbove_20 rfl (lv_at hl 1 rfl) ?_
      refine lv_icmp_le (tgt := 27) S.1 S.2.1 dX7_countAbove_21 (by decide) (fun c21 => ?_) (fun c21 => ?_)
      ·
        refine lv_iinc (v := nI (i + 1)) (lv' := [(3, .int (nI (i + 1))), (0, .ref (ad 38)), (1, .int v), (2, .int a)]) S.1 S.2.1 dX7_countAbove_27 hl (k := 3) rfl (nI_1 _) (by decide) rfl (fun ls hl => ?_)
        refine lv_goto (tgt := 4) S.1 S.2.1 dX7_countAbove_30 (by decide) ?_
        exact ih (i + 1) _ (by omega) (by rw [hI, cgt, if_pos c21]) _ _ M ls (lv_sub hl [1, 2, 3, 0] rfl)
      ·
        refine lv_iinc (v := a + 1) (lv' := [(2, .int (a + 1)), (0, .ref (ad 38)), (1, .int v), (3, .int (nI i))]) S.1 S.2.1 dX7_countAbove_24 hl (k := 2) rfl (rfl) (by decide) rfl (fun ls hl => ?_)
        refine lv_iinc (v := nI (i + 1)) (lv' := [(3, .int (nI (i + 1))), (2, .int (a + 1)), (0, .ref (ad 38)), (1, .int v)]) S.1 S.2.1 dX7_countAbove_27 hl (k := 3) rfl (nI_1 _) (by decide) rfl (fun ls hl => ?_)
        refine lv_goto (tgt := 4) S.1 S.2.1 dX7_countAbove_30 (by decide) ?_
        exact ih (i + 1) _ (by omega) (by rw [hI, cgt, if_neg c21]) _ _ M ls (lv_sub hl [2, 3, 1, 0] rfl)
  refine lv_iconst (v := 0) S.1 S.2.1 dX7_countAbove_0 (by decide) ?_
  refine lv_istore_n (lv' := [(2, .int 0), (0, .ref (ad 38)), (1, .int v)]) S.1 S.2.1 dX7_countAbove_1 rfl hl (by decide) rfl (fun ls hl => ?_)
  refine lv_iconst (v := 0) S.1 S.2.1 dX7_countAbove_2 (by decide) ?_
  refine lv_istore_n (lv' := [(3, .int 0), (2, .int 0), (0, .ref (ad 38)), (1, .int v)]) S.1 S.2.1 dX7_countAbove_3 rfl hl (by decide) rfl (fun ls hl => ?_)
  exact hL z.sz 0 0 (by omega) rfl _ _ M ls (lv_sub hl [2, 3, 1, 0] rfl)

set_option maxHeartbeats 4000000 in
set_option maxRecDepth 100000 in
theorem c_X7_byShare (l : Launch) (E : xE) (ad : Nat → Nat) (z : WisS) (k : Int32) (hc : z.sz ≤ 32) : mI l yX7_byShare wsX7_byShare (xrm 2 44) E [.ref (ad 38), .int k] (wisGs E ad z) (z.share k) (wisGs E ad z) := by
  intro sz
  refine Met.ofW (cc := cX7_byShare) (maxL := 5) (ret := (some .int)) (by decide +kernel) rfl ?_
  intro vp ve s vm args below meth vc s₁ B hml hv
  obtain ⟨rfl, S, hr, hlk, hnm, A, hA, hE, M⟩ := genter B hml hv
  rw [hA]
  obtain ⟨ls, hfr, hl⟩ := gst (m := vm) (as := [.ref (ad 38), .int k]) (n := 5) (Nat.le_of_ble_eq_true rfl)
  rw [hfr]
  clear hfr hA
  have hl : lv_has ls 5 [(0, .ref (ad 38)), (1, .int k)] := hl
  have M : gM E A s.heap [[(ad 38, .inr (7, [.ref (ad 39), .int (nI z.sz)]))], rowW E (ad 39) (ad 40) 32 z.ds] s.heap [] := M
  have hwi : ∀ w ∈ u_ws RX7 TX7 2, w ∈ wsX7_byShare := by decide +kernel
  obtain ⟨Q, hQ⟩ : ∃ Q : State → Prop, MQ below (va_Qi (fun x (_ : Unit) => x = (z.share k)) (fun _ => kQ E A (wisGs E ad z)) A) ([.ref (ad 38), .int k] : List Value).toArray s 0 0 A = Q := ⟨_, rfl⟩
  rw [hQ]
  have hL : ∀ (n : Nat), ∀ (i : Nat) (b : Int32), i + n = z.sz → z.share k = bsl z k n i b → ∀ (H : Heap) (locs : List Loc), gM E A s.heap [[(ad 38, .inr (7, [.ref (ad 39), .int (nI z.sz)]))], rowW E (ad 39) (ad 40) 32 z.ds] H locs → ∀ ls : Array Slot, lv_has ls 5 [(0, .ref (ad 38)), (1, .int k), (2, .int b), (3, .int (nI i))] → W vp l ve (headSpec wsX7_byShare (xrm 2 44)).room s vm ([.ref (ad 38), .int k] : List Value).toArray below meth vc H locs 0 0 Q (F0 vm 11 ls []) := by
    intro n
    induction n with
    | zero =>
      intro i b hi hI H locs M ls hl
      refine lv_iload_n S.1 S.2.1 dX7_byShare_11 rfl (lv_at hl 3 rfl) ?_
      refine lv_aload_n S.1 S.2.1 dX7_byShare_12 rfl (lv_at hl 0 rfl) ?_
      refine gget S hE M (C := RX7) (T := TX7) (N := 2) (ci := 7) (index := 26) hwi 0 rfl rfl 1 (by decide) (by decide +kernel) rfl dX7_byShare_13 ?_
      refine lv_icmp_ge (tgt := 63) S.1 S.2.1 dX7_byShare_16 (by decide) (fun _ => ?_) (fun c_ => absurd (nI_le (by omega) (by omega)) c_)
      refine lv_iload_n S.1 S.2.1 dX7_byShare_63 rfl (lv_at hl 2 rfl) ?_
      rw [← hQ]
      exact giret S hr hlk M (hI.symm) (rfl) dX7_byShare_64
    | succ n ih =>
      intro i b hi hI H locs M ls hl
      refine lv_iload_n S.1 S.2.1 dX7_byShare_11 rfl (lv_at hl 3 rfl) ?_
      refine lv_aload_n S.1 S.2.1 dX7_byShare_12 rfl (lv_at hl 0 rfl) ?_
      refine gget S hE M (C := RX7) (T := TX7) (N := 2) (ci := 7) (index := 26) hwi 0 rfl rfl 1 (by decide) (by decide +kernel) rfl dX7_byShare_13 ?_
      refine lv_icmp_ge (tgt := 63) S.1 S.2.1 dX7_byShare_16 (by decide) (fun c_ => absurd c_ (nI_ge (by omega) (by omega))) (fun _ => ?_)
      refine lv_aload_n S.1 S.2.1 dX7_byShare_19 rfl (lv_at hl 0 rfl) ?_
      refine gget S hE M (C := RX7) (T := TX7) (N := 2) (ci := 7) (index := 14) hwi 0 rfl rfl 0 (by decide) (by decide +kernel) rfl dX7_byShare_20 ?_
      refine lv_iload_n S.1 S.2.1 dX7_byShare_23 rfl (lv_at hl 3 rfl) ?_
      refine gcalli (L := [[(ad 38, .inr (7, [.ref (ad 39), .int (nI z.sz)]))]]) (Mid := [rowW E (ad 39) (ad 40) 32 z.ds]) (Rr := []) (Mid' := [rowW E (ad 39) (ad 40) 32 z.ds]) hE M rfl (List.append_nil _) (List.append_nil _) (fun hp => va_runV (As := [.int (nI i)]) (rest := []) S (c_X2_get l E (ad 39) (ad 40) 32 z.ds (nI i) (by decide) _) (cwV 1 S.2.2.2.2 gX7_byShare_X2_get rfl rfl rfl kd_X2_get ⟨Nat.le_of_ble_eq_true rfl, Nat.le_of_ble_eq_true rfl⟩) (hp.V hE (show vwCl[2]? = some (RX2, TX2, 1) from rfl) rfl) rfl rfl hl.1 rfl (lv_room (Nat.le_of_ble_eq_true rfl)) dX7_byShare_24 ⟨Nat.zero_le _, Nat.zero_le _⟩) (fun H locs M => ?_)
      have M : gM E A s.heap [[(ad 38, .inr (7, [.ref (ad 39), .int (nI z.sz)]))], rowW E (ad 39) (ad 40) 32 z.ds] H locs := M
      refine lv_istore (lv' := [(4, .int (rg 32 z.ds (nI i))), (0, .ref (ad 38)), (1, .int k), (2, .int b), (3, .int (nI i))]) S.1 S.2.1 dX7_byShare_27 hl (by decide) rfl (fun ls hl => ?_)
      refine lv_iload S.1 S.2.1 dX7_byShare_29 (lv_at hl 0 rfl) ?_
      refine lv_iload_n S.1 S.2.1 dX7_byShare_31 rfl (lv_at hl 3 rfl) ?_
      refine lv_icmp_ge (tgt := 57) S.1 S.2.1 dX7_byShare_32 (by decide) (fun c32 => ?_) (fun c32 => ?_)
      ·
        refine lv_iinc (v := nI (i + 1)) (lv' := [(3, .int (nI (i + 1))), (4, .int (rg 32 z.ds (nI i))), (0, .ref (ad 38)), (1, .int k), (2, .int b)]) S.1 S.2.1 dX7_byShare_57 hl (k := 4) rfl (nI_1 _) (by decide) rfl (fun ls hl => ?_)
        refine lv_goto (tgt := 11) S.1 S.2.1 dX7_byShare_60 (by decide) ?_
        exact ih (i + 1) _ (by omega) (by rw [hI, bsl, if_pos c32]) _ _ M ls (lv_sub hl [2, 3, 4, 0] rfl)
      ·
        refine lv_sipush (v := 256) S.1 S.2.1 dX7_byShare_35 (by decide) ?_
        refine lv_aload_n S.1 S.2.1 dX7_byShare_38 rfl (lv_at hl 1 rfl) ?_
        refine lv_iload S.1 S.2.1 dX7_byShare_39 (lv_at hl 0 rfl) ?_
        refine gcalli (L := []) (Mid := wisGs E ad z) (Rr := []) (Mid' := wisGs E ad z) hE M rfl (rfl) (rfl) (fun hp => va_runV (As := [.int (rg 32 z.ds (nI i))]) (rest := [.int 256]) S (c_X7_countAbove l E ad z (rg 32 z.ds (nI i))  hc _) (cwV 1 S.2.2.2.2 gX7_byShare_X7_countAbove rfl rfl rfl kd_X7_countAbove ⟨Nat.le_of_ble_eq_true rfl, Nat.le_of_ble_eq_true rfl⟩) (hp.V hE (show vwCl[7]? = some (RX7, TX7, 2) from rfl) rfl) rfl rfl hl.1 rfl (lv_room (Nat.le_of_ble_eq_true rfl)) dX7_byShare_41 ⟨Nat.zero_le _, Nat.zero_le _⟩) (fun H locs M => ?_)
        have M : gM E A s.heap [[(ad 38, .inr (7, [.ref (ad 39), .int (nI z.sz)]))], rowW E (ad 39) (ad 40) 32 z.ds] H locs := M
        refine lv_imul S.1 S.2.1 dX7_byShare_44 ?_
        refine lv_iload_n S.1 S.2.1 dX7_byShare_45 rfl (lv_at hl 2 rfl) ?_
        refine lv_aload_n S.1 S.2.1 dX7_byShare_46 rfl (lv_at hl 1 rfl) ?_
        refine gget S hE M (C := RX7) (T := TX7) (N := 2) (ci := 7) (index := 26) hwi 0 rfl rfl 1 (by decide) (by decide +kernel) rfl dX7_byShare_47 ?_
        refine lv_imul S.1 S.2.1 dX7_byShare_50 ?_
        refine lv_icmp_gt (tgt := 57) S.1 S.2.1 dX7_byShare_51 (by decide) (fun c51 => ?_) (fun c51 => ?_)
        ·
          refine lv_iinc (v := nI (i + 1)) (lv' := [(3, .int (nI (i + 1))), (4, .int (rg 32 z.ds (nI i))), (0, .ref (ad 38)), (1, .int k), (2, .int b)]) S.1 S.2.1 dX7_byShare_57 hl (k := 4) rfl (nI_1 _) (by decide) rfl (fun ls hl => ?_)
          refine lv_goto (tgt := 11) S.1 S.2.1 dX7_byShare_60 (by decide) ?_
          exact ih (i + 1) _ (by omega) (by rw [hI, bsl, if_neg c32, if_pos c51]) _ _ M ls (lv_sub hl [2, 3, 4, 0] rfl)
        ·
          refine lv_iload S.1 S.2.1 dX7_byShare_54 (lv_at hl 0 rfl) ?_
          refine lv_istore_n (lv' := [(2, .int (rg 32 z.ds (nI i))), (4, .int (rg 32 z.ds (nI i))), (0, .ref (ad 38)), (1, .int k), (3, .int (nI i))]) S.1 S.2.1 dX7_byShare_56 rfl hl (by decide) rfl (fun ls hl => ?_)
          refine lv_iinc (v := nI (i + 1)) (lv' := [(3, .int (nI (i + 1))), (2, .int (rg 32 z.ds (nI i))), (4, .int (rg 32 z.ds (nI i))), (0, .ref (ad 38)), (1, .int k)]) S.1 S.2.1 dX7_byShare_57 hl (k := 4) rfl (nI_1 _) (by decide) rfl (fun ls hl => ?_)
          refine lv_goto (tgt := 11) S.1 S.2.1 dX7_byShare_60 (by decide) ?_
          exact ih (i + 1) _ (by omega) (by rw [hI, bsl, if_neg c32, if_neg c51]) _ _ M ls (lv_sub hl [3, 4, 1, 0] rfl)
  refine lv_aload_n S.1 S.2.1 dX7_byShare_0 rfl (lv_at hl 0 rfl) ?_
  refine lv_aload_n S.1 S.2.1 dX7_byShare_1 rfl (lv_at hl 0 rfl) ?_
  refine gget S hE M (C := RX7) (T := TX7) (N := 2) (ci := 7) (index := 26) hwi 0 rfl rfl 1 (by decide) (by decide +kernel) rfl dX7_byShare_2 ?_
  refine gcalli (L := []) (Mid := wisGs E ad z) (Rr := []) (Mid' := wisGs E ad z) hE M rfl (rfl) (rfl) (fun hp => va_runV (As := [.int (nI z.sz)]) (rest := []) S (c_X7_greatestOfLast l E ad z z.sz  hc _) (cwV 1 S.2.2.2.2 gX7_byShare_X7_greatestOfLast rfl rfl rfl kd_X7_greatestOfLast ⟨Nat.le_of_ble_eq_true rfl, Nat.le_of_ble_eq_true rfl⟩) (hp.V hE (show vwCl[7]? = some (RX7, TX7, 2) from rfl) rfl) rfl rfl hl.1 rfl (lv_room (Nat.le_of_ble_eq_true rfl)) dX7_byShare_5 ⟨Nat.zero_le _, Nat.zero_le _⟩) (fun H locs M => ?_)
  have M : gM E A s.heap [[(ad 38, .inr (7, [.ref (ad 39), .int (nI z.sz)]))], rowW E (ad 39) (ad 40) 32 z.ds] H locs := M
  refine lv_istore_n (lv' := [(2, .int (z.most z.sz)), (0, .ref (ad 38)), (1, .int k)]) S.1 S.2.1 dX7_byShare_8 rfl hl (by decide) rfl (fun ls hl => ?_)
  refine lv_iconst (v := 0) S.1 S.2.1 dX7_byShare_9 (by decide) ?_
  refine lv_istore_n (lv' := [(3, .int 0), (2, .int (z.most z.sz)), (0, .ref (ad 38)), (1, .int k)]) S.1 S.2.1 dX7_byShare_10 rfl hl (by decide) rfl (fun ls hl => ?_)
  exact hL z.sz 0 _ (by omega) rfl _ _ M ls (lv_sub hl [2, 3, 1, 0] rfl)

set_option maxHeartbeats 4000000 in
set_option maxRecDepth 100000 in
theorem c_X7_greatestOfLastThree (l : Launch) (E : xE) (ad : Nat → Nat) (z : WisS) (hc : z.sz ≤ 32) : mI l yX7_greatestOfLastThree wsX7_greatestOfLastThree (xrm 2 44) E [.ref (ad 38)] (wisGs E ad z) (z.most (min z.sz 3)) (wisGs E ad z) := by
  intro sz
  refine Met.ofW (cc := cX7_greatestOfLastThree) (maxL := 1) (ret := (some .int)) (by decide +kernel) rfl ?_
  intro vp ve s vm args below meth vc s₁ B hml hv
  obtain ⟨rfl, S, hr, hlk, hnm, A, hA, hE, M⟩ := genter B hml hv
  rw [hA]
  obtain ⟨ls, hfr, hl⟩ := gst (m := vm) (as := [.ref (ad 38)]) (n := 1) (Nat.le_of_ble_eq_true rfl)
  rw [hfr]
  clear hfr hA
  have hl : lv_has ls 1 [(0, .ref (ad 38))] := hl
  have M : gM E A s.heap [[(ad 38, .inr (7, [.ref (ad 39), .int (nI z.sz)]))], rowW E (ad 39) (ad 40) 32 z.ds] s.heap [] := M
  have hwi : ∀ w ∈ u_ws RX7 TX7 2, w ∈ wsX7_greatestOfLastThree := by decide +kernel
  refine lv_aload_n S.1 S.2.1 dX7_greatestOfLastThree_0 rfl (lv_at hl 0 rfl) ?_
  refine lv_aload_n S.1 S.2.1 dX7_greatestOfLastThree_1 rfl (lv_at hl 0 rfl) ?_
  refine gget S hE M (C := RX7) (T := TX7) (N := 2) (ci := 7) (index := 26) hwi 0 rfl rfl 1 (by decide) (by decide +kernel) rfl dX7_greatestOfLastThree_2 ?_
  refine lv_iconst (v := 3) S.1 S.2.1 dX7_greatestOfLastThree_5 (by decide) ?_
  refine va_mmin S.1 S.2.1 (by rw [hl.1]; exact S.2.2.1) S.2.2.2.1 (S.2.2.2.2 (.methodLink RX7 61 Lib.Math.min.name) (by decide +kernel)) (S.2.2.2.2 (.static Lib.Math.min.name) (by decide +kernel)) (S.2.2.2.2 (.initialized "java/lang/Math") (by decide +kernel)) (S.2.2.2.2 (.code Lib.Math.min.name Lib.Math.min.code 2 (some .int)) (by decide +kernel)) (Nat.le_of_ble_eq_true rfl) (Nat.le_of_ble_eq_true rfl) (Nat.zero_le _) (Nat.zero_le _) dX7_greatestOfLastThree_6 ?_
  refine gtop (x' := nI (min z.sz 3)) (imin_nI (b := 3) (by omega) (by omega)) ?_
  refine gcalli (L := []) (Mid := wisGs E ad z) (Rr := []) (Mid' := wisGs E ad z) hE M rfl (rfl) (rfl) (fun hp => va_runV (As := [.int (nI (min z.sz 3))]) (rest := []) S (c_X7_greatestOfLast l E ad z (min z.sz 3)  (by omega) _) (cwV 1 S.2.2.2.2 gX7_greatestOfLastThree_X7_greatestOfLast rfl rfl rfl kd_X7_greatestOfLast ⟨Nat.le_of_ble_eq_true rfl, Nat.le_of_ble_eq_true rfl⟩) (hp.V hE (show vwCl[7]? = some (RX7, TX7, 2) from rfl) rfl) rfl rfl hl.1 rfl (lv_room (Nat.le_of_ble_eq_true rfl)) dX7_greatestOfLastThree_9 ⟨Nat.zero_le _, Nat.zero_le _⟩) (fun H locs M => ?_)
  have M : gM E A s.heap [[(ad 38, .inr (7, [.ref (ad 39), .int (nI z.sz)]))], rowW E (ad 39) (ad 40) 32 z.ds] H locs := M
  exact giret S hr hlk M (rfl) (rfl) dX7_greatestOfLastThree_12

set_option maxHeartbeats 4000000 in
set_option maxRecDepth 100000 in
theorem c_X7_byMean (l : Launch) (E : xE) (ad : Nat → Nat) (z : WisS) (k : Int32) (hc : z.sz ≤ 32) : mI l yX7_byMean wsX7_byMean (xrm 1 22) E [.ref (ad 38), .int k] (wisGs E ad z) (z.byMean k) (wisGs E ad z) := by
  intro sz
  refine Met.ofW (cc := cX7_byMean) (maxL := 6) (ret := (some .int)) (by decide +kernel) rfl ?_
  intro vp ve s vm args below meth vc s₁ B hml hv
  obtain ⟨rfl, S, hr, hlk, hnm, A, hA, hE, M⟩ := genter B hml hv
  rw [hA]
  obtain ⟨ls, hfr, hl⟩ := gst (m := vm) (as := [.ref (ad 38), .int k]) (n := 6) (Nat.le_of_ble_eq_true rfl)
  rw [hfr]
  clear hfr hA
  have hl : lv_has ls 6 [(0, .ref (ad 38)), (1, .int k)] := hl
  have M : gM E A s.heap [[(ad 38, .inr (7, [.ref (ad 39), .int (nI z.sz)]))], rowW E (ad 39) (ad 40) 32 z.ds] s.heap [] := M
  have hwi : ∀ w ∈ u_ws RX7 TX7 2, w ∈ wsX7_byMean := by decide +kernel
  obtain ⟨Q, hQ⟩ : ∃ Q : State → Prop, MQ below (va_Qi (fun x (_ : Unit) => x = (z.byMean k)) (fun _ => kQ E A (wisGs E ad z)) A) ([.ref (ad 38), .int k] : List Value).toArray s 0 0 A = Q := ⟨_, rfl⟩
  rw [hQ]
  have hB : ∀ (n : Nat), ∀ (i : Nat) (a : Int32), 0 < nI z.sz → i + n = z.sz → sumr (fun i => iabs (rg 32 z.ds (nI i) - z.mean)) z.sz 0 0 = sumr (fun i => iabs (rg 32 z.ds (nI i) - z.mean)) n i a → ∀ (H : Heap) (locs : List Loc), gM E A s.heap [[(ad 38, .inr (7, [.ref (ad 39), .int (nI z.sz)]))], rowW E (ad 39) (ad 40) 32 z.ds] H locs → ∀ ls : Array Slot, lv_has ls 6 [(0, .ref (ad 38)), (1, .int k), (3, .int z.mean), (4, .int a), (5, .int (nI i))] → W vp l ve (headSpec wsX7_byMean (xrm 1 22)).room s vm ([.ref (ad 38), .int k] : List Value).toArray below meth vc H locs 0 0 Q (F0 vm 53 ls []) := by
    intro n
    induction n with
    | zero =>
      intro i a c4 hi hI H locs M ls hl
      refine lv_iload S.1 S.2.1 dX7_byMean_53 (lv_at hl 4 rfl) ?_
      refine lv_aload_n S.1 S.2.1 dX7_byMean_55 rfl (lv_at hl 0 rfl) ?_
      refine gget S hE M (C := RX7) (T := TX7) (N := 2) (ci := 7) (index := 26) hwi 0 rfl rfl 1 (by decide) (by decide +kernel) rfl dX7_byMean_56 ?_
      refine lv_icmp_ge (tgt := 87) S.1 S.2.1 dX7_byMean_59 (by decide) (fun _ => ?_) (fun c_ => absurd (nI_le (by omega) (by omega)) c_)
      refine lv_iload_n S.1 S.2.1 dX7_byMean_87 rfl (lv_at hl 2 rfl) ?_
      refine lv_iload_n S.1 S.2.1 dX7_byMean_88 rfl (lv_at hl 1 rfl) ?_
      refine lv_iload S.1 S.2.1 dX7_byMean_89 (lv_at hl 3 rfl) ?_
      refine lv_aload_n S.1 S.2.1 dX7_byMean_91 rfl (lv_at hl 0 rfl) ?_
      refine gget S hE M (C := RX7) (T := TX7) (N := 2) (ci := 7) (index := 26) hwi 0 rfl rfl 1 (by decide) (by decide +kernel) rfl dX7_byMean_92 ?_
      refine gcalli (L := []) (Mid := []) (Rr := [[(ad 38, .inr (7, [.ref (ad 39), .int (nI z.sz)]))], rowW E (ad 39) (ad 40) 32 z.ds]) (Mid' := []) hE M rfl (rfl) (rfl) (fun hp => va_runS (As := [.int a, .int (nI z.sz)]) (rest := [.int k, .int z.mean]) S (c_J9_floorDiv_7cf53 l E a (nI z.sz) (fun q => absurd c4 (by rw [q]; decide)) _) (va_cwS 2 S.2.2.2.2 gX7_byMean_J9_floorDiv_7cf53 rfl rfl rfl kd_J9_floorDiv_7cf53.2 ⟨Nat.le_of_ble_eq_true rfl, Nat.le_of_ble_eq_true rfl⟩) hp.S rfl rfl hl.1 rfl (lv_room (Nat.le_of_ble_eq_true rfl)) dX7_byMean_95 ⟨Nat.zero_le _, Nat.zero_le _⟩) (fun H locs M => ?_)
      have M : gM E A s.heap [[(ad 38, .inr (7, [.ref (ad 39), .int (nI z.sz)]))], rowW E (ad 39) (ad 40) 32 z.ds] H locs := M
      refine lv_imul S.1 S.2.1 dX7_byMean_98 ?_
      refine lv_iadd S.1 S.2.1 dX7_byMean_99 ?_
      rw [← hQ]
      exact giret S hr hlk M (by unfold WisS.byMean WisS.far; rw [if_pos c4, hI, sumr]) (rfl) dX7_byMean_100
    | succ n ih =>
      intro i a c4 hi hI H locs M ls hl
      refine lv_iload S.1 S.2.1 dX7_byMean_53 (lv_at hl 4 rfl) ?_
      refine lv_aload_n S.1 S.2.1 dX7_byMean_55 rfl (lv_at hl 0 rfl) ?_
      refine gget S hE M (C := RX7) (T := TX7) (N := 2) (ci := 7) (index := 26) hwi 0 rfl rfl 1 (by decide) (by decide +kernel) rfl dX7_byMean_56 ?_
      refine lv_icmp_ge (tgt := 87) S.1 S.2.1 dX7_byMean_59 (by decide) (fun c_ => absurd c_ (nI_ge (by omega) (by omega))) (fun _ => ?_)
      refine lv_iload S.1 S.2.1 dX7_byMean_62 (lv_at hl 3 rfl) ?_
      refine lv_aload_n S.1 S.2.1 dX7_byMean_64 rfl (lv_at hl 0 rfl) ?_
      refine gget S hE M (C := RX7) (T := TX7) (N := 2) (ci := 7) (index := 14) hwi 0 rfl rfl 0 (by decide) (by decide +kernel) rfl dX7_byMean_65 ?_
      refine lv_iload S.1 S.2.1 dX7_byMean_68 (lv_at hl 4 rfl) ?_
      refine gcalli (L := [[(ad 38, .inr (7, [.ref (ad 39), .int (nI z.sz)]))]]) (Mid := [rowW E (ad 39) (ad 40) 32 z.ds]) (Rr := []) (Mid' := [rowW E (ad 39) (ad 40) 32 z.ds]) hE M rfl (List.append_nil _) (List.append_nil _) (fun hp => va_runV (As := [.int (nI i)]) (rest := [.int a]) S (c_X2_get l E (ad 39) (ad 40) 32 z.ds (nI i) (by decide) _) (cwV 1 S.2.2.2.2 gX7_byMean_X2_get rfl rfl rfl kd_X2_get ⟨Nat.le_of_ble_eq_true rfl, Nat.le_of_ble_eq_true rfl⟩) (hp.V hE (show vwCl[2]? = some (RX2, TX2, 1) from rfl) rfl) rfl rfl hl.1 rfl (lv_room (Nat.le_of_ble_eq_true rfl)) dX7_byMean_70 ⟨Nat.zero_le _, Nat.zero_le _⟩) (fun H locs M => ?_)
      have M : gM E A s.heap [[(ad 38, .inr (7, [.ref (ad 39), .int (nI z.sz)]))], rowW E (ad 39) (ad 40) 32 z.ds] H locs := M
      refine lv_iload_n S.1 S.2.1 dX7_byMean_73 rfl (lv_at hl 2 rfl) ?_
      refine lv_isub S.1 S.2.1 dX7_byMean_74 ?_
      refine va_mabs S.1 S.2.1 (by rw [hl.1]; exact S.2.2.1) S.2.2.2.1 (S.2.2.2.2 (.methodLink RX7 70 Lib.Math.abs.name) (by decide +kernel)) (S.2.2.2.2 (.static Lib.Math.abs.name) (by decide +kernel)) (S.2.2.2.2 (.initialized "java/lang/Math") (by decide +kernel)) (S.2.2.2.2 (.code Lib.Math.abs.name Lib.Math.abs.code 1 (some .int)) (by decide +kernel)) (Nat.le_of_ble_eq_true rfl) (Nat.le_of_ble_eq_true rfl) (Nat.zero_le _) (Nat.zero_le _) dX7_byMean_75 ?_
      refine lv_iadd S.1 S.2.1 dX7_byMean_78 ?_
      refine lv_istore (lv' := [(4, .int (a + (iabs ((rg 32 z.ds (nI i)) - z.mean)))), (0, .ref (ad 38)), (1, .int k), (3, .int z.mean), (5, .int (nI i))]) S.1 S.2.1 dX7_byMean_79 hl (by decide) rfl (fun ls hl => ?_)
      refine lv_iinc (v := nI (i + 1)) (lv' := [(5, .int (nI (i + 1))), (4, .int (a + (iabs ((rg 32 z.ds (nI i)) - z.mean)))), (0, .ref (ad 38)), (1, .int k), (3, .int z.mean)]) S.1 S.2.1 dX7_byMean_81 hl (k := 4) rfl (nI_1 _) (by decide) rfl (fun ls hl => ?_)
      refine lv_goto (tgt := 53) S.1 S.2.1 dX7_byMean_84 (by decide) ?_
      exact ih (i + 1) _ c4 (by omega) (by rw [hI, sumr]) _ _ M ls (lv_sub hl [2, 3, 4, 1, 0] rfl)
  have hA : ∀ (n : Nat), ∀ (i : Nat) (a : Int32), 0 < nI z.sz → i + n = z.sz → sumr (fun i => rg 32 z.ds (nI i)) z.sz 0 0 = sumr (fun i => rg 32 z.ds (nI i)) n i a → ∀ (H : Heap) (locs : List Loc), gM E A s.heap [[(ad 38, .inr (7, [.ref (ad 39), .int (nI z.sz)]))], rowW E (ad 39) (ad 40) 32 z.ds] H locs → ∀ ls : Array Slot, lv_has ls 6 [(0, .ref (ad 38)), (1, .int k), (2, .int a), (3, .int (nI i))] → W vp l ve (headSpec wsX7_byMean (xrm 1 22)).room s vm ([.ref (ad 38), .int k] : List Value).toArray below meth vc H locs 0 0 Q (F0 vm 13 ls []) := by
    intro n
    induction n with
    | zero =>
      intro i a c4 hi hI H locs M ls hl
      refine lv_iload_n S.1 S.2.1 dX7_byMean_13 rfl (lv_at hl 3 rfl) ?_
      refine lv_aload_n S.1 S.2.1 dX7_byMean_14 rfl (lv_at hl 0 rfl) ?_
      refine gget S hE M (C := RX7) (T := TX7) (N := 2) (ci := 7) (index := 26) hwi 0 rfl rfl 1 (by decide) (by decide +kernel) rfl dX7_byMean_15 ?_
      refine lv_icmp_ge (tgt := 38) S.1 S.2.1 dX7_byMean_18 (by decide) (fun _ => ?_) (fun c_ => absurd (nI_le (by omega) (by omega)) c_)
      refine lv_iload_n S.1 S.2.1 dX7_byMean_38 rfl (lv_at hl 2 rfl) ?_
      refine lv_aload_n S.1 S.2.1 dX7_byMean_39 rfl (lv_at hl 0 rfl) ?_
      refine gget S hE M (C := RX7) (T := TX7) (N := 2) (ci := 7) (index := 26) hwi 0 rfl rfl 1 (by decide) (by decide +kernel) rfl dX7_byMean_40 ?_
      refine gcalli (L := []) (Mid := []) (Rr := [[(ad 38, .inr (7, [.ref (ad 39), .int (nI z.sz)]))], rowW E (ad 39) (ad 40) 32 z.ds]) (Mid' := []) hE M rfl (rfl) (rfl) (fun hp => va_runS (As := [.int a, .int (nI z.sz)]) (rest := []) S (c_J9_floorDiv_7cf53 l E a (nI z.sz) (fun q => absurd c4 (by rw [q]; decide)) _) (va_cwS 2 S.2.2.2.2 gX7_byMean_J9_floorDiv_7cf53 rfl rfl rfl kd_J9_floorDiv_7cf53.2 ⟨Nat.le_of_ble_eq_true rfl, Nat.le_of_ble_eq_true rfl⟩) hp.S rfl rfl hl.1 rfl (lv_room (Nat.le_of_ble_eq_true rfl)) dX7_byMean_43 ⟨Nat.zero_le _, Nat.zero_le _⟩) (fun H locs M => ?_)
      have M : gM E A s.heap [[(ad 38, .inr (7, [.ref (ad 39), .int (nI z.sz)]))], rowW E (ad 39) (ad 40) 32 z.ds] H locs := M
      refine gtop (x' := z.mean) (by unfold WisS.mean; rw [hI, sumr]) ?_
      refine lv_istore_n (lv' := [(3, .int z.mean), (0, .ref (ad 38)), (1, .int k), (2, .int a)]) S.1 S.2.1 dX7_byMean_46 rfl hl (by decide) rfl (fun ls hl => ?_)
      refine lv_iconst (v := 0) S.1 S.2.1 dX7_byMean_47 (by decide) ?_
      refine lv_istore (lv' := [(4, .int 0), (3, .int z.mean), (0, .ref (ad 38)), (1, .int k), (2, .int a)]) S.1 S.2.1 dX7_byMean_48 hl (by decide) rfl (fun ls hl => ?_)
      refine lv_iconst (v := 0) S.1 S.2.1 dX7_byMean_50 (by decide) ?_
      refine lv_istore (lv' := [(5, .int 0), (4, .int 0), (3, .int z.mean), (0, .ref (ad 38)), (1, .int k), (2, .int a)]) S.1 S.2.1 dX7_byMean_51 hl (by decide) rfl (fun ls hl => ?_)
      exact hB z.sz 0 0 c4 (by omega) rfl _ _ M ls (lv_sub hl [3, 4, 2, 1, 0] rfl)
    | succ n ih =>
      intro i a c4 hi hI H locs M ls hl
      refine lv_iload_n S.1 S.2.1 dX7_byMean_13 rfl (lv_at hl 3 rfl) ?_
      refine lv_aload_n S.1 S.2.1 dX7_byMean_14 rfl (lv_at hl 0 rfl) ?_
      refine gget S hE M (C := RX7) (T := TX7) (N := 2) (ci := 7) (index := 26) hwi 0 rfl rfl 1 (by decide) (by decide +kernel) rfl dX7_byMean_15 ?_
      refine lv_icmp_ge (tgt := 38) S.1 S.2.1 dX7_byMean_18 (by decide) (fun c_ => absurd c_ (nI_ge (by omega) (by omega))) (fun _ => ?_)
      refine lv_iload_n S.1 S.2.1 dX7_byMean_21 rfl (lv_at hl 2 rfl) ?_
      refine lv_aload_n S.1 S.2.1 dX7_byMean_22 rfl (lv_at hl 0 rfl) ?_
      refine gget S hE M (C := RX7) (T := TX7) (N := 2) (ci := 7) (index := 14) hwi 0 rfl rfl 0 (by decide) (by decide +kernel) rfl dX7_byMean_23 ?_
      refine lv_iload_n S.1 S.2.1 dX7_byMean_26 rfl (lv_at hl 3 rfl) ?_
      refine gcalli (L := [[(ad 38, .inr (7, [.ref (ad 39), .int (nI z.sz)]))]]) (Mid := [rowW E (ad 39) (ad 40) 32 z.ds]) (Rr := []) (Mid' := [rowW E (ad 39) (ad 40) 32 z.ds]) hE M rfl (List.append_nil _) (List.append_nil _) (fun hp => va_runV (As := [.int (nI i)]) (rest := [.int a]) S (c_X2_get l E (ad 39) (ad 40) 32 z.ds (nI i) (by decide) _) (cwV 1 S.2.2.2.2 gX7_byMean_X2_get rfl rfl rfl kd_X2_get ⟨Nat.le_of_ble_eq_true rfl, Nat.le_of_ble_eq_true rfl⟩) (hp.V hE (show vwCl[2]? = some (RX2, TX2, 1) from rfl) rfl) rfl rfl hl.1 rfl (lv_room (Nat.le_of_ble_eq_true rfl)) dX7_byMean_27 ⟨Nat.zero_le _, Nat.zero_le _⟩) (fun H locs M => ?_)
      have M : gM E A s.heap [[(ad 38, .inr (7, [.ref (ad 39), .int (nI z.sz)]))], rowW E (ad 39) (ad 40) 32 z.ds] H locs := M
      refine lv_iadd S.1 S.2.1 dX7_byMean_30 ?_
      refine lv_istore_n (lv' := [(2, .int (a + (rg 32 z.ds (nI i)))), (0, .ref (ad 38)), (1, .int k), (3, .int (nI i))]) S.1 S.2.1 dX7_byMean_31 rfl hl (by decide) rfl (fun ls hl => ?_)
      refine lv_iinc (v := nI (i + 1)) (lv' := [(3, .int (nI (i + 1))), (2, .int (a + (rg 32 z.ds (nI i)))), (0, .ref (ad 38)), (1, .int k)]) S.1 S.2.1 dX7_byMean_32 hl (k := 3) rfl (nI_1 _) (by decide) rfl (fun ls hl => ?_)
      refine lv_goto (tgt := 13) S.1 S.2.1 dX7_byMean_35 (by decide) ?_
      exact ih (i + 1) _ c4 (by omega) (by rw [hI, sumr]) _ _ M ls (lv_sub hl [2, 3, 1, 0] rfl)
  refine lv_aload_n S.1 S.2.1 dX7_byMean_0 rfl (lv_at hl 0 rfl) ?_
  refine gget S hE M (C := RX7) (T := TX7) (N := 2) (ci := 7) (index := 26) hwi 0 rfl rfl 1 (by decide) (by decide +kernel) rfl dX7_byMean_1 ?_
  refine lv_if_gt (tgt := 9) S.1 S.2.1 dX7_byMean_4 (by decide) (fun c4 => ?_) (fun c4 => ?_)
  ·
    refine lv_iconst (v := 0) S.1 S.2.1 dX7_byMean_9 (by decide) ?_
    refine lv_istore_n (lv' := [(2, .int 0), (0, .ref (ad 38)), (1, .int k)]) S.1 S.2.1 dX7_byMean_10 rfl hl (by decide) rfl (fun ls hl => ?_)
    refine lv_iconst (v := 0) S.1 S.2.1 dX7_byMean_11 (by decide) ?_
    refine lv_istore_n (lv' := [(3, .int 0), (2, .int 0), (0, .ref (ad 38)), (1, .int k)]) S.1 S.2.1 dX7_byMean_12 rfl hl (by decide) rfl (fun ls hl => ?_)
    exact hA z.sz 0 0 c4 (by omega) rfl _ _ M ls (lv_sub hl [2, 3, 1, 0] rfl)
  ·
    refine lv_iconst (v := 0) S.1 S.2.1 dX7_byMean_7 (by decide) ?_
    rw [← hQ]
    exact giret S hr hlk M (by unfold WisS.byMean; rw [if_neg c4]) (rfl) dX7_byMean_8

set_option maxHeartbeats 4000000 in
set_option maxRecDepth 100000 in
theorem c_X3_size (l : Launch) (E : xE) (ad : Nat → Nat) (z : SheS) : mI l yX3_size wsX3_size (xrm 0 0) E [.ref (ad 41)] (sheGs E ad z) (nI z.sz) (sheGs E ad z) := by
  intro sz
  refine Met.ofW (cc := cX3_size) (maxL := 1) (ret := (some .int)) (by decide +kernel) rfl ?_
  intro vp ve s vm args below meth vc s₁ B hml hv
  obtain ⟨rfl, S, hr, hlk, hnm, A, hA, hE, M⟩ := genter B hml hv
  rw [hA]
  obtain ⟨ls, hfr, hl⟩ := gst (m := vm) (as := [.ref (ad 41)]) (n := 1) (Nat.le_of_ble_eq_true rfl)
  rw [hfr]
  clear hfr hA
  have hl : lv_has ls 1 [(0, .ref (ad 41))] := hl
  have M : gM E A s.heap [[(ad 41, .inr (3, [.ref (ad 42), .int (nI z.sz)]))], rowW E (ad 42) (ad 43) 32 z.cs] s.heap [] := M
  have hwi : ∀ w ∈ u_ws RX3 TX3 2, w ∈ wsX3_size := by decide +kernel
  refine lv_aload_n S.1 S.2.1 dX3_size_0 rfl (lv_at hl 0 rfl) ?_
  refine gget S hE M (C := RX3) (T := TX3) (N := 2) (ci := 3) (index := 20) hwi 0 rfl rfl 1 (by decide) (by decide +kernel) rfl dX3_size_1 ?_
  exact giret S hr hlk M (rfl) (rfl) dX3_size_4

set_option maxHeartbeats 4000000 in
set_option maxRecDepth 100000 in
theorem c_X3_codeAt (l : Launch) (E : xE) (ad : Nat → Nat) (z : SheS) (i : Int32) : mI l yX3_codeAt wsX3_codeAt (xrm 1 21) E [.ref (ad 41), .int i] (sheGs E ad z) (rg 32 z.cs i) (sheGs E ad z) := by
  intro sz
  refine Met.ofW (cc := cX3_codeAt) (maxL := 2) (ret := (some .int)) (by decide +kernel) rfl ?_
  intro vp ve s vm args below meth vc s₁ B hml hv
  obtain ⟨rfl, S, hr, hlk, hnm, A, hA, hE, M⟩ := genter B hml hv
  rw [hA]
  obtain ⟨ls, hfr, hl⟩ := gst (m := vm) (as := [.ref (ad 41), .int i]) (n := 2) (Nat.le_of_ble_eq_true rfl)
  rw [hfr]
  clear hfr hA
  have hl : lv_has ls 2 [(0, .ref (ad 41)), (1, .int i)] := hl
  have M : gM E A s.heap [[(ad 41, .inr (3, [.ref (ad 42), .int (nI z.sz)]))], rowW E (ad 42) (ad 43) 32 z.cs] s.heap [] := M
  have hwi : ∀ w ∈ u_ws RX3 TX3 2, w ∈ wsX3_codeAt := by decide +kernel
  refine lv_aload_n S.1 S.2.1 dX3_codeAt_0 rfl (lv_at hl 0 rfl) ?_
  refine gget S hE M (C := RX3) (T := TX3) (N := 2) (ci := 3) (index := 14) hwi 0 rfl rfl 0 (by decide) (by decide +kernel) rfl dX3_codeAt_1 ?_
  refine lv_iload_n S.1 S.2.1 dX3_codeAt_4 rfl (lv_at hl 1 rfl) ?_
  refine gcalli (L := [[(ad 41, .inr (3, [.ref (ad 42), .int (nI z.sz)]))]]) (Mid := [rowW E (ad 42) (ad 43) 32 z.cs]) (Rr := []) (Mid' := [rowW E (ad 42) (ad 43) 32 z.cs]) hE M rfl (List.append_nil _) (List.append_nil _) (fun hp => va_runV (As := [.int i]) (rest := []) S (c_X2_get l E (ad 42) (ad 43) 32 z.cs i (by decide) _) (cwV 1 S.2.2.2.2 gX3_codeAt_X2_get rfl rfl rfl kd_X2_get ⟨Nat.le_of_ble_eq_true rfl, Nat.le_of_ble_eq_true rfl⟩) (hp.V hE (show vwCl[2]? = some (RX2, TX2, 1) from rfl) rfl) rfl rfl hl.1 rfl (lv_room (Nat.le_of_ble_eq_true rfl)) dX3_codeAt_5 ⟨Nat.zero_le _, Nat.zero_le _⟩) (fun H locs M => ?_)
  have M : gM E A s.heap [[(ad 41, .inr (3, [.ref (ad 42), .int (nI z.sz)]))], rowW E (ad 42) (ad 43) 32 z.cs] H locs := M
  exact giret S hr hlk M (rfl) (rfl) dX3_codeAt_8

set_option maxHeartbeats 4000000 in
set_option maxRecDepth 100000 in
theorem c_X3_clear (l : Launch) (E : xE) (ad : Nat → Nat) (z : SheS) : mV l yX3_clear wsX3_clear (xrm 0 0) E [.ref (ad 41)] (sheGs E ad z) (sheGs E ad (z.cs, 0)) := by
  intro sz
  refine Met.ofW (cc := cX3_clear) (maxL := 1) (ret := none) (by decide +kernel) rfl ?_
  intro vp ve s vm args below meth vc s₁ B hml hv
  obtain ⟨rfl, S, hr, hlk, hnm, A, hA, hE, M⟩ := genter B hml hv
  rw [hA]
  obtain ⟨ls, hfr, hl⟩ := gst (m := vm) (as := [.ref (ad 41)]) (n := 1) (Nat.le_of_ble_eq_true rfl)
  rw [hfr]
  clear hfr hA
  have hl : lv_has ls 1 [(0, .ref (ad 41))] := hl
  have M : gM E A s.heap [[(ad 41, .inr (3, [.ref (ad 42), .int (nI z.sz)]))], rowW E (ad 42) (ad 43) 32 z.cs] s.heap [] := M
  have hwi : ∀ w ∈ u_ws RX3 TX3 2, w ∈ wsX3_clear := by decide +kernel
  refine lv_aload_n S.1 S.2.1 dX3_clear_0 rfl (lv_at hl 0 rfl) ?_
  refine lv_iconst (v := 0) S.1 S.2.1 dX3_clear_1 (by decide) ?_
  refine gput S hE M (C := RX3) (T := TX3) (N := 2) (ci := 3) (index := 20) (Gs' := [[(ad 41, .inr (3, [.ref (ad 42), .int 0]))], rowW E (ad 42) (ad 43) 32 z.cs]) hwi tyX3 tyX3_ok nmX3 0 rfl rfl 1 (by decide) (by decide +kernel) rfl rfl rfl (Nat.le_of_ble_eq_true rfl) rfl dX3_clear_2 (fun H locs M => ?_)
  exact gvret S hr hlk M (rfl) dX3_clear_5

set_option maxHeartbeats 4000000 in
set_option maxRecDepth 100000 in
theorem c_X3_put (l : Launch) (E : xE) (ad : Nat → Nat) (z : SheS) (x : Int32) : mV l yX3_put wsX3_put (xrm 1 22) E [.ref (ad 41), .int x] (sheGs E ad z) (sheGs E ad (SheS.put z x)) := by
  intro sz
  refine Met.ofW (cc := cX3_put) (maxL := 2) (ret := none) (by decide +kernel) rfl ?_
  intro vp ve s vm args below meth vc s₁ B hml hv
  obtain ⟨rfl, S, hr, hlk, hnm, A, hA, hE, M⟩ := genter B hml hv
  rw [hA]
  obtain ⟨ls, hfr, hl⟩ := gst (m := vm) (as := [.ref (ad 41), .int x]) (n := 2) (Nat.le_of_ble_eq_true rfl)
  rw [hfr]
  clear hfr hA
  have hl : lv_has ls 2 [(0, .ref (ad 41)), (1, .int x)] := hl
  have M : gM E A s.heap [[(ad 41, .inr (3, [.ref (ad 42), .int (nI z.sz)]))], rowW E (ad 42) (ad 43) 32 z.cs] s.heap [] := M
  have hwi : ∀ w ∈ u_ws RX3 TX3 2, w ∈ wsX3_put := by decide +kernel
  refine lv_aload_n S.1 S.2.1 dX3_put_0 rfl (lv_at hl 0 rfl) ?_
  refine gget S hE M (C := RX3) (T := TX3) (N := 2) (ci := 3) (index := 20) hwi 0 rfl rfl 1 (by decide) (by decide +kernel) rfl dX3_put_1 ?_
  refine lv_bipush (v := 32) S.1 S.2.1 dX3_put_4 (by decide) ?_
  refine lv_icmp_ge (tgt := 31) S.1 S.2.1 dX3_put_6 (by decide) (fun c6 => ?_) (fun c6 => ?_)
  ·
    exact gvret S hr hlk M (by unfold SheS.put; rw [if_pos c6]; rfl) dX3_put_31
  ·
    refine lv_aload_n S.1 S.2.1 dX3_put_9 rfl (lv_at hl 0 rfl) ?_
    refine gget S hE M (C := RX3) (T := TX3) (N := 2) (ci := 3) (index := 14) hwi 0 rfl rfl 0 (by decide) (by decide +kernel) rfl dX3_put_10 ?_
    refine lv_aload_n S.1 S.2.1 dX3_put_13 rfl (lv_at hl 0 rfl) ?_
    refine gget S hE M (C := RX3) (T := TX3) (N := 2) (ci := 3) (index := 20) hwi 0 rfl rfl 1 (by decide) (by decide +kernel) rfl dX3_put_14 ?_
    refine lv_iload_n S.1 S.2.1 dX3_put_17 rfl (lv_at hl 1 rfl) ?_
    refine gcallv (L := [[(ad 41, .inr (3, [.ref (ad 42), .int (nI z.sz)]))]]) (Mid := [rowW E (ad 42) (ad 43) 32 z.cs]) (Rr := []) (Mid' := [rowW E (ad 42) (ad 43) 32 (rs 32 z.cs (nI z.sz) x)]) hE M rfl (List.append_nil _) (List.append_nil _) (fun hp => va_runV (As := [.int (nI z.sz), .int x]) (rest := []) S (c_X2_set l E (ad 42) (ad 43) 32 z.cs (nI z.sz) x (by decide) _) (cwV 2 S.2.2.2.2 gX3_put_X2_set rfl rfl rfl kd_X2_set ⟨Nat.le_of_ble_eq_true rfl, Nat.le_of_ble_eq_true rfl⟩) (hp.V hE (show vwCl[2]? = some (RX2, TX2, 1) from rfl) rfl) rfl rfl hl.1 rfl (lv_room (Nat.le_of_ble_eq_true rfl)) dX3_put_18 ⟨Nat.zero_le _, Nat.zero_le _⟩) (fun H locs M => ?_)
    have M : gM E A s.heap [[(ad 41, .inr (3, [.ref (ad 42), .int (nI z.sz)]))], rowW E (ad 42) (ad 43) 32 (rs 32 z.cs (nI z.sz) x)] H locs := M
    refine lv_aload_n S.1 S.2.1 dX3_put_21 rfl (lv_at hl 0 rfl) ?_
    refine lv_dup S.1 S.2.1 dX3_put_22 rfl ?_
    refine gget S hE M (C := RX3) (T := TX3) (N := 2) (ci := 3) (index := 20) hwi 0 rfl rfl 1 (by decide) (by decide +kernel) rfl dX3_put_23 ?_
    refine lv_iconst (v := 1) S.1 S.2.1 dX3_put_26 (by decide) ?_
    refine lv_iadd S.1 S.2.1 dX3_put_27 ?_
    refine gtop (x' := nI (z.sz + 1)) (nI_1 _) ?_
    refine gput S hE M (C := RX3) (T := TX3) (N := 2) (ci := 3) (index := 20) (Gs' := [[(ad 41, .inr (3, [.ref (ad 42), .int (nI (z.sz + 1))]))], rowW E (ad 42) (ad 43) 32 (rs 32 z.cs (nI z.sz) x)]) hwi tyX3 tyX3_ok nmX3 0 rfl rfl 1 (by decide) (by decide +kernel) rfl rfl rfl (Nat.le_of_ble_eq_true rfl) rfl dX3_put_28 (fun H locs M => ?_)
    exact gvret S hr hlk M (by unfold SheS.put; rw [if_neg c6]; rfl) dX3_put_31

set_option maxHeartbeats 4000000 in
set_option maxRecDepth 100000 in
theorem c_X3_putNumber (l : Launch) (E : xE) (ad : Nat → Nat) (z : SheS) (v : Int32) : mV l yX3_putNumber wsX3_putNumber (xrm 2 43) E [.ref (ad 41), .int v] (sheGs E ad z) (sheGs E ad (SheS.number z v)) := by
  intro sz
  refine Met.ofW (cc := cX3_putNumber) (maxL := 6) (ret := none) (by decide +kernel) rfl ?_
  intro vp ve s vm args below meth vc s₁ B hml hv
  obtain ⟨rfl, S, hr, hlk, hnm, A, hA, hE, M⟩ := genter B hml hv
  rw [hA]
  obtain ⟨ls, hfr, hl⟩ := gst (m := vm) (as := [.ref (ad 41), .int v]) (n := 6) (Nat.le_of_ble_eq_true rfl)
  rw [hfr]
  clear hfr hA
  have hl : lv_has ls 6 [(0, .ref (ad 41)), (1, .int v)] := hl
  have M : gM E A s.heap [[(ad 41, .inr (3, [.ref (ad 42), .int (nI z.sz)]))], rowW E (ad 42) (ad 43) 32 z.cs] s.heap [] := M
  have hwi : ∀ w ∈ u_ws RX3 TX3 2, w ∈ wsX3_putNumber := by decide +kernel
  obtain ⟨Q, hQ⟩ : ∃ Q : State → Prop, MQ below (va_Qv (fun (_ : Unit) => True) (fun _ => kQ E A (sheGs E ad (SheS.number z v))) A) ([.ref (ad 41), .int v] : List Value).toArray s 0 0 A = Q := ⟨_, rfl⟩
  rw [hQ]
  have hL : ∀ (n : Nat), ∀ (r : Int32) (b : Bool) (w : SheS), n ≤ 10 → SheS.number z v = pnl r n b w → ∀ (H : Heap) (locs : List Loc), gM E A s.heap [[(ad 41, .inr (3, [.ref (ad 42), .int (nI w.sz)]))], rowW E (ad 42) (ad 43) 32 w.cs] H locs → ∀ ls : Array Slot, lv_has ls 6 [(0, .ref (ad 41)), (1, .int v), (2, .int r), (3, .int (b2i b)), (4, .int (unt n))] → W vp l ve (headSpec wsX3_putNumber (xrm 2 43)).room s vm ([.ref (ad 41), .int v] : List Value).toArray below meth vc H locs 0 0 Q (F0 vm 27 ls []) := by
    intro n
    induction n with
    | zero =>
      intro r b w hn hI H locs M ls hl
      refine lv_iload S.1 S.2.1 dX3_putNumber_27 (lv_at hl 4 rfl) ?_
      refine lv_if_le (tgt := 78) S.1 S.2.1 dX3_putNumber_29 (by decide) (fun _ => ?_) (fun c_ => absurd (by decide) c_)
      rw [← hQ]
      exact gvret S hr hlk M (by rw [hI, pnl]; rfl) dX3_putNumber_78
    | succ n ih =>
      intro r b w hn hI H locs M ls hl
      refine lv_iload S.1 S.2.1 dX3_putNumber_27 (lv_at hl 4 rfl) ?_
      refine lv_if_le (tgt := 78) S.1 S.2.1 dX3_putNumber_29 (by decide) (fun c_ => absurd c_ (unt_pos n (by omega))) (fun _ => ?_)
      refine lv_iload_n S.1 S.2.1 dX3_putNumber_32 rfl (lv_at hl 2 rfl) ?_
      refine lv_iload S.1 S.2.1 dX3_putNumber_33 (lv_at hl 4 rfl) ?_
      refine lv_idiv S.1 S.2.1 dX3_putNumber_35 (unt_ne n (by omega)) ?_
      refine lv_bipush (v := 10) S.1 S.2.1 dX3_putNumber_36 (by decide) ?_
      refine lv_irem S.1 S.2.1 dX3_putNumber_38 (by decide) ?_
      refine lv_ineg S.1 S.2.1 dX3_putNumber_39 ?_
      refine gtop (x' := fig r (n + 1)) (rfl) ?_
      refine lv_istore (lv' := [(5, .int (fig r (n + 1))), (0, .ref (ad 41)), (1, .int v), (2, .int r), (3, .int (b2i b)), (4, .int (unt (n + 1)))]) S.1 S.2.1 dX3_putNumber_40 hl (by decide) rfl (fun ls hl => ?_)
      refine lv_iload_n S.1 S.2.1 dX3_putNumber_42 rfl (lv_at hl 4 rfl) ?_
      refine lv_if_ne (tgt := 57) S.1 S.2.1 dX3_putNumber_43 (by decide) (fun c43 => ?_) (fun c43 => ?_)
      ·
        refine lv_aload_n S.1 S.2.1 dX3_putNumber_57 rfl (lv_at hl 1 rfl) ?_
        refine lv_bipush (v := 48) S.1 S.2.1 dX3_putNumber_58 (by decide) ?_
        refine lv_iload S.1 S.2.1 dX3_putNumber_60 (lv_at hl 0 rfl) ?_
        refine lv_iadd S.1 S.2.1 dX3_putNumber_62 ?_
        refine gcallv (L := []) (Mid := sheGs E ad w) (Rr := []) (Mid' := sheGs E ad (SheS.put w (48 + (fig r (n + 1))))) hE M rfl (rfl) (rfl) (fun hp => va_runV (As := [.int (48 + (fig r (n + 1)))]) (rest := []) S (c_X3_put l E ad w (48 + (fig r (n + 1)))  _) (cwV 1 S.2.2.2.2 gX3_putNumber_X3_put rfl rfl rfl kd_X3_put ⟨Nat.le_of_ble_eq_true rfl, Nat.le_of_ble_eq_true rfl⟩) (hp.V hE (show vwCl[3]? = some (RX3, TX3, 2) from rfl) rfl) rfl rfl hl.1 rfl (lv_room (Nat.le_of_ble_eq_true rfl)) dX3_putNumber_63 ⟨Nat.zero_le _, Nat.zero_le _⟩) (fun H locs M => ?_)
        have M : gM E A s.heap [[(ad 41, .inr (3, [.ref (ad 42), .int (nI (SheS.put w (48 + (fig r (n + 1)))).sz)]))], rowW E (ad 42) (ad 43) 32 ((SheS.put w (48 + (fig r (n + 1)))).cs)] H locs := M
        refine lv_iconst (v := 1) S.1 S.2.1 dX3_putNumber_66 (by decide) ?_
        refine lv_istore_n (lv' := [(3, .int 1), (5, .int (fig r (n + 1))), (0, .ref (ad 41)), (1, .int v), (2, .int r), (4, .int (unt (n + 1)))]) S.1 S.2.1 dX3_putNumber_67 rfl hl (by decide) rfl (fun ls hl => ?_)
        refine lv_iload S.1 S.2.1 dX3_putNumber_68 (lv_at hl 5 rfl) ?_
        refine lv_bipush (v := 10) S.1 S.2.1 dX3_putNumber_70 (by decide) ?_
        refine lv_idiv S.1 S.2.1 dX3_putNumber_72 (by decide) ?_
        refine gtop (x' := unt n) (unt_div n (by omega)) ?_
        refine lv_istore (lv' := [(4, .int (unt n)), (3, .int 1), (5, .int (fig r (n + 1))), (0, .ref (ad 41)), (1, .int v), (2, .int r)]) S.1 S.2.1 dX3_putNumber_73 hl (by decide) rfl (fun ls hl => ?_)
        refine lv_goto (tgt := 27) S.1 S.2.1 dX3_putNumber_75 (by decide) ?_
        exact ih r true (SheS.put w (48 + (fig r (n + 1)))) (by omega) (by rw [hI, pnl, if_neg c43]) _ _ M ls (lv_sub hl [3, 4, 5, 1, 0] rfl)
      ·
        refine lv_iload S.1 S.2.1 dX3_putNumber_46 (lv_at hl 0 rfl) ?_
        refine lv_if_ne (tgt := 57) S.1 S.2.1 dX3_putNumber_48 (by decide) (fun c48 => ?_) (fun c48 => ?_)
        ·
          refine lv_aload_n S.1 S.2.1 dX3_putNumber_57 rfl (lv_at hl 1 rfl) ?_
          refine lv_bipush (v := 48) S.1 S.2.1 dX3_putNumber_58 (by decide) ?_
          refine lv_iload S.1 S.2.1 dX3_putNumber_60 (lv_at hl 0 rfl) ?_
          refine lv_iadd S.1 S.2.1 dX3_putNumber_62 ?_
          refine gcallv (L := []) (Mid := sheGs E ad w) (Rr := []) (Mid' := sheGs E ad (SheS.put w (48 + (fig r (n + 1))))) hE M rfl (rfl) (rfl) (fun hp => va_runV (As := [.int (48 + (fig r (n + 1)))]) (rest := []) S (c_X3_put l E ad w (48 + (fig r (n + 1)))  _) (cwV 1 S.2.2.2.2 gX3_putNumber_X3_put rfl rfl rfl kd_X3_put ⟨Nat.le_of_ble_eq_true rfl, Nat.le_of_ble_eq_true rfl⟩) (hp.V hE (show vwCl[3]? = some (RX3, TX3, 2) from rfl) rfl) rfl rfl hl.1 rfl (lv_room (Nat.le_of_ble_eq_true rfl)) dX3_putNumber_63 ⟨Nat.zero_le _, Nat.zero_le _⟩) (fun H locs M => ?_)
          have M : gM E A s.heap [[(ad 41, .inr (3, [.ref (ad 42), .int (nI (SheS.put w (48 + (fig r (n + 1)))).sz)]))], rowW E (ad 42) (ad 43) 32 ((SheS.put w (48 + (fig r (n + 1)))).cs)] H locs := M
          refine lv_iconst (v := 1) S.1 S.2.1 dX3_putNumber_66 (by decide) ?_
          refine lv_istore_n (lv' := [(3, .int 1), (5, .int (fig r (n + 1))), (0, .ref (ad 41)), (1, .int v), (2, .int r), (4, .int (unt (n + 1)))]) S.1 S.2.1 dX3_putNumber_67 rfl hl (by decide) rfl (fun ls hl => ?_)
          refine lv_iload S.1 S.2.1 dX3_putNumber_68 (lv_at hl 5 rfl) ?_
          refine lv_bipush (v := 10) S.1 S.2.1 dX3_putNumber_70 (by decide) ?_
          refine lv_idiv S.1 S.2.1 dX3_putNumber_72 (by decide) ?_
          refine gtop (x' := unt n) (unt_div n (by omega)) ?_
          refine lv_istore (lv' := [(4, .int (unt n)), (3, .int 1), (5, .int (fig r (n + 1))), (0, .ref (ad 41)), (1, .int v), (2, .int r)]) S.1 S.2.1 dX3_putNumber_73 hl (by decide) rfl (fun ls hl => ?_)
          refine lv_goto (tgt := 27) S.1 S.2.1 dX3_putNumber_75 (by decide) ?_
          exact ih r true (SheS.put w (48 + (fig r (n + 1)))) (by omega) (by rw [hI, pnl, if_pos c43, if_neg c48]) _ _ M ls (lv_sub hl [3, 4, 5, 1, 0] rfl)
        ·
          refine lv_iload S.1 S.2.1 dX3_putNumber_51 (lv_at hl 5 rfl) ?_
          refine lv_iconst (v := 1) S.1 S.2.1 dX3_putNumber_53 (by decide) ?_
          refine lv_icmp_ne (tgt := 68) S.1 S.2.1 dX3_putNumber_54 (by decide) (fun c54 => ?_) (fun c54 => ?_)
          ·
            refine lv_iload S.1 S.2.1 dX3_putNumber_68 (lv_at hl 5 rfl) ?_
            refine lv_bipush (v := 10) S.1 S.2.1 dX3_putNumber_70 (by decide) ?_
            refine lv_idiv S.1 S.2.1 dX3_putNumber_72 (by decide) ?_
            refine gtop (x' := unt n) (unt_div n (by omega)) ?_
            refine lv_istore (lv' := [(4, .int (unt n)), (5, .int (fig r (n + 1))), (0, .ref (ad 41)), (1, .int v), (2, .int r), (3, .int (b2i b))]) S.1 S.2.1 dX3_putNumber_73 hl (by decide) rfl (fun ls hl => ?_)
            refine lv_goto (tgt := 27) S.1 S.2.1 dX3_putNumber_75 (by decide) ?_
            exact ih r b w (by omega) (by rw [hI, pnl, if_pos c43, if_pos c48, if_neg c54]) _ _ M ls (lv_sub hl [2, 3, 4, 5, 0] rfl)
          ·
            refine lv_aload_n S.1 S.2.1 dX3_putNumber_57 rfl (lv_at hl 1 rfl) ?_
            refine lv_bipush (v := 48) S.1 S.2.1 dX3_putNumber_58 (by decide) ?_
            refine lv_iload S.1 S.2.1 dX3_putNumber_60 (lv_at hl 0 rfl) ?_
            refine lv_iadd S.1 S.2.1 dX3_putNumber_62 ?_
            refine gcallv (L := []) (Mid := sheGs E ad w) (Rr := []) (Mid' := sheGs E ad (SheS.put w (48 + (fig r (n + 1))))) hE M rfl (rfl) (rfl) (fun hp => va_runV (As := [.int (48 + (fig r (n + 1)))]) (rest := []) S (c_X3_put l E ad w (48 + (fig r (n + 1)))  _) (cwV 1 S.2.2.2.2 gX3_putNumber_X3_put rfl rfl rfl kd_X3_put ⟨Nat.le_of_ble_eq_true rfl, Nat.le_of_ble_eq_true rfl⟩) (hp.V hE (show vwCl[3]? = some (RX3, TX3, 2) from rfl) rfl) rfl rfl hl.1 rfl (lv_room (Nat.le_of_ble_eq_true rfl)) dX3_putNumber_63 ⟨Nat.zero_le _, Nat.zero_le _⟩) (fun H locs M => ?_)
            have M : gM E A s.heap [[(ad 41, .inr (3, [.ref (ad 42), .int (nI (SheS.put w (48 + (fig r (n + 1)))).sz)]))], rowW E (ad 42) (ad 43) 32 ((SheS.put w (48 + (fig r (n + 1)))).cs)] H locs := M
            refine lv_iconst (v := 1) S.1 S.2.1 dX3_putNumber_66 (by decide) ?_
            refine lv_istore_n (lv' := [(3, .int 1), (5, .int (fig r (n + 1))), (0, .ref (ad 41)), (1, .int v), (2, .int r), (4, .int (unt (n + 1)))]) S.1 S.2.1 dX3_putNumber_67 rfl hl (by decide) rfl (fun ls hl => ?_)
            refine lv_iload S.1 S.2.1 dX3_putNumber_68 (lv_at hl 5 rfl) ?_
            refine lv_bipush (v := 10) S.1 S.2.1 dX3_putNumber_70 (by decide) ?_
            refine lv_idiv S.1 S.2.1 dX3_putNumber_72 (by decide) ?_
            refine gtop (x' := unt n) (unt_div n (by omega)) ?_
            refine lv_istore (lv' := [(4, .int (unt n)), (3, .int 1), (5, .int (fig r (n + 1))), (0, .ref (ad 41)), (1, .int v), (2, .int r)]) S.1 S.2.1 dX3_putNumber_73 hl (by decide) rfl (fun ls hl => ?_)
            refine lv_goto (tgt := 27) S.1 S.2.1 dX3_putNumber_75 (by decide) ?_
            exact ih r true (SheS.put w (48 + (fig r (n + 1)))) (by omega) (by rw [hI, pnl, if_pos c43, if_pos c48, if_pos c54]) _ _ M ls (lv_sub hl [3, 4, 5, 1, 0] rfl)
  refine lv_iload_n S.1 S.2.1 dX3_putNumber_0 rfl (lv_at hl 1 rfl) ?_
  refine lv_if_ge (tgt := 10) S.1 S.2.1 dX3_putNumber_1 (by decide) (fun c1 => ?_) (fun c1 => ?_)
  ·
    refine lv_iload_n S.1 S.2.1 dX3_putNumber_10 rfl (lv_at hl 1 rfl) ?_
    refine lv_if_ge (tgt := 18) S.1 S.2.1 dX3_putNumber_11 (by decide) (fun _ => ?_) (fun c_ => absurd (c1) c_)
    refine lv_iload_n S.1 S.2.1 dX3_putNumber_18 rfl (lv_at hl 1 rfl) ?_
    refine lv_ineg S.1 S.2.1 dX3_putNumber_19 ?_
    refine lv_istore_n (lv' := [(2, .int (-v)), (0, .ref (ad 41)), (1, .int v)]) S.1 S.2.1 dX3_putNumber_20 rfl hl (by decide) rfl (fun ls hl => ?_)
    refine lv_iconst (v := 0) S.1 S.2.1 dX3_putNumber_21 (by decide) ?_
    refine lv_istore_n (lv' := [(3, .int 0), (2, .int (-v)), (0, .ref (ad 41)), (1, .int v)]) S.1 S.2.1 dX3_putNumber_22 rfl hl (by decide) rfl (fun ls hl => ?_)
    refine lv_ldc (v := 1000000000) S.1 S.2.1 S.2.2.2.1 (S.2.2.2.2 (.constant RX3 45 1000000000) (by decide +kernel)) dX3_putNumber_23 ?_
    refine lv_istore (lv' := [(4, .int 1000000000), (3, .int 0), (2, .int (-v)), (0, .ref (ad 41)), (1, .int v)]) S.1 S.2.1 dX3_putNumber_25 hl (by decide) rfl (fun ls hl => ?_)
    exact hL 10 _ false z (by omega) (by unfold SheS.number; rw [if_pos c1]) _ _ M ls (lv_sub hl [3, 4, 2, 1, 0] rfl)
  ·
    refine lv_aload_n S.1 S.2.1 dX3_putNumber_4 rfl (lv_at hl 0 rfl) ?_
    refine lv_bipush (v := 45) S.1 S.2.1 dX3_putNumber_5 (by decide) ?_
    refine gcallv (L := []) (Mid := sheGs E ad z) (Rr := []) (Mid' := sheGs E ad (SheS.put z 45)) hE M rfl (rfl) (rfl) (fun hp => va_runV (As := [.int 45]) (rest := []) S (c_X3_put l E ad z 45  _) (cwV 1 S.2.2.2.2 gX3_putNumber_X3_put rfl rfl rfl kd_X3_put ⟨Nat.le_of_ble_eq_true rfl, Nat.le_of_ble_eq_true rfl⟩) (hp.V hE (show vwCl[3]? = some (RX3, TX3, 2) from rfl) rfl) rfl rfl hl.1 rfl (lv_room (Nat.le_of_ble_eq_true rfl)) dX3_putNumber_7 ⟨Nat.zero_le _, Nat.zero_le _⟩) (fun H locs M => ?_)
    have M : gM E A s.heap [[(ad 41, .inr (3, [.ref (ad 42), .int (nI (SheS.put z 45).sz)]))], rowW E (ad 42) (ad 43) 32 ((SheS.put z 45).cs)] H locs := M
    refine lv_iload_n S.1 S.2.1 dX3_putNumber_10 rfl (lv_at hl 1 rfl) ?_
    refine lv_if_ge (tgt := 18) S.1 S.2.1 dX3_putNumber_11 (by decide) (fun c_ => absurd c_ (c1)) (fun _ => ?_)
    refine lv_iload_n S.1 S.2.1 dX3_putNumber_14 rfl (lv_at hl 1 rfl) ?_
    refine lv_goto (tgt := 20) S.1 S.2.1 dX3_putNumber_15 (by decide) ?_
    refine lv_istore_n (lv' := [(2, .int v), (0, .ref (ad 41)), (1, .int v)]) S.1 S.2.1 dX3_putNumber_20 rfl hl (by decide) rfl (fun ls hl => ?_)
    refine lv_iconst (v := 0) S.1 S.2.1 dX3_putNumber_21 (by decide) ?_
    refine lv_istore_n (lv' := [(3, .int 0), (2, .int v), (0, .ref (ad 41)), (1, .int v)]) S.1 S.2.1 dX3_putNumber_22 rfl hl (by decide) rfl (fun ls hl => ?_)
    refine lv_ldc (v := 1000000000) S.1 S.2.1 S.2.2.2.1 (S.2.2.2.2 (.constant RX3 45 1000000000) (by decide +kernel)) dX3_putNumber_23 ?_
    refine lv_istore (lv' := [(4, .int 1000000000), (3, .int 0), (2, .int v), (0, .ref (ad 41)), (1, .int v)]) S.1 S.2.1 dX3_putNumber_25 hl (by decide) rfl (fun ls hl => ?_)
    exact hL 10 _ false (SheS.put z 45) (by omega) (by unfold SheS.number; rw [if_neg c1]) _ _ M ls (lv_sub hl [3, 4, 2, 1, 0] rfl)
