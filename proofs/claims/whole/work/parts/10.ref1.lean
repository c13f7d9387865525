theorem kd_X9_delay : yX9_delay.cls = RX9 ∧ yX9_delay.cls ≠ "java/lang/invoke/MethodHandle" ∧ yX9_delay.cls ≠ "java/lang/invoke/VarHandle" ∧ (parseMethodDescriptor yX9_delay.desc).map (fun d => d.parameters.length) = some 1 := by decide +kernel
theorem kd_X9_isInTheWay : yX9_isInTheWay.cls = RX9 ∧ yX9_isInTheWay.cls ≠ "java/lang/invoke/MethodHandle" ∧ yX9_isInTheWay.cls ≠ "java/lang/invoke/VarHandle" ∧ (parseMethodDescriptor yX9_isInTheWay.desc).map (fun d => d.parameters.length) = some 4 := by decide +kernel
theorem kd_X9_spurtBy : yX9_spurtBy.cls = RX9 ∧ yX9_spurtBy.cls ≠ "java/lang/invoke/MethodHandle" ∧ yX9_spurtBy.cls ≠ "java/lang/invoke/VarHandle" ∧ (parseMethodDescriptor yX9_spurtBy.desc).map (fun d => d.parameters.length) = some 1 := by decide +kernel
theorem kd_X9_told : yX9_told.cls = RX9 ∧ yX9_told.cls ≠ "java/lang/invoke/MethodHandle" ∧ yX9_told.cls ≠ "java/lang/invoke/VarHandle" ∧ (parseMethodDescriptor yX9_told.desc).map (fun d => d.parameters.length) = some 0 := by decide +kernel
theorem kd_X9_within : yX9_within.cls = RX9 ∧ yX9_within.cls ≠ "java/lang/invoke/MethodHandle" ∧ yX9_within.cls ≠ "java/lang/invoke/VarHandle" ∧ (parseMethodDescriptor yX9_within.desc).map (fun d => d.parameters.length) = some 3 := by decide +kernel
theorem kd_X9_wordLong : yX9_wordLong.cls = RX9 ∧ yX9_wordLong.cls ≠ "java/lang/invoke/MethodHandle" ∧ yX9_wordLong.cls ≠ "java/lang/invoke/VarHandle" ∧ (parseMethodDescriptor yX9_wordLong.desc).map (fun d => d.parameters.length) = some 1 := by decide +kernel
set_option maxHeartbeats 4000000 in
set_option maxRecDepth 100000 in
theorem c_X9_within (l : Launch) (E : xE) (v : Int32) (a : Int32) (b : Int32) : mI l yX9_within wsX9_within (xrm 0 0) E [.int v, .int a, .int b] (([] : List va_W)) (win v a b) (([] : List va_W)) := by
  intro sz
  refine Met.ofW (cc := cX9_within) (maxL := 3) (ret := (some .boolean)) (by decide +kernel) rfl ?_
  intro vp ve s vm args below meth vc s₁ B hml hv
  obtain ⟨rfl, S, hr, hlk, hnm, A, hA, hE, M⟩ := genter B hml hv
  rw [hA]
  obtain ⟨ls, hfr, hl⟩ := gst (m := vm) (as := [.int v, .int a, .int b]) (n := 3) (Nat.le_of_ble_eq_true rfl)
  rw [hfr]
  clear hfr hA
  have hl : lv_has ls 3 [(0, .int v), (1, .int a), (2, .int b)] := hl
  have M : gM E A s.heap [] s.heap [] := M
  refine lv_iload_n S.1 S.2.1 dX9_within_0 rfl (lv_at hl 0 rfl) ?_
  refine lv_iload_n S.1 S.2.1 dX9_within_1 rfl (lv_at hl 1 rfl) ?_
  refine lv_icmp_lt (tgt := 14) S.1 S.2.1 dX9_within_2 (by decide) (fun c2 => ?_) (fun c2 => ?_)
  ·
    refine lv_iconst (v := 0) S.1 S.2.1 dX9_within_14 (by decide) ?_
    exact gzret S hr hlk M (rfl) (by unfold win; rw [if_pos c2]) (rfl) dX9_within_15
  ·
    refine lv_iload_n S.1 S.2.1 dX9_within_5 rfl (lv_at hl 0 rfl) ?_
    refine lv_iload_n S.1 S.2.1 dX9_within_6 rfl (lv_at hl 2 rfl) ?_
    refine lv_icmp_gt (tgt := 14) S.1 S.2.1 dX9_within_7 (by decide) (fun c7 => ?_) (fun c7 => ?_)
    ·
      refine lv_iconst (v := 0) S.1 S.2.1 dX9_within_14 (by decide) ?_
      exact gzret S hr hlk M (rfl) (by unfold win; rw [if_neg c2, if_pos c7]) (rfl) dX9_within_15
    ·
      refine lv_iconst (v := 1) S.1 S.2.1 dX9_within_10 (by decide) ?_
      refine lv_goto (tgt := 15) S.1 S.2.1 dX9_within_11 (by decide) ?_
      exact gzret S hr hlk M (rfl) (by unfold win; rw [if_neg c2, if_neg c7]) (rfl) dX9_within_15

set_option maxHeartbeats 4000000 in
set_option maxRecDepth 100000 in
theorem c_X9_down (l : Launch) (E : xE) (u : Int64) (d : Int64) (hd : ¬ d = 0) : mL l yX9_down wsX9_down (xrm 0 0) E [.long u, .long d] (([] : List va_W)) (dwn u d) (([] : List va_W)) := by
  intro sz
  refine Met.ofW (cc := cX9_down) (maxL := 4) (ret := (some .long)) (by decide +kernel) rfl ?_
  intro vp ve s vm args below meth vc s₁ B hml hv
  obtain ⟨rfl, S, hr, hlk, hnm, A, hA, hE, M⟩ := genter B hml hv
  rw [hA]
  obtain ⟨ls, hfr, hl⟩ := gst (m := vm) (as := [.long u, .long d]) (n := 4) (Nat.le_of_ble_eq_true rfl)
  rw [hfr]
  clear hfr hA
  have hl : lv_has ls 4 [(0, .long u), (2, .long d)] := hl
  have M : gM E A s.heap [] s.heap [] := M
  refine lv_lload_n S.1 S.2.1 dX9_down_0 rfl (lv_at hl 0 rfl) ?_
  refine lv_lconst (v := 0) S.1 S.2.1 dX9_down_1 (by decide) ?_
  refine W.lcmp S.1 S.2.1 dX9_down_2 ?_
  refine lv_if_lt (tgt := 12) S.1 S.2.1 dX9_down_3 (by decide) (fun c3 => ?_) (fun c3 => ?_)
  ·
    have c3 : u < 0 := (lg_cmp_lt _ _).mp c3
    refine lv_lload_n S.1 S.2.1 dX9_down_12 rfl (lv_at hl 1 rfl) ?_
    refine lv_lconst (v := 1) S.1 S.2.1 dX9_down_13 (by decide) ?_
    refine lv_lsub S.1 S.2.1 dX9_down_14 ?_
    refine lv_lload_n S.1 S.2.1 dX9_down_15 rfl (lv_at hl 0 rfl) ?_
    refine lv_lsub S.1 S.2.1 dX9_down_16 ?_
    refine lv_lload_n S.1 S.2.1 dX9_down_17 rfl (lv_at hl 1 rfl) ?_
    refine lv_ldiv S.1 S.2.1 dX9_down_18 (hd) ?_
    refine lv_lneg S.1 S.2.1 dX9_down_19 ?_
    exact glret S hr hlk M (by unfold dwn; rw [if_pos c3]) (rfl) dX9_down_20
  ·
    have c3 : ¬ u < 0 := fun q => c3 ((lg_cmp_lt _ _).mpr q)
    refine lv_lload_n S.1 S.2.1 dX9_down_6 rfl (lv_at hl 0 rfl) ?_
    refine lv_lload_n S.1 S.2.1 dX9_down_7 rfl (lv_at hl 1 rfl) ?_
    refine lv_ldiv S.1 S.2.1 dX9_down_8 (hd) ?_
    refine lv_goto (tgt := 20) S.1 S.2.1 dX9_down_9 (by decide) ?_
    exact glret S hr hlk M (by unfold dwn; rw [if_neg c3]) (rfl) dX9_down_20

set_option maxHeartbeats 4000000 in
set_option maxRecDepth 100000 in
theorem c_X9_key (l : Launch) (E : xE) (am : Nat → Nat) (z : MdS) (x : Int32) (ht : z.tn ≤ 8) : mI l yX9_key wsX9_key (xrm 1 22) E [.ref (am 0), .int x] (modGs E am z) ((MdS.key z x).1) (modGs E am ((MdS.key z x).2)) := by
  intro sz
  refine Met.ofW (cc := cX9_key) (maxL := 2) (ret := (some .int)) (by decide +kernel) rfl ?_
  intro vp ve s vm args below meth vc s₁ B hml hv
  obtain ⟨rfl, S, hr, hlk, hnm, A, hA, hE, M⟩ := genter B hml hv
  rw [hA]
  obtain ⟨ls, hfr, hl⟩ := gst (m := vm) (as := [.ref (am 0), .int x]) (n := 2) (Nat.le_of_ble_eq_true rfl)
  rw [hfr]
  clear hfr hA
  have hl : lv_has ls 2 [(0, .ref (am 0)), (1, .int x)] := hl
  have M : gM E A s.heap [[(am 0, .inr (9, [.ref (am 1), .ref (am 2), .int (nI z.tn), .int z.mn, .int z.mk, .int z.mg, .int z.jp, .int (nI z.ct), .ref (am 3), .ref (am 4), .ref (am 5), .ref (am 6), .int (nI z.sp), .ref (am 7), .ref (am 8), .ref (am 9), .ref (am 10), .int (b2i z.on), .int z.ba, .int z.bg, .ref (am 11), .long z.up, .long z.by_, .int z.co, .int z.po, .int z.gr, .ref (am 12), .int (nI z.wr)]))], [((am 1), .inl (xI E, 25, .inl z.sg))], [((am 2), .inl (xI E, 8, .inl z.tp))], [((am 3), .inl (xI E, 120, .inl z.fr))], [((am 4), .inl (xI E, 120, .inl z.wh))], [((am 5), .inl (xI E, 120, .inl z.sn))], [((am 6), .inl (xI E, 300, .inl z.ca))], [((am 7), .inl (xI E, 120, .inl z.hd))], [((am 8), .inl (xI E, 120, .inl z.ps))], [((am 9), .inl (xI E, 120, .inl z.tm))], [((am 10), .inl (xI E, 120, .inl z.mm))], [((am 11), .inl (xJ E, 120, .inr (.inl z.se)))], [((am 12), .inl (xI E, 400, .inl z.tx))]] s.heap [] := M
  have hwi : ∀ w ∈ u_ws RX9 TX9 28, w ∈ wsX9_key := by decide +kernel
  refine lv_iload_n S.1 S.2.1 dX9_key_0 rfl (lv_at hl 1 rfl) ?_
  refine lv_iconst (v := 0) S.1 S.2.1 dX9_key_1 (by decide) ?_
  refine lv_bipush (v := 127) S.1 S.2.1 dX9_key_2 (by decide) ?_
  refine gcalli (L := []) (Mid := []) (Rr := [[(am 0, .inr (9, [.ref (am 1), .ref (am 2), .int (nI z.tn), .int z.mn, .int z.mk, .int z.mg, .int z.jp, .int (nI z.ct), .ref (am 3), .ref (am 4), .ref (am 5), .ref (am 6), .int (nI z.sp), .ref (am 7), .ref (am 8), .ref (am 9), .ref (am 10), .int (b2i z.on), .int z.ba, .int z.bg, .ref (am 11), .long z.up, .long z.by_, .int z.co, .int z.po, .int z.gr, .ref (am 12), .int (nI z.wr)]))], [((am 1), .inl (xI E, 25, .inl z.sg))], [((am 2), .inl (xI E, 8, .inl z.tp))], [((am 3), .inl (xI E, 120, .inl z.fr))], [((am 4), .inl (xI E, 120, .inl z.wh))], [((am 5), .inl (xI E, 120, .inl z.sn))], [((am 6), .inl (xI E, 300, .inl z.ca))], [((am 7), .inl (xI E, 120, .inl z.hd))], [((am 8), .inl (xI E, 120, .inl z.ps))], [((am 9), .inl (xI E, 120, .inl z.tm))], [((am 10), .inl (xI E, 120, .inl z.mm))], [((am 11), .inl (xJ E, 120, .inr (.inl z.se)))], [((am 12), .inl (xI E, 400, .inl z.tx))]]) (Mid' := []) hE M rfl (rfl) (rfl) (fun hp => va_runS (As := [.int x, .int 0, .int 127]) (rest := []) S (c_X9_within l E x 0 127 _) (va_cwS 3 S.2.2.2.2 gX9_key_X9_within rfl rfl rfl kd_X9_within.2 ⟨Nat.le_of_ble_eq_true rfl, Nat.le_of_ble_eq_true rfl⟩) hp.S rfl rfl hl.1 rfl (lv_room (Nat.le_of_ble_eq_true rfl)) dX9_key_4 ⟨Nat.zero_le _, Nat.zero_le _⟩) (fun H locs M => ?_)
  have M : gM E A s.heap [[(am 0, .inr (9, [.ref (am 1), .ref (am 2), .int (nI z.tn), .int z.mn, .int z.mk, .int z.mg, .int z.jp, .int (nI z.ct), .ref (am 3), .ref (am 4), .ref (am 5), .ref (am 6), .int (nI z.sp), .ref (am 7), .ref (am 8), .ref (am 9), .ref (am 10), .int (b2i z.on), .int z.ba, .int z.bg, .ref (am 11), .long z.up, .long z.by_, .int z.co, .int z.po, .int z.gr, .ref (am 12), .int (nI z.wr)]))], [((am 1), .inl (xI E, 25, .inl z.sg))], [((am 2), .inl (xI E, 8, .inl z.tp))], [((am 3), .inl (xI E, 120, .inl z.fr))], [((am 4), .inl (xI E, 120, .inl z.wh))], [((am 5), .inl (xI E, 120, .inl z.sn))], [((am 6), .inl (xI E, 300, .inl z.ca))], [((am 7), .inl (xI E, 120, .inl z.hd))], [((am 8), .inl (xI E, 120, .inl z.ps))], [((am 9), .inl (xI E, 120, .inl z.tm))], [((am 10), .inl (xI E, 120, .inl z.mm))], [((am 11), .inl (xJ E, 120, .inr (.inl z.se)))], [((am 12), .inl (xI E, 400, .inl z.tx))]] H locs := M
  refine lv_if_ne (tgt := 13) S.1 S.2.1 dX9_key_7 (by decide) (fun c7 => ?_) (fun c7 => ?_)
  ·
    refine lv_aload_n S.1 S.2.1 dX9_key_13 rfl (lv_at hl 0 rfl) ?_
    refine gget S hE M (C := RX9) (T := TX9) (N := 28) (ci := 9) (index := 58) hwi 0 rfl rfl 2 (by decide) (by decide +kernel) rfl dX9_key_14 ?_
    refine lv_bipush (v := 8) S.1 S.2.1 dX9_key_17 (by decide) ?_
    refine lv_icmp_ne (tgt := 25) S.1 S.2.1 dX9_key_19 (by decide) (fun c19 => ?_) (fun c19 => ?_)
    ·
      have ht8 : z.tn < 8 := Nat.lt_of_le_of_ne ht fun q => c19 (by rw [q]; decide)
      refine lv_aload_n S.1 S.2.1 dX9_key_25 rfl (lv_at hl 0 rfl) ?_
      refine gget S hE M (C := RX9) (T := TX9) (N := 28) (ci := 9) (index := 13) hwi 0 rfl rfl 1 (by decide) (by decide +kernel) rfl dX9_key_26 ?_
      refine lv_aload_n S.1 S.2.1 dX9_key_29 rfl (lv_at hl 0 rfl) ?_
      refine gget S hE M (C := RX9) (T := TX9) (N := 28) (ci := 9) (index := 58) hwi 0 rfl rfl 2 (by decide) (by decide +kernel) rfl dX9_key_30 ?_
      refine lv_iload_n S.1 S.2.1 dX9_key_33 rfl (lv_at hl 1 rfl) ?_
      refine giast S hE M (Gs' := [[(am 0, .inr (9, [.ref (am 1), .ref (am 2), .int (nI z.tn), .int z.mn, .int z.mk, .int z.mg, .int z.jp, .int (nI z.ct), .ref (am 3), .ref (am 4), .ref (am 5), .ref (am 6), .int (nI z.sp), .ref (am 7), .ref (am 8), .ref (am 9), .ref (am 10), .int (b2i z.on), .int z.ba, .int z.bg, .ref (am 11), .long z.up, .long z.by_, .int z.co, .int z.po, .int z.gr, .ref (am 12), .int (nI z.wr)]))], [((am 1), .inl (xI E, 25, .inl z.sg))], [((am 2), .inl (xI E, 8, .inl (upd z.tp z.tn x)))], [((am 3), .inl (xI E, 120, .inl z.fr))], [((am 4), .inl (xI E, 120, .inl z.wh))], [((am 5), .inl (xI E, 120, .inl z.sn))], [((am 6), .inl (xI E, 300, .inl z.ca))], [((am 7), .inl (xI E, 120, .inl z.hd))], [((am 8), .inl (xI E, 120, .inl z.ps))], [((am 9), .inl (xI E, 120, .inl z.tm))], [((am 10), .inl (xI E, 120, .inl z.mm))], [((am 11), .inl (xJ E, 120, .inr (.inl z.se)))], [((am 12), .inl (xI E, 400, .inl z.tx))]]) 2 rfl (vp_in_nI (by omega) (by omega)) (by rw [nI_clamp (by omega)]; rfl) dX9_key_34 (fun H locs M => ?_)
      refine lv_aload_n S.1 S.2.1 dX9_key_35 rfl (lv_at hl 0 rfl) ?_
      refine lv_dup S.1 S.2.1 dX9_key_36 rfl ?_
      refine gget S hE M (C := RX9) (T := TX9) (N := 28) (ci := 9) (index := 58) hwi 0 rfl rfl 2 (by decide) (by decide +kernel) rfl dX9_key_37 ?_
      refine lv_iconst (v := 1) S.1 S.2.1 dX9_key_40 (by decide) ?_
      refine lv_iadd S.1 S.2.1 dX9_key_41 ?_
      refine gtop (x' := nI (z.tn + 1)) (nI_1 _) ?_
      refine gput S hE M (C := RX9) (T := TX9) (N := 28) (ci := 9) (index := 58) (Gs' := [[(am 0, .inr (9, [.ref (am 1), .ref (am 2), .int (nI (z.tn + 1)), .int z.mn, .int z.mk, .int z.mg, .int z.jp, .int (nI z.ct), .ref (am 3), .ref (am 4), .ref (am 5), .ref (am 6), .int (nI z.sp), .ref (am 7), .ref (am 8), .ref (am 9), .ref (am 10), .int (b2i z.on), .int z.ba, .int z.bg, .ref (am 11), .long z.up, .long z.by_, .int z.co, .int z.po, .int z.gr, .ref (am 12), .int (nI z.wr)]))], [((am 1), .inl (xI E, 25, .inl z.sg))], [((am 2), .inl (xI E, 8, .inl (upd z.tp z.tn x)))], [((am 3), .inl (xI E, 120, .inl z.fr))], [((am 4), .inl (xI E, 120, .inl z.wh))], [((am 5), .inl (xI E, 120, .inl z.sn))], [((am 6), .inl (xI E, 300, .inl z.ca))], [((am 7), .inl (xI E, 120, .inl z.hd))], [((am 8), .inl (xI E, 120, .inl z.ps))], [((am 9), .inl (xI E, 120, .inl z.tm))], [((am 10), .inl (xI E, 120, .inl z.mm))], [((am 11), .inl (xJ E, 120, .inr (.inl z.se)))], [((am 12), .inl (xI E, 400, .inl z.tx))]]) hwi tyX9 tyX9_ok nmX9 0 rfl rfl 2 (by decide) (by decide +kernel) rfl rfl rfl (Nat.le_of_ble_eq_true rfl) rfl dX9_key_42 (fun H locs M => ?_)
      refine lv_aload_n S.1 S.2.1 dX9_key_45 rfl (lv_at hl 0 rfl) ?_
      refine gget S hE M (C := RX9) (T := TX9) (N := 28) (ci := 9) (index := 58) hwi 0 rfl rfl 2 (by decide) (by decide +kernel) rfl dX9_key_46 ?_
      have he : MdS.key z x = (nI (z.tn + 1), ((z.sg, upd z.tp z.tn x, (z.tn + 1), z.mn, z.mk, z.mg, z.jp, z.ct, z.fr, z.wh, z.sn, z.ca, z.sp, z.hd, z.ps, z.tm, z.mm, z.on, z.ba, z.bg, z.se, z.up, z.by_, z.co, z.po, z.gr, z.tx, z.wr) : MdS)) := by unfold MdS.key; rw [if_neg c7, if_neg c19] <;> rfl
      exact giret S hr hlk M (by rw [he]) (by rw [he]; rfl) dX9_key_49
    ·
      refine lv_bipush (v := (-4)) S.1 S.2.1 dX9_key_22 (by decide) ?_
      have he : MdS.key z x = ((-4), z) := by unfold MdS.key; rw [if_neg c7, if_pos c19] <;> rfl
      exact giret S hr hlk M (by rw [he]) (by rw [he]; rfl) dX9_key_24
  ·
    refine lv_bipush (v := (-2)) S.1 S.2.1 dX9_key_10 (by decide) ?_
    have he : MdS.key z x = ((-2), z) := by unfold MdS.key; rw [if_pos c7] <;> rfl
    exact giret S hr hlk M (by rw [he]) (by rw [he]; rfl) dX9_key_12

set_option maxHeartbeats 4000000 in
set_option maxRecDepth 100000 in
theorem c_X9_wipe (l : Launch) (E : xE) (am : Nat → Nat) (z : MdS) : mI l yX9_wipe wsX9_wipe (xrm 0 0) E [.ref (am 0)] (modGs E am z) ((MdS.wipe z).1) (modGs E am ((MdS.wipe z).2)) := by
  intro sz
  refine Met.ofW (cc := cX9_wipe) (maxL := 2) (ret := (some .int)) (by decide +kernel) rfl ?_
  intro vp ve s vm args below meth vc s₁ B hml hv
  obtain ⟨rfl, S, hr, hlk, hnm, A, hA, hE, M⟩ := genter B hml hv
  rw [hA]
  obtain ⟨ls, hfr, hl⟩ := gst (m := vm) (as := [.ref (am 0)]) (n := 2) (Nat.le_of_ble_eq_true rfl)
  rw [hfr]
  clear hfr hA
  have hl : lv_has ls 2 [(0, .ref (am 0))] := hl
  have M : gM E A s.heap [[(am 0, .inr (9, [.ref (am 1), .ref (am 2), .int (nI z.tn), .int z.mn, .int z.mk, .int z.mg, .int z.jp, .int (nI z.ct), .ref (am 3), .ref (am 4), .ref (am 5), .ref (am 6), .int (nI z.sp), .ref (am 7), .ref (am 8), .ref (am 9), .ref (am 10), .int (b2i z.on), .int z.ba, .int z.bg, .ref (am 11), .long z.up, .long z.by_, .int z.co, .int z.po, .int z.gr, .ref (am 12), .int (nI z.wr)]))], [((am 1), .inl (xI E, 25, .inl z.sg))], [((am 2), .inl (xI E, 8, .inl z.tp))], [((am 3), .inl (xI E, 120, .inl z.fr))], [((am 4), .inl (xI E, 120, .inl z.wh))], [((am 5), .inl (xI E, 120, .inl z.sn))], [((am 6), .inl (xI E, 300, .inl z.ca))], [((am 7), .inl (xI E, 120, .inl z.hd))], [((am 8), .inl (xI E, 120, .inl z.ps))], [((am 9), .inl (xI E, 120, .inl z.tm))], [((am 10), .inl (xI E, 120, .inl z.mm))], [((am 11), .inl (xJ E, 120, .inr (.inl z.se)))], [((am 12), .inl (xI E, 400, .inl z.tx))]] s.heap [] := M
  have hwi : ∀ w ∈ u_ws RX9 TX9 28, w ∈ wsX9_wipe := by decide +kernel
  refine lv_aload_n S.1 S.2.1 dX9_wipe_0 rfl (lv_at hl 0 rfl) ?_
  refine gget S hE M (C := RX9) (T := TX9) (N := 28) (ci := 9) (index := 58) hwi 0 rfl rfl 2 (by decide) (by decide +kernel) rfl dX9_wipe_1 ?_
  refine lv_istore_n (lv' := [(1, .int (nI z.tn)), (0, .ref (am 0))]) S.1 S.2.1 dX9_wipe_4 rfl hl (by decide) rfl (fun ls hl => ?_)
  refine lv_aload_n S.1 S.2.1 dX9_wipe_5 rfl (lv_at hl 1 rfl) ?_
  refine lv_iconst (v := 0) S.1 S.2.1 dX9_wipe_6 (by decide) ?_
  refine gput S hE M (C := RX9) (T := TX9) (N := 28) (ci := 9) (index := 58) (Gs' := [[(am 0, .inr (9, [.ref (am 1), .ref (am 2), .int 0, .int z.mn, .int z.mk, .int z.mg, .int z.jp, .int (nI z.ct), .ref (am 3), .ref (am 4), .ref (am 5), .ref (am 6), .int (nI z.sp), .ref (am 7), .ref (am 8), .ref (am 9), .ref (am 10), .int (b2i z.on), .int z.ba, .int z.bg, .ref (am 11), .long z.up, .long z.by_, .int z.co, .int z.po, .int z.gr, .ref (am 12), .int (nI z.wr)]))], [((am 1), .inl (xI E, 25, .inl z.sg))], [((am 2), .inl (xI E, 8, .inl z.tp))], [((am 3), .inl (xI E, 120, .inl z.fr))], [((am 4), .inl (xI E, 120, .inl z.wh))], [((am 5), .inl (xI E, 120, .inl z.sn))], [((am 6), .inl (xI E, 300, .inl z.ca))], [((am 7), .inl (xI E, 120, .inl z.hd))], [((am 8), .inl (xI E, 120, .inl z.ps))], [((am 9), .inl (xI E, 120, .inl z.tm))], [((am 10), .inl (xI E, 120, .inl z.mm))], [((am 11), .inl (xJ E, 120, .inr (.inl z.se)))], [((am 12), .inl (xI E, 400, .inl z.tx))]]) hwi tyX9 tyX9_ok nmX9 0 rfl rfl 2 (by decide) (by decide +kernel) rfl rfl rfl (Nat.le_of_ble_eq_true rfl) rfl dX9_wipe_7 (fun H locs M => ?_)
  refine lv_iload_n S.1 S.2.1 dX9_wipe_10 rfl (lv_at hl 0 rfl) ?_
  have he : MdS.wipe z = (nI z.tn, ((z.sg, z.tp, 0, z.mn, z.mk, z.mg, z.jp, z.ct, z.fr, z.wh, z.sn, z.ca, z.sp, z.hd, z.ps, z.tm, z.mm, z.on, z.ba, z.bg, z.se, z.up, z.by_, z.co, z.po, z.gr, z.tx, z.wr) : MdS)) := by rfl
  exact giret S hr hlk M (by rw [he]) (by rw [he]; rfl) dX9_wipe_11

set_option maxHeartbeats 4000000 in
set_option maxRecDepth 100000 in
theorem c_X9_wordLong (l : Launch) (E : xE) (am : Nat → Nat) (z : MdS) (m : Int32) : mI l yX9_wordLong wsX9_wordLong (xrm 0 0) E [.ref (am 0), .int m] (modGs E am z) (wlg m) (modGs E am z) := by
  intro sz
  refine Met.ofW (cc := cX9_wordLong) (maxL := 2) (ret := (some .int)) (by decide +kernel) rfl ?_
  intro vp ve s vm args below meth vc s₁ B hml hv
  obtain ⟨rfl, S, hr, hlk, hnm, A, hA, hE, M⟩ := genter B hml hv
  rw [hA]
  obtain ⟨ls, hfr, hl⟩ := gst (m := vm) (as := [.ref (am 0), .int m]) (n := 2) (Nat.le_of_ble_eq_true rfl)
  rw [hfr]
  clear hfr hA
  have hl : lv_has ls 2 [(0, .ref (am 0)), (1, .int m)] := hl
  have M : gM E A s.heap [[(am 0, .inr (9, [.ref (am 1), .ref (am 2), .int (nI z.tn), .int z.mn, .int z.mk, .int z.mg, .int z.jp, .int (nI z.ct), .ref (am 3), .ref (am 4), .ref (am 5), .ref (am 6), .int (nI z.sp), .ref (am 7), .ref (am 8), .ref (am 9), .ref (am 10), .int (b2i z.on), .int z.ba, .int z.bg, .ref (am 11), .long z.up, .long z.by_, .int z.co, .int z.po, .int z.gr, .ref (am 12), .int (nI z.wr)]))], [((am 1), .inl (xI E, 25, .inl z.sg))], [((am 2), .inl (xI E, 8, .inl z.tp))], [((am 3), .inl (xI E, 120, .inl z.fr))], [((am 4), .inl (xI E, 120, .inl z.wh))], [((am 5), .inl (xI E, 120, .inl z.sn))], [((am 6), .inl (xI E, 300, .inl z.ca))], [((am 7), .inl (xI E, 120, .inl z.hd))], [((am 8), .inl (xI E, 120, .inl z.ps))], [((am 9), .inl (xI E, 120, .inl z.tm))], [((am 10), .inl (xI E, 120, .inl z.mm))], [((am 11), .inl (xJ E, 120, .inr (.inl z.se)))], [((am 12), .inl (xI E, 400, .inl z.tx))]] s.heap [] := M
  refine lv_iload_n S.1 S.2.1 dX9_wordLong_0 rfl (lv_at hl 1 rfl) ?_
  refine lv_iconst (v := 4) S.1 S.2.1 dX9_wordLong_1 (by decide) ?_
  refine lv_icmp_ne (tgt := 9) S.1 S.2.1 dX9_wordLong_2 (by decide) (fun c2 => ?_) (fun c2 => ?_)
  ·
    refine lv_iconst (v := 5) S.1 S.2.1 dX9_wordLong_9 (by decide) ?_
    exact giret S hr hlk M (by unfold wlg; rw [if_neg c2]) (rfl) dX9_wordLong_10
  ·
    refine lv_iconst (v := 4) S.1 S.2.1 dX9_wordLong_5 (by decide) ?_
    refine lv_goto (tgt := 10) S.1 S.2.1 dX9_wordLong_6 (by decide) ?_
    exact giret S hr hlk M (by unfold wlg; rw [if_pos c2]) (rfl) dX9_wordLong_10

set_option maxHeartbeats 4000000 in
set_option maxRecDepth 100000 in
theorem c_X9_told (l : Launch) (E : xE) (am : Nat → Nat) (z : MdS) (ht : z.tn ≤ 8) : mI l yX9_told wsX9_told (xrm 1 21) E [.ref (am 0)] (modGs E am z) z.told (modGs E am z) := by
  intro sz
  refine Met.ofW (cc := cX9_told) (maxL := 4) (ret := (some .int)) (by decide +kernel) rfl ?_
  intro vp ve s vm args below meth vc s₁ B hml hv
  obtain ⟨rfl, S, hr, hlk, hnm, A, hA, hE, M⟩ := genter B hml hv
  rw [hA]
  obtain ⟨ls, hfr, hl⟩ := gst (m := vm) (as := [.ref (am 0)]) (n := 4) (Nat.le_of_ble_eq_true rfl)
  rw [hfr]
  clear hfr hA
  have hl : lv_has ls 4 [(0, .ref (am 0))] := hl
  have M : gM E A s.heap [[(am 0, .inr (9, [.ref (am 1), .ref (am 2), .int (nI z.tn), .int z.mn, .int z.mk, .int z.mg, .int z.jp, .int (nI z.ct), .ref (am 3), .ref (am 4), .ref (am 5), .ref (am 6), .int (nI z.sp), .ref (am 7), .ref (am 8), .ref (am 9), .ref (am 10), .int (b2i z.on), .int z.ba, .int z.bg, .ref (am 11), .long z.up, .long z.by_, .int z.co, .int z.po, .int z.gr, .ref (am 12), .int (nI z.wr)]))], [((am 1), .inl (xI E, 25, .inl z.sg))], [((am 2), .inl (xI E, 8, .inl z.tp))], [((am 3), .inl (xI E, 120, .inl z.fr))], [((am 4), .inl (xI E, 120, .inl z.wh))], [((am 5), .inl (xI E, 120, .inl z.sn))], [((am 6), .inl (xI E, 300, .inl z.ca))], [((am 7), .inl (xI E, 120, .inl z.hd))], [((am 8), .inl (xI E, 120, .inl z.ps))], [((am 9), .inl (xI E, 120, .inl z.tm))], [((am 10), .inl (xI E, 120, .inl z.mm))], [((am 11), .inl (xJ E, 120, .inr (.inl z.se)))], [((am 12), .inl (xI E, 400, .inl z.tx))]] s.heap [] := M
  have hwi : ∀ w ∈ u_ws RX9 TX9 28, w ∈ wsX9_told := by decide +kernel
  obtain ⟨Q, hQ⟩ : ∃ Q : State → Prop, MQ below (va_Qi (fun x (_ : Unit) => x = z.told) (fun _ => kQ E A (modGs E am z)) A) ([.ref (am 0)] : List Value).toArray s 0 0 A = Q := ⟨_, rfl⟩
  rw [hQ]
  have hO : ∀ (n : Nat), ∀ (w : Nat), w + n = 5 → z.told = tol z n w → ∀ (H : Heap) (locs : List Loc), gM E A s.heap [[(am 0, .inr (9, [.ref (am 1), .ref (am 2), .int (nI z.tn), .int z.mn, .int z.mk, .int z.mg, .int z.jp, .int (nI z.ct), .ref (am 3), .ref (am 4), .ref (am 5), .ref (am 6), .int (nI z.sp), .ref (am 7), .ref (am 8), .ref (am 9), .ref (am 10), .int (b2i z.on), .int z.ba, .int z.bg, .ref (am 11), .long z.up, .long z.by_, .int z.co, .int z.po, .int z.gr, .ref (am 12), .int (nI z.wr)]))], [((am 1), .inl (xI E, 25, .inl z.sg))], [((am 2), .inl (xI E, 8, .inl z.tp))], [((am 3), .inl (xI E, 120, .inl z.fr))], [((am 4), .inl (xI E, 120, .inl z.wh))], [((am 5), .inl (xI E, 120, .inl z.sn))], [((am 6), .inl (xI E, 300, .inl z.ca))], [((am 7), .inl (xI E, 120, .inl z.hd))], [((am 8), .inl (xI E, 120, .inl z.ps))], [((am 9), .inl (xI E, 120, .inl z.tm))], [((am 10), .inl (xI E, 120, .inl z.mm))], [((am 11), .inl (xJ E, 120, .inr (.inl z.se)))], [((am 12), .inl (xI E, 400, .inl z.tx))]] H locs → ∀ ls : Array Slot, lv_has ls 4 [(0, .ref (am 0)), (1, .int (nI w))] → W vp l ve (headSpec wsX9_told (xrm 1 21)).room s vm ([.ref (am 0)] : List Value).toArray below meth vc H locs 0 0 Q (F0 vm 2 ls []) := by
    intro n
    induction n with
    | zero =>
      intro w hi hI H locs M ls hl
      refine lv_iload_n S.1 S.2.1 dX9_told_2 rfl (lv_at hl 1 rfl) ?_
      refine lv_iconst (v := 5) S.1 S.2.1 dX9_told_3 (by decide) ?_
      refine lv_icmp_ge (tgt := 82) S.1 S.2.1 dX9_told_4 (by decide) (fun _ => ?_) (fun c_ => absurd (nI_le (a := 5) (by omega) (by omega)) c_)
      refine lv_bipush (v := (-9)) S.1 S.2.1 dX9_told_82 (by decide) ?_
      rw [← hQ]
      exact giret S hr hlk M (by rw [hI, tol]) (rfl) dX9_told_84
    | succ n ih =>
      intro w hi hI H locs M ls hl
      have hN : ∀ (k : Nat), ∀ (i : Nat) (b : Bool), i + k = z.tn → (b = true → z.tn ≤ 5) → tpl z w z.tn 0 (if nI z.tn = wlg (nI w) then true else false) = tpl z w k i b → ∀ (H : Heap) (locs : List Loc), gM E A s.heap [[(am 0, .inr (9, [.ref (am 1), .ref (am 2), .int (nI z.tn), .int z.mn, .int z.mk, .int z.mg, .int z.jp, .int (nI z.ct), .ref (am 3), .ref (am 4), .ref (am 5), .ref (am 6), .int (nI z.sp), .ref (am 7), .ref (am 8), .ref (am 9), .ref (am 10), .int (b2i z.on), .int z.ba, .int z.bg, .ref (am 11), .long z.up, .long z.by_, .int z.co, .int z.po, .int z.gr, .ref (am 12), .int (nI z.wr)]))], [((am 1), .inl (xI E, 25, .inl z.sg))], [((am 2), .inl (xI E, 8, .inl z.tp))], [((am 3), .inl (xI E, 120, .inl z.fr))], [((am 4), .inl (xI E, 120, .inl z.wh))], [((am 5), .inl (xI E, 120, .inl z.sn))], [((am 6), .inl (xI E, 300, .inl z.ca))], [((am 7), .inl (xI E, 120, .inl z.hd))], [((am 8), .inl (xI E, 120, .inl z.ps))], [((am 9), .inl (xI E, 120, .inl z.tm))], [((am 10), .inl (xI E, 120, .inl z.mm))], [((am 11), .inl (xJ E, 120, .inr (.inl z.se)))], [((am 12), .inl (xI E, 400, .inl z.tx))]] H locs → ∀ ls : Array Slot, lv_has ls 4 [(0, .ref (am 0)), (1, .int (nI w)), (2, .int (b2i b)), (3, .int (nI i))] → W vp l ve (headSpec wsX9_told (xrm 1 21)).room s vm ([.ref (am 0)] : List Value).toArray below meth vc H locs 0 0 Q (F0 vm 27 ls []) := by
        intro k
        induction k with
        | zero =>
          intro i b hj hb hJ H locs M ls hl
          refine lv_iload_n S.1 S.2.1 dX9_told_27 rfl (lv_at hl 3 rfl) ?_
          refine lv_aload_n S.1 S.2.1 dX9_told_28 rfl (lv_at hl 0 rfl) ?_
          refine gget S hE M (C := RX9) (T := TX9) (N := 28) (ci := 9) (index := 58) hwi 0 rfl rfl 2 (by decide) (by decide +kernel) rfl dX9_told_29 ?_
          refine lv_icmp_ge (tgt := 70) S.1 S.2.1 dX9_told_32 (by decide) (fun _ => ?_) (fun c_ => absurd (nI_le (by omega) (by omega)) c_)
          refine lv_iload_n S.1 S.2.1 dX9_told_70 rfl (lv_at hl 2 rfl) ?_
          refine lv_if_eq (tgt := 76) S.1 S.2.1 dX9_told_71 (by decide) (fun c71 => ?_) (fun c71 => ?_)
          ·
            refine lv_iinc (v := nI (w + 1)) (lv' := [(1, .int (nI (w + 1))), (0, .ref (am 0)), (2, .int (b2i b)), (3, .int (nI i))]) S.1 S.2.1 dX9_told_76 hl (k := 1) rfl (nI_1 _) (by decide) rfl (fun ls hl => ?_)
            refine lv_goto (tgt := 2) S.1 S.2.1 dX9_told_79 (by decide) ?_
            exact ih (w + 1) (by omega) (by rw [hI, tol, hJ, tpl, if_pos c71]) _ _ M ls (lv_sub hl [1, 0] rfl)
          ·
            refine lv_iload_n S.1 S.2.1 dX9_told_74 rfl (lv_at hl 1 rfl) ?_
            rw [← hQ]
            exact giret S hr hlk M (by rw [hI, tol, hJ, tpl, if_neg c71]) (rfl) dX9_told_75
        | succ k ih2 =>
          intro i b hj hb hJ H locs M ls hl
          refine lv_iload_n S.1 S.2.1 dX9_told_27 rfl (lv_at hl 3 rfl) ?_
          refine lv_aload_n S.1 S.2.1 dX9_told_28 rfl (lv_at hl 0 rfl) ?_
          refine gget S hE M (C := RX9) (T := TX9) (N := 28) (ci := 9) (index := 58) hwi 0 rfl rfl 2 (by decide) (by decide +kernel) rfl dX9_told_29 ?_
          refine lv_icmp_ge (tgt := 70) S.1 S.2.1 dX9_told_32 (by decide) (fun c_ => absurd c_ (nI_ge (by omega) (by omega))) (fun _ => ?_)
          refine lv_iload_n S.1 S.2.1 dX9_told_35 rfl (lv_at hl 2 rfl) ?_
          refine lv_if_eq (tgt := 70) S.1 S.2.1 dX9_told_36 (by decide) (fun c36 => ?_) (fun c36 => ?_)
          ·
            refine lv_iload_n S.1 S.2.1 dX9_told_70 rfl (lv_at hl 2 rfl) ?_
            refine lv_if_eq (tgt := 76) S.1 S.2.1 dX9_told_71 (by decide) (fun _ => ?_) (fun c_ => absurd (c36) c_)
            refine lv_iinc (v := nI (w + 1)) (lv' := [(1, .int (nI (w + 1))), (0, .ref (am 0)), (2, .int (b2i b)), (3, .int (nI i))]) S.1 S.2.1 dX9_told_76 hl (k := 1) rfl (nI_1 _) (by decide) rfl (fun ls hl => ?_)
            refine lv_goto (tgt := 2) S.1 S.2.1 dX9_told_79 (by decide) ?_
            exact ih (w + 1) (by omega) (by rw [hI, tol, hJ, tpl, if_pos c36, if_pos c36]) _ _ M ls (lv_sub hl [1, 0] rfl)
          ·
            have hb5 := hb (b2i_t c36)
            refine lv_aload_n S.1 S.2.1 dX9_told_39 rfl (lv_at hl 0 rfl) ?_
            refine gget S hE M (C := RX9) (T := TX9) (N := 28) (ci := 9) (index := 13) hwi 0 rfl rfl 1 (by decide) (by decide +kernel) rfl dX9_told_40 ?_
            refine lv_iload_n S.1 S.2.1 dX9_told_43 rfl (lv_at hl 3 rfl) ?_
            refine giald S hE M 2 rfl (vp_in_nI (by omega) (by omega)) dX9_told_44 ?_
            refine gtop (x' := z.tp i) (by rw [nI_clamp (by omega)]) ?_
            refine lv_aload_n S.1 S.2.1 dX9_told_45 rfl (lv_at hl 0 rfl) ?_
            refine gget S hE M (C := RX9) (T := TX9) (N := 28) (ci := 9) (index := 7) hwi 0 rfl rfl 0 (by decide) (by decide +kernel) rfl dX9_told_46 ?_
            refine lv_iconst (v := 5) S.1 S.2.1 dX9_told_49 (by decide) ?_
            refine lv_iload_n S.1 S.2.1 dX9_told_50 rfl (lv_at hl 1 rfl) ?_
            refine lv_imul S.1 S.2.1 dX9_told_51 ?_
            refine lv_iload_n S.1 S.2.1 dX9_told_52 rfl (lv_at hl 3 rfl) ?_
            refine lv_iadd S.1 S.2.1 dX9_told_53 ?_
            refine gtop (x' := nI (5 * w + i)) (nI_51 _ _) ?_
            refine giald S hE M 1 rfl (vp_in_nI (by omega) (by omega)) dX9_told_54 ?_
            refine gtop (x' := z.sg (5 * w + i)) (by rw [nI_clamp (by omega)]) ?_
            refine lv_icmp_ne (tgt := 62) S.1 S.2.1 dX9_told_55 (by decide) (fun c55 => ?_) (fun c55 => ?_)
            ·
              refine lv_iconst (v := 0) S.1 S.2.1 dX9_told_62 (by decide) ?_
              refine lv_istore_n (lv' := [(2, .int 0), (0, .ref (am 0)), (1, .int (nI w)), (3, .int (nI i))]) S.1 S.2.1 dX9_told_63 rfl hl (by decide) rfl (fun ls hl => ?_)
              refine lv_iinc (v := nI (i + 1)) (lv' := [(3, .int (nI (i + 1))), (2, .int 0), (0, .ref (am 0)), (1, .int (nI w))]) S.1 S.2.1 dX9_told_64 hl (k := 3) rfl (nI_1 _) (by decide) rfl (fun ls hl => ?_)
              refine lv_goto (tgt := 27) S.1 S.2.1 dX9_told_67 (by decide) ?_
              exact ih2 (i + 1) false (by omega) (fun _ => hb5) (by rw [hJ, tpl, if_neg c36, if_neg c55]) _ _ M ls (lv_sub hl [2, 3, 1, 0] rfl)
            ·
              refine lv_iconst (v := 1) S.1 S.2.1 dX9_told_58 (by decide) ?_
              refine lv_goto (tgt := 63) S.1 S.2.1 dX9_told_59 (by decide) ?_
              refine lv_istore_n (lv' := [(2, .int 1), (0, .ref (am 0)), (1, .int (nI w)), (3, .int (nI i))]) S.1 S.2.1 dX9_told_63 rfl hl (by decide) rfl (fun ls hl => ?_)
              refine lv_iinc (v := nI (i + 1)) (lv' := [(3, .int (nI (i + 1))), (2, .int 1), (0, .ref (am 0)), (1, .int (nI w))]) S.1 S.2.1 dX9_told_64 hl (k := 3) rfl (nI_1 _) (by decide) rfl (fun ls hl => ?_)
              refine lv_goto (tgt := 27) S.1 S.2.1 dX9_told_67 (by decide) ?_
              exact ih2 (i + 1) true (by omega) (fun _ => hb5) (by rw [hJ, tpl, if_neg c36, if_pos c55]) _ _ M ls (lv_sub hl [2, 3, 1, 0] rfl)
      refine lv_iload_n S.1 S.2.1 dX9_told_2 rfl (lv_at hl 1 rfl) ?_
      refine lv_iconst (v := 5) S.1 S.2.1 dX9_told_3 (by decide) ?_
      refine lv_icmp_ge (tgt := 82) S.1 S.2.1 dX9_told_4 (by decide) (fun c_ => absurd c_ (nI_ge (b := 5) (by omega) (by omega))) (fun _ => ?_)
      refine lv_aload_n S.1 S.2.1 dX9_told_7 rfl (lv_at hl 0 rfl) ?_
      refine gget S hE M (C := RX9) (T := TX9) (N := 28) (ci := 9) (index := 58) hwi 0 rfl rfl 2 (by decide) (by decide +kernel) rfl dX9_told_8 ?_
      refine lv_aload_n S.1 S.2.1 dX9_told_11 rfl (lv_at hl 0 rfl) ?_
      refine lv_iload_n S.1 S.2.1 dX9_told_12 rfl (lv_at hl 1 rfl) ?_
      refine gcalli (L := []) (Mid := modGs E am z) (Rr := []) (Mid' := modGs E am z) hE M rfl (rfl) (rfl) (fun hp => va_runV (As := [.int (nI w)]) (rest := [.int (nI z.tn)]) S (c_X9_wordLong l E am z (nI w)  _) (cwV 1 S.2.2.2.2 gX9_told_X9_wordLong rfl rfl rfl kd_X9_wordLong ⟨Nat.le_of_ble_eq_true rfl, Nat.le_of_ble_eq_true rfl⟩) (hp.V hE (show vwCl[9]? = some (RX9, TX9, 28) from rfl) rfl) rfl rfl hl.1 rfl (lv_room (Nat.le_of_ble_eq_true rfl)) dX9_told_13 ⟨Nat.zero_le _, Nat.zero_le _⟩) (fun H locs M => ?_)
      have M : gM E A s.heap [[(am 0, .inr (9, [.ref (am 1), .ref (am 2), .int (nI z.tn), .int z.mn, .int z.mk, .int z.mg, .int z.jp, .int (nI z.ct), .ref (am 3), .ref (am 4), .ref (am 5), .ref (am 6), .int (nI z.sp), .ref (am 7), .ref (am 8), .ref (am 9), .ref (am 10), .int (b2i z.on), .int z.ba, .int z.bg, .ref (am 11), .long z.up, .long z.by_, .int z.co, .int z.po, .int z.gr, .ref (am 12), .int (nI z.wr)]))], [((am 1), .inl (xI E, 25, .inl z.sg))], [((am 2), .inl (xI E, 8, .inl z.tp))], [((am 3), .inl (xI E, 120, .inl z.fr))], [((am 4), .inl (xI E, 120, .inl z.wh))], [((am 5), .inl (xI E, 120, .inl z.sn))], [((am 6), .inl (xI E, 300, .inl z.ca))], [((am 7), .inl (xI E, 120, .inl z.hd))], [((am 8), .inl (xI E, 120, .inl z.ps))], [((am 9), .inl (xI E, 120, .inl z.tm))], [((am 10), .inl (xI E, 120, .inl z.mm))], [((am 11), .inl (xJ E, 120, .inr (.inl z.se)))], [((am 12), .inl (xI E, 400, .inl z.tx))]] H locs := M
      refine lv_icmp_ne (tgt := 23) S.1 S.2.1 dX9_told_16 (by decide) (fun c16 => ?_) (fun c16 => ?_)
      ·
        refine lv_iconst (v := 0) S.1 S.2.1 dX9_told_23 (by decide) ?_
        refine lv_istore_n (lv' := [(2, .int 0), (0, .ref (am 0)), (1, .int (nI w))]) S.1 S.2.1 dX9_told_24 rfl hl (by decide) rfl (fun ls hl => ?_)
        refine lv_iconst (v := 0) S.1 S.2.1 dX9_told_25 (by decide) ?_
        refine lv_istore_n (lv' := [(3, .int 0), (2, .int 0), (0, .ref (am 0)), (1, .int (nI w))]) S.1 S.2.1 dX9_told_26 rfl hl (by decide) rfl (fun ls hl => ?_)
        exact hN z.tn 0 false (by omega) (fun q => absurd q (by decide)) (by rw [if_neg c16]) _ _ M ls (lv_sub hl [2, 3, 1, 0] rfl)
      ·
        refine lv_iconst (v := 1) S.1 S.2.1 dX9_told_19 (by decide) ?_
        refine lv_goto (tgt := 24) S.1 S.2.1 dX9_told_20 (by decide) ?_
        refine lv_istore_n (lv' := [(2, .int 1), (0, .ref (am 0)), (1, .int (nI w))]) S.1 S.2.1 dX9_told_24 rfl hl (by decide) rfl (fun ls hl => ?_)
        refine lv_iconst (v := 0) S.1 S.2.1 dX9_told_25 (by decide) ?_
        refine lv_istore_n (lv' := [(3, .int 0), (2, .int 1), (0, .ref (am 0)), (1, .int (nI w))]) S.1 S.2.1 dX9_told_26 rfl hl (by decide) rfl (fun ls hl => ?_)
        exact hN z.tn 0 true (by omega) (fun _ => wlg_le (by omega) c16) (by rw [if_pos c16]) _ _ M ls (lv_sub hl [2, 3, 1, 0] rfl)
  refine lv_iconst (v := 0) S.1 S.2.1 dX9_told_0 (by decide) ?_
  refine lv_istore_n (lv' := [(1, .int 0), (0, .ref (am 0))]) S.1 S.2.1 dX9_told_1 rfl hl (by decide) rfl (fun ls hl => ?_)
  exact hO 5 0 (by omega) rfl _ _ M ls (lv_sub hl [1, 0] rfl)

set_option maxHeartbeats 4000000 in
set_option maxRecDepth 100000 in
theorem c_X9_manner (l : Launch) (E : xE) (am : Nat → Nat) (z : MdS) (k : Int32) (ht : z.tn ≤ 8) : mI l yX9_manner wsX9_manner (xrm 2 44) E [.ref (am 0), .int k] (modGs E am z) ((MdS.manner z k).1) (modGs E am ((MdS.manner z k).2)) := by
  intro sz
  refine Met.ofW (cc := cX9_manner) (maxL := 4) (ret := (some .int)) (by decide +kernel) rfl ?_
  intro vp ve s vm args below meth vc s₁ B hml hv
  obtain ⟨rfl, S, hr, hlk, hnm, A, hA, hE, M⟩ := genter B hml hv
  rw [hA]
  obtain ⟨ls, hfr, hl⟩ := gst (m := vm) (as := [.ref (am 0), .int k]) (n := 4) (Nat.le_of_ble_eq_true rfl)
  rw [hfr]
  clear hfr hA
  have hl : lv_has ls 4 [(0, .ref (am 0)), (1, .int k)] := hl
  have M : gM E A s.heap [[(am 0, .inr (9, [.ref (am 1), .ref (am 2), .int (nI z.tn), .int z.mn, .int z.mk, .int z.mg, .int z.jp, .int (nI z.ct), .ref (am 3), .ref (am 4), .ref (am 5), .ref (am 6), .int (nI z.sp), .ref (am 7), .ref (am 8), .ref (am 9), .ref (am 10), .int (b2i z.on), .int z.ba, .int z.bg, .ref (am 11), .long z.up, .long z.by_, .int z.co, .int z.po, .int z.gr, .ref (am 12), .int (nI z.wr)]))], [((am 1), .inl (xI E, 25, .inl z.sg))], [((am 2), .inl (xI E, 8, .inl z.tp))], [((am 3), .inl (xI E, 120, .inl z.fr))], [((am 4), .inl (xI E, 120, .inl z.wh))], [((am 5), .inl (xI E, 120, .inl z.sn))], [((am 6), .inl (xI E, 300, .inl z.ca))], [((am 7), .inl (xI E, 120, .inl z.hd))], [((am 8), .inl (xI E, 120, .inl z.ps))], [((am 9), .inl (xI E, 120, .inl z.tm))], [((am 10), .inl (xI E, 120, .inl z.mm))], [((am 11), .inl (xJ E, 120, .inr (.inl z.se)))], [((am 12), .inl (xI E, 400, .inl z.tx))]] s.heap [] := M
  have hwi : ∀ w ∈ u_ws RX9 TX9 28, w ∈ wsX9_manner := by decide +kernel
  refine lv_aload_n S.1 S.2.1 dX9_manner_0 rfl (lv_at hl 0 rfl) ?_
  refine gcalli (L := []) (Mid := modGs E am z) (Rr := []) (Mid' := modGs E am z) hE M rfl (rfl) (rfl) (fun hp => va_runV (As := []) (rest := []) S (c_X9_told l E am z   ht _) (cwV 0 S.2.2.2.2 gX9_manner_X9_told rfl rfl rfl kd_X9_told ⟨Nat.le_of_ble_eq_true rfl, Nat.le_of_ble_eq_true rfl⟩) (hp.V hE (show vwCl[9]? = some (RX9, TX9, 28) from rfl) rfl) rfl rfl hl.1 rfl (lv_room (Nat.le_of_ble_eq_true rfl)) dX9_manner_1 ⟨Nat.zero_le _, Nat.zero_le _⟩) (fun H locs M => ?_)
  have M : gM E A s.heap [[(am 0, .inr (9, [.ref (am 1), .ref (am 2), .int (nI z.tn), .int z.mn, .int z.mk, .int z.mg, .int z.jp, .int (nI z.ct), .ref (am 3), .ref (am 4), .ref (am 5), .ref (am 6), .int (nI z.sp), .ref (am 7), .ref (am 8), .ref (am 9), .ref (am 10), .int (b2i z.on), .int z.ba, .int z.bg, .ref (am 11), .long z.up, .long z.by_, .int z.co, .int z.po, .int z.gr, .ref (am 12), .int (nI z.wr)]))], [((am 1), .inl (xI E, 25, .inl z.sg))], [((am 2), .inl (xI E, 8, .inl z.tp))], [((am 3), .inl (xI E, 120, .inl z.fr))], [((am 4), .inl (xI E, 120, .inl z.wh))], [((am 5), .inl (xI E, 120, .inl z.sn))], [((am 6), .inl (xI E, 300, .inl z.ca))], [((am 7), .inl (xI E, 120, .inl z.hd))], [((am 8), .inl (xI E, 120, .inl z.ps))], [((am 9), .inl (xI E, 120, .inl z.tm))], [((am 10), .inl (xI E, 120, .inl z.mm))], [((am 11), .inl (xJ E, 120, .inr (.inl z.se)))], [((am 12), .inl (xI E, 400, .inl z.tx))]] H locs := M
  refine lv_istore_n (lv' := [(2, .int z.told), (0, .ref (am 0)), (1, .int k)]) S.1 S.2.1 dX9_manner_4 rfl hl (by decide) rfl (fun ls hl => ?_)
  refine lv_iload_n S.1 S.2.1 dX9_manner_5 rfl (lv_at hl 0 rfl) ?_
  refine lv_bipush (v := (-9)) S.1 S.2.1 dX9_manner_6 (by decide) ?_
  refine lv_icmp_ne (tgt := 13) S.1 S.2.1 dX9_manner_8 (by decide) (fun c8 => ?_) (fun c8 => ?_)
  ·
    refine lv_iload_n S.1 S.2.1 dX9_manner_13 rfl (lv_at hl 0 rfl) ?_
    refine lv_if_ne (tgt := 23) S.1 S.2.1 dX9_manner_14 (by decide) (fun c14 => ?_) (fun c14 => ?_)
    ·
      refine lv_iload_n S.1 S.2.1 dX9_manner_23 rfl (lv_at hl 0 rfl) ?_
      refine lv_iconst (v := 4) S.1 S.2.1 dX9_manner_24 (by decide) ?_
      refine lv_icmp_ne (tgt := 33) S.1 S.2.1 dX9_manner_25 (by decide) (fun c25 => ?_) (fun c25 => ?_)
      ·
        refine lv_sipush (v := 256) S.1 S.2.1 dX9_manner_33 (by decide) ?_
        refine lv_istore_n (lv' := [(3, .int 256), (2, .int z.told), (0, .ref (am 0)), (1, .int k)]) S.1 S.2.1 dX9_manner_36 rfl hl (by decide) rfl (fun ls hl => ?_)
        refine lv_iload_n S.1 S.2.1 dX9_manner_37 rfl (lv_at hl 3 rfl) ?_
        refine lv_iload_n S.1 S.2.1 dX9_manner_38 rfl (lv_at hl 1 rfl) ?_
        refine lv_if_ne (tgt := 48) S.1 S.2.1 dX9_manner_39 (by decide) (fun _ => ?_) (fun c_ => absurd c_ (c14))
        refine lv_iconst (v := 0) S.1 S.2.1 dX9_manner_48 (by decide) ?_
        refine lv_iload_n S.1 S.2.1 dX9_manner_49 rfl (lv_at hl 0 rfl) ?_
        refine gcalli (L := []) (Mid := []) (Rr := [[(am 0, .inr (9, [.ref (am 1), .ref (am 2), .int (nI z.tn), .int z.mn, .int z.mk, .int z.mg, .int z.jp, .int (nI z.ct), .ref (am 3), .ref (am 4), .ref (am 5), .ref (am 6), .int (nI z.sp), .ref (am 7), .ref (am 8), .ref (am 9), .ref (am 10), .int (b2i z.on), .int z.ba, .int z.bg, .ref (am 11), .long z.up, .long z.by_, .int z.co, .int z.po, .int z.gr, .ref (am 12), .int (nI z.wr)]))], [((am 1), .inl (xI E, 25, .inl z.sg))], [((am 2), .inl (xI E, 8, .inl z.tp))], [((am 3), .inl (xI E, 120, .inl z.fr))], [((am 4), .inl (xI E, 120, .inl z.wh))], [((am 5), .inl (xI E, 120, .inl z.sn))], [((am 6), .inl (xI E, 300, .inl z.ca))], [((am 7), .inl (xI E, 120, .inl z.hd))], [((am 8), .inl (xI E, 120, .inl z.ps))], [((am 9), .inl (xI E, 120, .inl z.tm))], [((am 10), .inl (xI E, 120, .inl z.mm))], [((am 11), .inl (xJ E, 120, .inr (.inl z.se)))], [((am 12), .inl (xI E, 400, .inl z.tx))]]) (Mid' := []) hE M rfl (rfl) (rfl) (fun hp => va_runS (As := [.int k, .int 0, .int 256]) (rest := []) S (c_X9_within l E k 0 256 _) (va_cwS 3 S.2.2.2.2 gX9_manner_X9_within rfl rfl rfl kd_X9_within.2 ⟨Nat.le_of_ble_eq_true rfl, Nat.le_of_ble_eq_true rfl⟩) hp.S rfl rfl hl.1 rfl (lv_room (Nat.le_of_ble_eq_true rfl)) dX9_manner_50 ⟨Nat.zero_le _, Nat.zero_le _⟩) (fun H locs M => ?_)
        have M : gM E A s.heap [[(am 0, .inr (9, [.ref (am 1), .ref (am 2), .int (nI z.tn), .int z.mn, .int z.mk, .int z.mg, .int z.jp, .int (nI z.ct), .ref (am 3), .ref (am 4), .ref (am 5), .ref (am 6), .int (nI z.sp), .ref (am 7), .ref (am 8), .ref (am 9), .ref (am 10), .int (b2i z.on), .int z.ba, .int z.bg, .ref (am 11), .long z.up, .long z.by_, .int z.co, .int z.po, .int z.gr, .ref (am 12), .int (nI z.wr)]))], [((am 1), .inl (xI E, 25, .inl z.sg))], [((am 2), .inl (xI E, 8, .inl z.tp))], [((am 3), .inl (xI E, 120, .inl z.fr))], [((am 4), .inl (xI E, 120, .inl z.wh))], [((am 5), .inl (xI E, 120, .inl z.sn))], [((am 6), .inl (xI E, 300, .inl z.ca))], [((am 7), .inl (xI E, 120, .inl z.hd))], [((am 8), .inl (xI E, 120, .inl z.ps))], [((am 9), .inl (xI E, 120, .inl z.tm))], [((am 10), .inl (xI E, 120, .inl z.mm))], [((am 11), .inl (xJ E, 120, .inr (.inl z.se)))], [((am 12), .inl (xI E, 400, .inl z.tx))]] H locs := M
        refine lv_if_ne (tgt := 59) S.1 S.2.1 dX9_manner_53 (by decide) (fun c53 => ?_) (fun c53 => ?_)
        ·
          refine lv_aload_n S.1 S.2.1 dX9_manner_59 rfl (lv_at hl 2 rfl) ?_
          refine lv_iload_n S.1 S.2.1 dX9_manner_60 rfl (lv_at hl 1 rfl) ?_
          refine gput S hE M (C := RX9) (T := TX9) (N := 28) (ci := 9) (index := 69) (Gs' := [[(am 0, .inr (9, [.ref (am 1), .ref (am 2), .int (nI z.tn), .int z.told, .int z.mk, .int z.mg, .int z.jp, .int (nI z.ct), .ref (am 3), .ref (am 4), .ref (am 5), .ref (am 6), .int (nI z.sp), .ref (am 7), .ref (am 8), .ref (am 9), .ref (am 10), .int (b2i z.on), .int z.ba, .int z.bg, .ref (am 11), .long z.up, .long z.by_, .int z.co, .int z.po, .int z.gr, .ref (am 12), .int (nI z.wr)]))], [((am 1), .inl (xI E, 25, .inl z.sg))], [((am 2), .inl (xI E, 8, .inl z.tp))], [((am 3), .inl (xI E, 120, .inl z.fr))], [((am 4), .inl (xI E, 120, .inl z.wh))], [((am 5), .inl (xI E, 120, .inl z.sn))], [((am 6), .inl (xI E, 300, .inl z.ca))], [((am 7), .inl (xI E, 120, .inl z.hd))], [((am 8), .inl (xI E, 120, .inl z.ps))], [((am 9), .inl (xI E, 120, .inl z.tm))], [((am 10), .inl (xI E, 120, .inl z.mm))], [((am 11), .inl (xJ E, 120, .inr (.inl z.se)))], [((am 12), .inl (xI E, 400, .inl z.tx))]]) hwi tyX9 tyX9_ok nmX9 0 rfl rfl 3 (by decide) (by decide +kernel) rfl rfl rfl (Nat.le_of_ble_eq_true rfl) rfl dX9_manner_61 (fun H locs M => ?_)
          refine lv_aload_n S.1 S.2.1 dX9_manner_64 rfl (lv_at hl 2 rfl) ?_
          refine lv_iload_n S.1 S.2.1 dX9_manner_65 rfl (lv_at hl 3 rfl) ?_
          refine gput S hE M (C := RX9) (T := TX9) (N := 28) (ci := 9) (index := 16) (Gs' := [[(am 0, .inr (9, [.ref (am 1), .ref (am 2), .int (nI z.tn), .int z.told, .int k, .int z.mg, .int z.jp, .int (nI z.ct), .ref (am 3), .ref (am 4), .ref (am 5), .ref (am 6), .int (nI z.sp), .ref (am 7), .ref (am 8), .ref (am 9), .ref (am 10), .int (b2i z.on), .int z.ba, .int z.bg, .ref (am 11), .long z.up, .long z.by_, .int z.co, .int z.po, .int z.gr, .ref (am 12), .int (nI z.wr)]))], [((am 1), .inl (xI E, 25, .inl z.sg))], [((am 2), .inl (xI E, 8, .inl z.tp))], [((am 3), .inl (xI E, 120, .inl z.fr))], [((am 4), .inl (xI E, 120, .inl z.wh))], [((am 5), .inl (xI E, 120, .inl z.sn))], [((am 6), .inl (xI E, 300, .inl z.ca))], [((am 7), .inl (xI E, 120, .inl z.hd))], [((am 8), .inl (xI E, 120, .inl z.ps))], [((am 9), .inl (xI E, 120, .inl z.tm))], [((am 10), .inl (xI E, 120, .inl z.mm))], [((am 11), .inl (xJ E, 120, .inr (.inl z.se)))], [((am 12), .inl (xI E, 400, .inl z.tx))]]) hwi tyX9 tyX9_ok nmX9 0 rfl rfl 4 (by decide) (by decide +kernel) rfl rfl rfl (Nat.le_of_ble_eq_true rfl) rfl dX9_manner_66 (fun H locs M => ?_)
          refine lv_aload_n S.1 S.2.1 dX9_manner_69 rfl (lv_at hl 2 rfl) ?_
          refine lv_iconst (v := 0) S.1 S.2.1 dX9_manner_70 (by decide) ?_
          refine gput S hE M (C := RX9) (T := TX9) (N := 28) (ci := 9) (index := 58) (Gs' := [[(am 0, .inr (9, [.ref (am 1), .ref (am 2), .int 0, .int z.told, .int k, .int z.mg, .int z.jp, .int (nI z.ct), .ref (am 3), .ref (am 4), .ref (am 5), .ref (am 6), .int (nI z.sp), .ref (am 7), .ref (am 8), .ref (am 9), .ref (am 10), .int (b2i z.on), .int z.ba, .int z.bg, .ref (am 11), .long z.up, .long z.by_, .int z.co, .int z.po, .int z.gr, .ref (am 12), .int (nI z.wr)]))], [((am 1), .inl (xI E, 25, .inl z.sg))], [((am 2), .inl (xI E, 8, .inl z.tp))], [((am 3), .inl (xI E, 120, .inl z.fr))], [((am 4), .inl (xI E, 120, .inl z.wh))], [((am 5), .inl (xI E, 120, .inl z.sn))], [((am 6), .inl (xI E, 300, .inl z.ca))], [((am 7), .inl (xI E, 120, .inl z.hd))], [((am 8), .inl (xI E, 120, .inl z.ps))], [((am 9), .inl (xI E, 120, .inl z.tm))], [((am 10), .inl (xI E, 120, .inl z.mm))], [((am 11), .inl (xJ E, 120, .inr (.inl z.se)))], [((am 12), .inl (xI E, 400, .inl z.tx))]]) hwi tyX9 tyX9_ok nmX9 0 rfl rfl 2 (by decide) (by decide +kernel) rfl rfl rfl (Nat.le_of_ble_eq_true rfl) rfl dX9_manner_71 (fun H locs M => ?_)
          refine lv_iload_n S.1 S.2.1 dX9_manner_74 rfl (lv_at hl 1 rfl) ?_
          have he : MdS.manner z k = (z.told, ((z.sg, z.tp, 0, z.told, k, z.mg, z.jp, z.ct, z.fr, z.wh, z.sn, z.ca, z.sp, z.hd, z.ps, z.tm, z.mm, z.on, z.ba, z.bg, z.se, z.up, z.by_, z.co, z.po, z.gr, z.tx, z.wr) : MdS)) := by unfold MdS.manner leastN greatN; rw [if_neg c8, if_neg c14, if_neg c14, if_neg c25, if_neg c53] <;> rfl
          exact giret S hr hlk M (by rw [he]) (by rw [he]; rfl) dX9_manner_75
        ·
          refine lv_bipush (v := (-2)) S.1 S.2.1 dX9_manner_56 (by decide) ?_
          have he : MdS.manner z k = ((-2), z) := by unfold MdS.manner leastN greatN; rw [if_neg c8, if_neg c14, if_neg c14, if_neg c25, if_pos c53] <;> rfl
          exact giret S hr hlk M (by rw [he]) (by rw [he]; rfl) dX9_manner_58
      ·
        refine lv_bipush (v := 8) S.1 S.2.1 dX9_manner_28 (by decide) ?_
        refine lv_goto (tgt := 36) S.1 S.2.1 dX9_manner_30 (by decide) ?_
        refine lv_istore_n (lv' := [(3, .int 8), (2, .int z.told), (0, .ref (am 0)), (1, .int k)]) S.1 S.2.1 dX9_manner_36 rfl hl (by decide) rfl (fun ls hl => ?_)
        refine lv_iload_n S.1 S.2.1 dX9_manner_37 rfl (lv_at hl 3 rfl) ?_
        refine lv_iload_n S.1 S.2.1 dX9_manner_38 rfl (lv_at hl 1 rfl) ?_
        refine lv_if_ne (tgt := 48) S.1 S.2.1 dX9_manner_39 (by decide) (fun _ => ?_) (fun c_ => absurd c_ (c14))
        refine lv_iconst (v := 0) S.1 S.2.1 dX9_manner_48 (by decide) ?_
        refine lv_iload_n S.1 S.2.1 dX9_manner_49 rfl (lv_at hl 0 rfl) ?_
        refine gcalli (L := []) (Mid := []) (Rr := [[(am 0, .inr (9, [.ref (am 1), .ref (am 2), .int (nI z.tn), .int z.mn, .int z.mk, .int z.mg, .int z.jp, .int (nI z.ct), .ref (am 3), .ref (am 4), .ref (am 5), .ref (am 6), .int (nI z.sp), .ref (am 7), .ref (am 8), .ref (am 9), .ref (am 10), .int (b2i z.on), .int z.ba, .int z.bg, .ref (am 11), .long z.up, .long z.by_, .int z.co, .int z.po, .int z.gr, .ref (am 12), .int (nI z.wr)]))], [((am 1), .inl (xI E, 25, .inl z.sg))], [((am 2), .inl (xI E, 8, .inl z.tp))], [((am 3), .inl (xI E, 120, .inl z.fr))], [((am 4), .inl (xI E, 120, .inl z.wh))], [((am 5), .inl (xI E, 120, .inl z.sn))], [((am 6), .inl (xI E, 300, .inl z.ca))], [((am 7), .inl (xI E, 120, .inl z.hd))], [((am 8), .inl (xI E, 120, .inl z.ps))], [((am 9), .inl (xI E, 120, .inl z.tm))], [((am 10), .inl (xI E, 120, .inl z.mm))], [((am 11), .inl (xJ E, 120, .inr (.inl z.se)))], [((am 12), .inl (xI E, 400, .inl z.tx))]]) (Mid' := []) hE M rfl (rfl) (rfl) (fun hp => va_runS (As := [.int k, .int 0, .int 8]) (rest := []) S (c_X9_within l E k 0 8 _) (va_cwS 3 S.2.2.2.2 gX9_manner_X9_within rfl rfl rfl kd_X9_within.2 ⟨Nat.le_of_ble_eq_true rfl, Nat.le_of_ble_eq_true rfl⟩) hp.S rfl rfl hl.1 rfl (lv_room (Nat.le_of_ble_eq_true rfl)) dX9_manner_50 ⟨Nat.zero_le _, Nat.zero_le _⟩) (fun H locs M => ?_)
        have M : gM E A s.heap [[(am 0, .inr (9, [.ref (am 1), .ref (am 2), .int (nI z.tn), .int z.mn, .int z.mk, .int z.mg, .int z.jp, .int (nI z.ct), .ref (am 3), .ref (am 4), .ref (am 5), .ref (am 6), .int (nI z.sp), .ref (am 7), .ref (am 8), .ref (am 9), .ref (am 10), .int (b2i z.on), .int z.ba, .int z.bg, .ref (am 11), .long z.up, .long z.by_, .int z.co, .int z.po, .int z.gr, .ref (am 12), .int (nI z.wr)]))], [((am 1), .inl (xI E, 25, .inl z.sg))], [((am 2), .inl (xI E, 8, .inl z.tp))], [((am 3), .inl (xI E, 120, .inl z.fr))], [((am 4), .inl (xI E, 120, .inl z.wh))], [((am 5), .inl (xI E, 120, .inl z.sn))], [((am 6), .inl (xI E, 300, .inl z.ca))], [((am 7), .inl (xI E, 120, .inl z.hd))], [((am 8), .inl (xI E, 120, .inl z.ps))], [((am 9), .inl (xI E, 120, .inl z.tm))], [((am 10), .inl (xI E, 120, .inl z.mm))], [((am 11), .inl (xJ E, 120, .inr (.inl z.se)))], [((am 12), .inl (xI E, 400, .inl z.tx))]] H locs := M
        refine lv_if_ne (tgt := 59) S.1 S.2.1 dX9_manner_53 (by decide) (fun c53 => ?_) (fun c53 => ?_)
        ·
          refine lv_aload_n S.1 S.2.1 dX9_manner_59 rfl (lv_at hl 2 rfl) ?_
          refine lv_iload_n S.1 S.2.1 dX9_manner_60 rfl (lv_at hl 1 rfl) ?_
          refine gput S hE M (C := RX9) (T := TX9) (N := 28) (ci := 9) (index := 69) (Gs' := [[(am 0, .inr (9, [.ref (am 1), .ref (am 2), .int (nI z.tn), .int z.told, .int z.mk, .int z.mg, .int z.jp, .int (nI z.ct), .ref (am 3), .ref (am 4), .ref (am 5), .ref (am 6), .int (nI z.sp), .ref (am 7), .ref (am 8), .ref (am 9), .ref (am 10), .int (b2i z.on), .int z.ba, .int z.bg, .ref (am 11), .long z.up, .long z.by_, .int z.co, .int z.po, .int z.gr, .ref (am 12), .int (nI z.wr)]))], [((am 1), .inl (xI E, 25, .inl z.sg))], [((am 2), .inl (xI E, 8, .inl z.tp))], [((am 3), .inl (xI E, 120, .inl z.fr))], [((am 4), .inl (xI E, 120, .inl z.wh))], [((am 5), .inl (xI E, 120, .inl z.sn))], [((am 6), .inl (xI E, 300, .inl z.ca))], [((am 7), .inl (xI E, 120, .inl z.hd))], [((am 8), .inl (xI E, 120, .inl z.ps))], [((am 9), .inl (xI E, 120, .inl z.tm))], [((am 10), .inl (xI E, 120, .inl z.mm))], [((am 11), .inl (xJ E, 120, .inr (.inl z.se)))], [((am 12), .inl (xI E, 400, .inl z.tx))]]) hwi tyX9 tyX9_ok nmX9 0 rfl rfl 3 (by decide) (by decide +kernel) rfl rfl rfl (Nat.le_of_ble_eq_true rfl) rfl dX9_manner_61 (fun H locs M => ?_)
          refine lv_aload_n S.1 S.2.1 dX9_manner_64 rfl (lv_at hl 2 rfl) ?_
          refine lv_iload_n S.1 S.2.1 dX9_manner_65 rfl (lv_at hl 3 rfl) ?_
          refine gput S hE M (C := RX9) (T := TX9) (N := 28) (ci := 9) (index := 16) (Gs' := [[(am 0, .inr (9, [.ref (am 1), .ref (am 2), .int (nI z.tn), .int z.told, .int k, .int z.mg, .int z.jp, .int (nI z.ct), .ref (am 3), .ref (am 4), .ref (am 5), .ref (am 6), .int (nI z.sp), .ref (am 7), .ref (am 8), .ref (am 9), .ref (am 10), .int (b2i z.on), .int z.ba, .int z.bg, .ref (am 11), .long z.up, .long z.by_, .int z.co, .int z.po, .int z.gr, .ref (am 12), .int (nI z.wr)]))], [((am 1), .inl (xI E, 25, .inl z.sg))], [((am 2), .inl (xI E, 8, .inl z.tp))], [((am 3), .inl (xI E, 120, .inl z.fr))], [((am 4), .inl (xI E, 120, .inl z.wh))], [((am 5), .inl (xI E, 120, .inl z.sn))], [((am 6), .inl (xI E, 300, .inl z.ca))], [((am 7), .inl (xI E, 120, .inl z.hd))], [((am 8), .inl (xI E, 120, .inl z.ps))], [((am 9), .inl (xI E, 120, .inl z.tm))], [((am 10), .inl (xI E, 120, .inl z.mm))], [((am 11), .inl (xJ E, 120, .inr (.inl z.se)))], [((am 12), .inl (xI E, 400, .inl z.tx))]]) hwi tyX9 tyX9_ok nmX9 0 rfl rfl 4 (by decide) (by decide +kernel) rfl rfl rfl (Nat.le_of_ble_eq_true rfl) rfl dX9_manner_66 (fun H locs M => ?_)
          refine lv_aload_n S.1 S.2.1 dX9_manner_69 rfl (lv_at hl 2 rfl) ?_
          refine lv_iconst (v := 0) S.1 S.2.1 dX9_manner_70 (by decide) ?_
          refine gput S hE M (C := RX9) (T := TX9) (N := 28) (ci := 9) (index := 58) (Gs' := [[(am 0, .inr (9, [.ref (am 1), .ref (am 2), .int 0, .int z.told, .int k, .int z.mg, .int z.jp, .int (nI z.ct), .ref (am 3), .ref (am 4), .ref (am 5), .ref (am 6), .int (nI z.sp), .ref (am 7), .ref (am 8), .ref (am 9), .ref (am 10), .int (b2i z.on), .int z.ba, .int z.bg, .ref (am 11), .long z.up, .long z.by_, .int z.co, .int z.po, .int z.gr, .ref (am 12), .int (nI z.wr)]))], [((am 1), .inl (xI E, 25, .inl z.sg))], [((am 2), .inl (xI E, 8, .inl z.tp))], [((am 3), .inl (xI E, 120, .inl z.fr))], [((am 4), .inl (xI E, 120, .inl z.wh))], [((am 5), .inl (xI E, 120, .inl z.sn))], [((am 6), .inl (xI E, 300, .inl z.ca))], [((am 7), .inl (xI E, 120, .inl z.hd))], [((am 8), .inl (xI E, 120, .inl z.ps))], [((am 9), .inl (xI E, 120, .inl z.tm))], [((am 10), .inl (xI E, 120, .inl z.mm))], [((am 11), .inl (xJ E, 120, .inr (.inl z.se)))], [((am 12), .inl (xI E, 400, .inl z.tx))]]) hwi tyX9 tyX9_ok nmX9 0 rfl rfl 2 (by decide) (by decide +kernel) rfl rfl rfl (Nat.le_of_ble_eq_true rfl) rfl dX9_manner_71 (fun H locs M => ?_)
          refine lv_iload_n S.1 S.2.1 dX9_manner_74 rfl (lv_at hl 1 rfl) ?_
          have he : MdS.manner z k = (z.told, ((z.sg, z.tp, 0, z.told, k, z.mg, z.jp, z.ct, z.fr, z.wh, z.sn, z.ca, z.sp, z.hd, z.ps, z.tm, z.mm, z.on, z.ba, z.bg, z.se, z.up, z.by_, z.co, z.po, z.gr, z.tx, z.wr) : MdS)) := by unfold MdS.manner leastN greatN; rw [if_neg c8, if_neg c14, if_neg c14, if_pos c25, if_neg c53] <;> rfl
          exact giret S hr hlk M (by rw [he]) (by rw [he]; rfl) dX9_manner_75
        ·
          refine lv_bipush (v := (-2)) S.1 S.2.1 dX9_manner_56 (by decide) ?_
          have he : MdS.manner z k = ((-2), z) := by unfold MdS.manner leastN greatN; rw [if_neg c8, if_neg c14, if_neg c14, if_pos c25, if_pos c53] <;> rfl
          exact giret S hr hlk M (by rw [he]) (by rw [he]; rfl) dX9_manner_58
    ·
      refine lv_sipush (v := 2000) S.1 S.2.1 dX9_manner_17 (by decide) ?_
      refine lv_goto (tgt := 36) S.1 S.2.1 dX9_manner_20 (by decide) ?_
      refine lv_istore_n (lv' := [(3, .int 2000), (2, .int z.told), (0, .ref (am 0)), (1, .int k)]) S.1 S.2.1 dX9_manner_36 rfl hl (by decide) rfl (fun ls hl => ?_)
      refine lv_iload_n S.1 S.2.1 dX9_manner_37 rfl (lv_at hl 3 rfl) ?_
      refine lv_iload_n S.1 S.2.1 dX9_manner_38 rfl (lv_at hl 1 rfl) ?_
      refine lv_if_ne (tgt := 48) S.1 S.2.1 dX9_manner_39 (by decide) (fun c_ => absurd (c14) c_) (fun _ => ?_)
      refine lv_sipush (v := (-500)) S.1 S.2.1 dX9_manner_42 (by decide) ?_
      refine lv_goto (tgt := 49) S.1 S.2.1 dX9_manner_45 (by decide) ?_
      refine lv_iload_n S.1 S.2.1 dX9_manner_49 rfl (lv_at hl 0 rfl) ?_
      refine gcalli (L := []) (Mid := []) (Rr := [[(am 0, .inr (9, [.ref (am 1), .ref (am 2), .int (nI z.tn), .int z.mn, .int z.mk, .int z.mg, .int z.jp, .int (nI z.ct), .ref (am 3), .ref (am 4), .ref (am 5), .ref (am 6), .int (nI z.sp), .ref (am 7), .ref (am 8), .ref (am 9), .ref (am 10), .int (b2i z.on), .int z.ba, .int z.bg, .ref (am 11), .long z.up, .long z.by_, .int z.co, .int z.po, .int z.gr, .ref (am 12), .int (nI z.wr)]))], [((am 1), .inl (xI E, 25, .inl z.sg))], [((am 2), .inl (xI E, 8, .inl z.tp))], [((am 3), .inl (xI E, 120, .inl z.fr))], [((am 4), .inl (xI E, 120, .inl z.wh))], [((am 5), .inl (xI E, 120, .inl z.sn))], [((am 6), .inl (xI E, 300, .inl z.ca))], [((am 7), .inl (xI E, 120, .inl z.hd))], [((am 8), .inl (xI E, 120, .inl z.ps))], [((am 9), .inl (xI E, 120, .inl z.tm))], [((am 10), .inl (xI E, 120, .inl z.mm))], [((am 11), .inl (xJ E, 120, .inr (.inl z.se)))], [((am 12), .inl (xI E, 400, .inl z.tx))]]) (Mid' := []) hE M rfl (rfl) (rfl) (fun hp => va_runS (As := [.int k, .int (-500), .int 2000]) (rest := []) S (c_X9_within l E k (-500) 2000 _) (va_cwS 3 S.2.2.2.2 gX9_manner_X9_within rfl rfl rfl kd_X9_within.2 ⟨Nat.le_of_ble_eq_true rfl, Nat.le_of_ble_eq_true rfl⟩) hp.S rfl rfl hl.1 rfl (lv_room (Nat.le_of_ble_eq_true rfl)) dX9_manner_50 ⟨Nat.zero_le _, Nat.zero_le _⟩) (fun H locs M => ?_)
      have M : gM E A s.heap [[(am 0, .inr (9, [.ref (am 1), .ref (am 2), .int (nI z.tn), .int z.mn, .int z.mk, .int z.mg, .int z.jp, .int (nI z.ct), .ref (am 3), .ref (am 4), .ref (am 5), .ref (am 6), .int (nI z.sp), .ref (am 7), .ref (am 8), .ref (am 9), .ref (am 10), .int (b2i z.on), .int z.ba, .int z.bg, .ref (am 11), .long z.up, .long z.by_, .int z.co, .int z.po, .int z.gr, .ref (am 12), .int (nI z.wr)]))], [((am 1), .inl (xI E, 25, .inl z.sg))], [((am 2), .inl (xI E, 8, .inl z.tp))], [((am 3), .inl (xI E, 120, .inl z.fr))], [((am 4), .inl (xI E, 120, .inl z.wh))], [((am 5), .inl (xI E, 120, .inl z.sn))], [((am 6), .inl (xI E, 300, .inl z.ca))], [((am 7), .inl (xI E, 120, .inl z.hd))], [((am 8), .inl (xI E, 120, .inl z.ps))], [((am 9), .inl (xI E, 120, .inl z.tm))], [((am 10), .inl (xI E, 120, .inl z.mm))], [((am 11), .inl (xJ E, 120, .inr (.inl z.se)))], [((am 12), .inl (xI E, 400, .inl z.tx))]] H locs := M
      refine lv_if_ne (tgt := 59) S.1 S.2.1 dX9_manner_53 (by decide) (fun c53 => ?_) (fun c53 => ?_)
      ·
        refine lv_aload_n S.1 S.2.1 dX9_manner_59 rfl (lv_at hl 2 rfl) ?_
        refine lv_iload_n S.1 S.2.1 dX9_manner_60 rfl (lv_at hl 1 rfl) ?_
        refine gput S hE M (C := RX9) (T := TX9) (N := 28) (ci := 9) (index := 69) (Gs' := [[(am 0, .inr (9, [.ref (am 1), .ref (am 2), .int (nI z.tn), .int z.told, .int z.mk, .int z.mg, .int z.jp, .int (nI z.ct), .ref (am 3), .ref (am 4), .ref (am 5), .ref (am 6), .int (nI z.sp), .ref (am 7), .ref (am 8), .ref (am 9), .ref (am 10), .int (b2i z.on), .int z.ba, .int z.bg, .ref (am 11), .long z.up, .long z.by_, .int z.co, .int z.po, .int z.gr, .ref (am 12), .int (nI z.wr)]))], [((am 1), .inl (xI E, 25, .inl z.sg))], [((am 2), .inl (xI E, 8, .inl z.tp))], [((am 3), .inl (xI E, 120, .inl z.fr))], [((am 4), .inl (xI E, 120, .inl z.wh))], [((am 5), .inl (xI E, 120, .inl z.sn))], [((am 6), .inl (xI E, 300, .inl z.ca))], [((am 7), .inl (xI E, 120, .inl z.hd))], [((am 8), .inl (xI E, 120, .inl z.ps))], [((am 9), .inl (xI E, 120, .inl z.tm))], [((am 10), .inl (xI E, 120, .inl z.mm))], [((am 11), .inl (xJ E, 120, .inr (.inl z.se)))], [((am 12), .inl (xI E, 400, .inl z.tx))]]) hwi tyX9 tyX9_ok nmX9 0 rfl rfl 3 (by decide) (by decide +kernel) rfl rfl rfl (Nat.le_of_ble_eq_true rfl) rfl dX9_manner_61 (fun H locs M => ?_)
        refine lv_aload_n S.1 S.2.1 dX9_manner_64 rfl (lv_at hl 2 rfl) ?_
        refine lv_iload_n S.1 S.2.1 dX9_manner_65 rfl (lv_at hl 3 rfl) ?_
        refine gput S hE M (C := RX9) (T := TX9) (N := 28) (ci := 9) (index := 16) (Gs' := [[(am 0, .inr (9, [.ref (am 1), .ref (am 2), .int (nI z.tn), .int z.told, .int k, .int z.mg, .int z.jp, .int (nI z.ct), .ref (am 3), .ref (am 4), .ref (am 5), .ref (am 6), .int (nI z.sp), .ref (am 7), .ref (am 8), .ref (am 9), .ref (am 10), .int (b2i z.on), .int z.ba, .int z.bg, .ref (am 11), .long z.up, .long z.by_, .int z.co, .int z.po, .int z.gr, .ref (am 12), .int (nI z.wr)]))], [((am 1), .inl (xI E, 25, .inl z.sg))], [((am 2), .inl (xI E, 8, .inl z.tp))], [((am 3), .inl (xI E, 120, .inl z.fr))], [((am 4), .inl (xI E, 120, .inl z.wh))], [((am 5), .inl (xI E, 120, .inl z.sn))], [((am 6), .inl (xI E, 300, .inl z.ca))], [((am 7), .inl (xI E, 120, .inl z.hd))], [((am 8), .inl (xI E, 120, .inl z.ps))], [((am 9), .inl (xI E, 120, .inl z.tm))], [((am 10), .inl (xI E, 120, .inl z.mm))], [((am 11), .inl (xJ E, 120, .inr (.inl z.se)))], [((am 12), .inl (xI E, 400, .inl z.tx))]]) hwi tyX9 tyX9_ok nmX9 0 rfl rfl 4 (by decide) (by decide +kernel) rfl rfl rfl (Nat.le_of_ble_eq_true rfl) rfl dX9_manner_66 (fun H locs M => ?_)
        refine lv_aload_n S.1 S.2.1 dX9_manner_69 rfl (lv_at hl 2 rfl) ?_
        refine lv_iconst (v := 0) S.1 S.2.1 dX9_manner_70 (by decide) ?_
        refine gput S hE M (C := RX9) (T := TX9) (N := 28) (ci := 9) (index := 58) (Gs' := [[(am 0, .inr (9, [.ref (am 1), .ref (am 2), .int 0, .int z.told, .int k, .int z.mg, .int z.jp, .int (nI z.ct), .ref (am 3), .ref (am 4), .ref (am 5), .ref (am 6), .int (nI z.sp), .ref (am 7), .ref (am 8), .ref (am 9), .ref (am 10), .int (b2i z.on), .int z.ba, .int z.bg, .ref (am 11), .long z.up, .long z.by_, .int z.co, .int z.po, .int z.gr, .ref (am 12), .int (nI z.wr)]))], [((am 1), .inl (xI E, 25, .inl z.sg))], [((am 2), .inl (xI E, 8, .inl z.tp))], [((am 3), .inl (xI E, 120, .inl z.fr))], [((am 4), .inl (xI E, 120, .inl z.wh))], [((am 5), .inl (xI E, 120, .inl z.sn))], [((am 6), .inl (xI E, 300, .inl z.ca))], [((am 7), .inl (xI E, 120, .inl z.hd))], [((am 8), .inl (xI E, 120, .inl z.ps))], [((am 9), .inl (xI E, 120, .inl z.tm))], [((am 10), .inl (xI E, 120, .inl z.mm))], [((am 11), .inl (xJ E, 120, .inr (.inl z.se)))], [((am 12), .inl (xI E, 400, .inl z.tx))]]) hwi tyX9 tyX9_ok nmX9 0 rfl rfl 2 (by decide) (by decide +kernel) rfl rfl rfl (Nat.le_of_ble_eq_true rfl) rfl dX9_manner_71 (fun H locs M => ?_)
        refine lv_iload_n S.1 S.2.1 dX9_manner_74 rfl (lv_at hl 1 rfl) ?_
        have he : MdS.manner z k = (z.told, ((z.sg, z.tp, 0, z.told, k, z.mg, z.jp, z.ct, z.fr, z.wh, z.sn, z.ca, z.sp, z.hd, z.ps, z.tm, z.mm, z.on, z.ba, z.bg, z.se, z.up, z.by_, z.co, z.po, z.gr, z.tx, z.wr) : MdS)) := by unfold MdS.manner leastN greatN; rw [if_neg c8, if_pos c14, if_pos c14, if_neg c53] <;> rfl
        exact giret S hr hlk M (by rw [he]) (by rw [he]; rfl) dX9_manner_75
      ·
        refine lv_bipush (v := (-2)) S.1 S.2.1 dX9_manner_56 (by decide) ?_
        have he : MdS.manner z k = ((-2), z) := by unfold MdS.manner leastN greatN; rw [if_neg c8, if_pos c14, if_pos c14, if_pos c53] <;> rfl
        exact giret S hr hlk M (by rw [he]) (by rw [he]; rfl) dX9_manner_58
  ·
    refine lv_iconst (v := (-1)) S.1 S.2.1 dX9_manner_11 (by decide) ?_
    have he : MdS.manner z k = ((-1), z) := by unfold MdS.manner; rw [if_pos c8] <;> rfl
    exact giret S hr hlk M (by rw [he]) (by rw [he]; rfl) dX9_manner_12

set_option maxHeartbeats 4000000 in
set_option maxRecDepth 100000 in
theorem c_X9_margin (l : Launch) (E : xE) (am : Nat → Nat) (z : MdS) (v : Int32) : mI l yX9_margin wsX9_margin (xrm 1 22) E [.ref (am 0), .int v] (modGs E am z) ((MdS.margin z v).1) (modGs E am ((MdS.margin z v).2)) := by
  intro sz
  refine Met.ofW (cc := cX9_margin) (maxL := 3) (ret := (some .int)) (by decide +kernel) rfl ?_
  intro vp ve s vm args below meth vc s₁ B hml hv
  obtain ⟨rfl, S, hr, hlk, hnm, A, hA, hE, M⟩ := genter B hml hv
  rw [hA]
  obtain ⟨ls, hfr, hl⟩ := gst (m := vm) (as := [.ref (am 0), .int v]) (n := 3) (Nat.le_of_ble_eq_true rfl)
  rw [hfr]
  clear hfr hA
  have hl : lv_has ls 3 [(0, .ref (am 0)), (1, .int v)] := hl
  have M : gM E A s.heap [[(am 0, .inr (9, [.ref (am 1), .ref (am 2), .int (nI z.tn), .int z.mn, .int z.mk, .int z.mg, .int z.jp, .int (nI z.ct), .ref (am 3), .ref (am 4), .ref (am 5), .ref (am 6), .int (nI z.sp), .ref (am 7), .ref (am 8), .ref (am 9), .ref (am 10), .int (b2i z.on), .int z.ba, .int z.bg, .ref (am 11), .long z.up, .long z.by_, .int z.co, .int z.po, .int z.gr, .ref (am 12), .int (nI z.wr)]))], [((am 1), .inl (xI E, 25, .inl z.sg))], [((am 2), .inl (xI E, 8, .inl z.tp))], [((am 3), .inl (xI E, 120, .inl z.fr))], [((am 4), .inl (xI E, 120, .inl z.wh))], [((am 5), .inl (xI E, 120, .inl z.sn))], [((am 6), .inl (xI E, 300, .inl z.ca))], [((am 7), .inl (xI E, 120, .inl z.hd))], [((am 8), .inl (xI E, 120, .inl z.ps))], [((am 9), .inl (xI E, 120, .inl z.tm))], [((am 10), .inl (xI E, 120, .inl z.mm))], [((am 11), .inl (xJ E, 120, .inr (.inl z.se)))], [((am 12), .inl (xI E, 400, .inl z.tx))]] s.heap [] := M
  have hwi : ∀ w ∈ u_ws RX9 TX9 28, w ∈ wsX9_margin := by decide +kernel
  refine lv_iload_n S.1 S.2.1 dX9_margin_0 rfl (lv_at hl 1 rfl) ?_
  refine lv_iconst (v := 0) S.1 S.2.1 dX9_margin_1 (by decide) ?_
  refine lv_sipush (v := 200) S.1 S.2.1 dX9_margin_2 (by decide) ?_
  refine gcalli (L := []) (Mid := []) (Rr := [[(am 0, .inr (9, [.ref (am 1), .ref (am 2), .int (nI z.tn), .int z.mn, .int z.mk, .int z.mg, .int z.jp, .int (nI z.ct), .ref (am 3), .ref (am 4), .ref (am 5), .ref (am 6), .int (nI z.sp), .ref (am 7), .ref (am 8), .ref (am 9), .ref (am 10), .int (b2i z.on), .int z.ba, .int z.bg, .ref (am 11), .long z.up, .long z.by_, .int z.co, .int z.po, .int z.gr, .ref (am 12), .int (nI z.wr)]))], [((am 1), .inl (xI E, 25, .inl z.sg))], [((am 2), .inl (xI E, 8, .inl z.tp))], [((am 3), .inl (xI E, 120, .inl z.fr))], [((am 4), .inl (xI E, 120, .inl z.wh))], [((am 5), .inl (xI E, 120, .inl z.sn))], [((am 6), .inl (xI E, 300, .inl z.ca))], [((am 7), .inl (xI E, 120, .inl z.hd))], [((am 8), .inl (xI E, 120, .inl z.ps))], [((am 9), .inl (xI E, 120, .inl z.tm))], [((am 10), .inl (xI E, 120, .inl z.mm))], [((am 11), .inl (xJ E, 120, .inr (.inl z.se)))], [((am 12), .inl (xI E, 400, .inl z.tx))]]) (Mid' := []) hE M rfl (rfl) (rfl) (fun hp => va_runS (As := [.int v, .int 0, .int 200]) (rest := []) S (c_X9_within l E v 0 200 _) (va_cwS 3 S.2.2.2.2 gX9_margin_X9_within rfl rfl rfl kd_X9_within.2 ⟨Nat.le_of_ble_eq_true rfl, Nat.le_of_ble_eq_true rfl⟩) hp.S rfl rfl hl.1 rfl (lv_room (Nat.le_of_ble_eq_true rfl)) dX9_margin_5 ⟨Nat.zero_le _, Nat.zero_le _⟩) (fun H locs M => ?_)
  have M : gM E A s.heap [[(am 0, .inr (9, [.ref (am 1), .ref (am 2), .int (nI z.tn), .int z.mn, .int z.mk, .int z.mg, .int z.jp, .int (nI z.ct), .ref (am 3), .ref (am 4), .ref (am 5), .ref (am 6), .int (nI z.sp), .ref (am 7), .ref (am 8), .ref (am 9), .ref (am 10), .int (b2i z.on), .int z.ba, .int z.bg, .ref (am 11), .long z.up, .long z.by_, .int z.co, .int z.po, .int z.gr, .ref (am 12), .int (nI z.wr)]))], [((am 1), .inl (xI E, 25, .inl z.sg))], [((am 2), .inl (xI E, 8, .inl z.tp))], [((am 3), .inl (xI E, 120, .inl z.fr))], [((am 4), .inl (xI E, 120, .inl z.wh))], [((am 5), .inl (xI E, 120, .inl z.sn))], [((am 6), .inl (xI E, 300, .inl z.ca))], [((am 7), .inl (xI E, 120, .inl z.hd))], [((am 8), .inl (xI E, 120, .inl z.ps))], [((am 9), .inl (xI E, 120, .inl z.tm))], [((am 10), .inl (xI E, 120, .inl z.mm))], [((am 11), .inl (xJ E, 120, .inr (.inl z.se)))], [((am 12), .inl (xI E, 400, .inl z.tx))]] H locs := M
  refine lv_if_ne (tgt := 14) S.1 S.2.1 dX9_margin_8 (by decide) (fun c8 => ?_) (fun c8 => ?_)
  ·
    refine lv_aload_n S.1 S.2.1 dX9_margin_14 rfl (lv_at hl 0 rfl) ?_
    refine gget S hE M (C := RX9) (T := TX9) (N := 28) (ci := 9) (index := 72) hwi 0 rfl rfl 5 (by decide) (by decide +kernel) rfl dX9_margin_15 ?_
    refine lv_istore_n (lv' := [(2, .int z.mg), (0, .ref (am 0)), (1, .int v)]) S.1 S.2.1 dX9_margin_18 rfl hl (by decide) rfl (fun ls hl => ?_)
    refine lv_aload_n S.1 S.2.1 dX9_margin_19 rfl (lv_at hl 1 rfl) ?_
    refine lv_iload_n S.1 S.2.1 dX9_margin_20 rfl (lv_at hl 2 rfl) ?_
    refine gput S hE M (C := RX9) (T := TX9) (N := 28) (ci := 9) (index := 72) (Gs' := [[(am 0, .inr (9, [.ref (am 1), .ref (am 2), .int (nI z.tn), .int z.mn, .int z.mk, .int v, .int z.jp, .int (nI z.ct), .ref (am 3), .ref (am 4), .ref (am 5), .ref (am 6), .int (nI z.sp), .ref (am 7), .ref (am 8), .ref (am 9), .ref (am 10), .int (b2i z.on), .int z.ba, .int z.bg, .ref (am 11), .long z.up, .long z.by_, .int z.co, .int z.po, .int z.gr, .ref (am 12), .int (nI z.wr)]))], [((am 1), .inl (xI E, 25, .inl z.sg))], [((am 2), .inl (xI E, 8, .inl z.tp))], [((am 3), .inl (xI E, 120, .inl z.fr))], [((am 4), .inl (xI E, 120, .inl z.wh))], [((am 5), .inl (xI E, 120, .inl z.sn))], [((am 6), .inl (xI E, 300, .inl z.ca))], [((am 7), .inl (xI E, 120, .inl z.hd))], [((am 8), .inl (xI E, 120, .inl z.ps))], [((am 9), .inl (xI E, 120, .inl z.tm))], [((am 10), .inl (xI E, 120, .inl z.mm))], [((am 11), .inl (xJ E, 120, .inr (.inl z.se)))], [((am 12), .inl (xI E, 400, .inl z.tx))]]) hwi tyX9 tyX9_ok nmX9 0 rfl rfl 5 (by decide) (by decide +kernel) rfl rfl rfl (Nat.le_of_ble_eq_true rfl) rfl dX9_margin_21 (fun H locs M => ?_)
    refine lv_iload_n S.1 S.2.1 dX9_margin_24 rfl (lv_at hl 0 rfl) ?_
    have he : MdS.margin z v = (z.mg, ((z.sg, z.tp, z.tn, z.mn, z.mk, v, z.jp, z.ct, z.fr, z.wh, z.sn, z.ca, z.sp, z.hd, z.ps, z.tm, z.mm, z.on, z.ba, z.bg, z.se, z.up, z.by_, z.co, z.po, z.gr, z.tx, z.wr) : MdS)) := by unfold MdS.margin; rw [if_neg c8] <;> rfl
    exact giret S hr hlk M (by rw [he]) (by rw [he]; rfl) dX9_margin_25
  ·
    refine lv_bipush (v := (-2)) S.1 S.2.1 dX9_margin_11 (by decide) ?_
    have he : MdS.margin z v = ((-2), z) := by unfold MdS.margin; rw [if_pos c8] <;> rfl
    exact giret S hr hlk M (by rw [he]) (by rw [he]; rfl) dX9_margin_13

set_option maxHeartbeats 4000000 in
set_option maxRecDepth 100000 in
theorem c_X9_jump (l : Launch) (E : xE) (am : Nat → Nat) (z : MdS) (v : Int32) : mI l yX9_jump wsX9_jump (xrm 1 22) E [.ref (am 0), .int v] (modGs E am z) ((MdS.jump z v).1) (modGs E am ((MdS.jump z v).2)) := by
  intro sz
  refine Met.ofW (cc := cX9_jump) (maxL := 3) (ret := (some .int)) (by decide +kernel) rfl ?_
  intro vp ve s vm args below meth vc s₁ B hml hv
  obtain ⟨rfl, S, hr, hlk, hnm, A, hA, hE, M⟩ := genter B hml hv
  rw [hA]
  obtain ⟨ls, hfr, hl⟩ := gst (m := vm) (as := [.ref (am 0), .int v]) (n := 3) (Nat.le_of_ble_eq_true rfl)
  rw [hfr]
  clear hfr hA
  have hl : lv_has ls 3 [(0, .ref (am 0)), (1, .int v)] := hl
  have M : gM E A s.heap [[(am 0, .inr (9, [.ref (am 1), .ref (am 2), .int (nI z.tn), .int z.mn, .int z.mk, .int z.mg, .int z.jp, .int (nI z.ct), .ref (am 3), .ref (am 4), .ref (am 5), .ref (am 6), .int (nI z.sp), .ref (am 7), .ref (am 8), .ref (am 9), .ref (am 10), .int (b2i z.on), .int z.ba, .int z.bg, .ref (am 11), .long z.up, .long z.by_, .int z.co, .int z.po, .int z.gr, .ref (am 12), .int (nI z.wr)]))], [((am 1), .inl (xI E, 25, .inl z.sg))], [((am 2), .inl (xI E, 8, .inl z.tp))], [((am 3), .inl (xI E, 120, .inl z.fr))], [((am 4), .inl (xI E, 120, .inl z.wh))], [((am 5), .inl (xI E, 120, .inl z.sn))], [((am 6), .inl (xI E, 300, .inl z.ca))], [((am 7), .inl (xI E, 120, .inl z.hd))], [((am 8), .inl (xI E, 120, .inl z.ps))], [((am 9), .inl (xI E, 120, .inl z.tm))], [((am 10), .inl (xI E, 120, .inl z.mm))], [((am 11), .inl (xJ E, 120, .inr (.inl z.se)))], [((am 12), .inl (xI E, 400, .inl z.tx))]] s.heap [] := M
  have hwi : ∀ w ∈ u_ws RX9 TX9 28, w ∈ wsX9_jump := by decide +kernel
  refine lv_iload_n S.1 S.2.1 dX9_jump_0 rfl (lv_at hl 1 rfl) ?_
  refine lv_bipush (v := 10) S.1 S.2.1 dX9_jump_1 (by decide) ?_
  refine lv_sipush (v := 1000) S.1 S.2.1 dX9_jump_3 (by decide) ?_
  refine gcalli (L := []) (Mid := []) (Rr := [[(am 0, .inr (9, [.ref (am 1), .ref (am 2), .int (nI z.tn), .int z.mn, .int z.mk, .int z.mg, .int z.jp, .int (nI z.ct), .ref (am 3), .ref (am 4), .ref (am 5), .ref (am 6), .int (nI z.sp), .ref (am 7), .ref (am 8), .ref (am 9), .ref (am 10), .int (b2i z.on), .int z.ba, .int z.bg, .ref (am 11), .long z.up, .long z.by_, .int z.co, .int z.po, .int z.gr, .ref (am 12), .int (nI z.wr)]))], [((am 1), .inl (xI E, 25, .inl z.sg))], [((am 2), .inl (xI E, 8, .inl z.tp))], [((am 3), .inl (xI E, 120, .inl z.fr))], [((am 4), .inl (xI E, 120, .inl z.wh))], [((am 5), .inl (xI E, 120, .inl z.sn))], [((am 6), .inl (xI E, 300, .inl z.ca))], [((am 7), .inl (xI E, 120, .inl z.hd))], [((am 8), .inl (xI E, 120, .inl z.ps))], [((am 9), .inl (xI E, 120, .inl z.tm))], [((am 10), .inl (xI E, 120, .inl z.mm))], [((am 11), .inl (xJ E, 120, .inr (.inl z.se)))], [((am 12), .inl (xI E, 400, .inl z.tx))]]) (Mid' := []) hE M rfl (rfl) (rfl) (fun hp => va_runS (As := [.int v, .int 10, .int 1000]) (rest := []) S (c_X9_within l E v 10 1000 _) (va_cwS 3 S.2.2.2.2 gX9_jump_X9_within rfl rfl rfl kd_X9_within.2 ⟨Nat.le_of_ble_eq_true rfl, Nat.le_of_ble_eq_true rfl⟩) hp.S rfl rfl hl.1 rfl (lv_room (Nat.le_of_ble_eq_true rfl)) dX9_jump_6 ⟨Nat.zero_le _, Nat.zero_le _⟩) (fun H locs M => ?_)
  have M : gM E A s.heap [[(am 0, .inr (9, [.ref (am 1), .ref (am 2), .int (nI z.tn), .int z.mn, .int z.mk, .int z.mg, .int z.jp, .int (nI z.ct), .ref (am 3), .ref (am 4), .ref (am 5), .ref (am 6), .int (nI z.sp), .ref (am 7), .ref (am 8), .ref (am 9), .ref (am 10), .int (b2i z.on), .int z.ba, .int z.bg, .ref (am 11), .long z.up, .long z.by_, .int z.co, .int z.po, .int z.gr, .ref (am 12), .int (nI z.wr)]))], [((am 1), .inl (xI E, 25, .inl z.sg))], [((am 2), .inl (xI E, 8, .inl z.tp))], [((am 3), .inl (xI E, 120, .inl z.fr))], [((am 4), .inl (xI E, 120, .inl z.wh))], [((am 5), .inl (xI E, 120, .inl z.sn))], [((am 6), .inl (xI E, 300, .inl z.ca))], [((am 7), .inl (xI E, 120, .inl z.hd))], [((am 8), .inl (xI E, 120, .inl z.ps))], [((am 9), .inl (xI E, 120, .inl z.tm))], [((am 10), .inl (xI E, 120, .inl z.mm))], [((am 11), .inl (xJ E, 120, .inr (.inl z.se)))], [((am 12), .inl (xI E, 400, .inl z.tx))]] H locs := M
  refine lv_if_ne (tgt := 15) S.1 S.2.1 dX9_jump_9 (by decide) (fun c9 => ?_) (fun c9 => ?_)
  ·
    refine lv_aload_n S.1 S.2.1 dX9_jump_15 rfl (lv_at hl 0 rfl) ?_
    refine gget S hE M (C := RX9) (T := TX9) (N := 28) (ci := 9) (index := 20) hwi 0 rfl rfl 6 (by decide) (by decide +kernel) rfl dX9_jump_16 ?_
    refine lv_istore_n (lv' := [(2, .int z.jp), (0, .ref (am 0)), (1, .int v)]) S.1 S.2.1 dX9_jump_19 rfl hl (by decide) rfl (fun ls hl => ?_)
    refine lv_aload_n S.1 S.2.1 dX9_jump_20 rfl (lv_at hl 1 rfl) ?_
    refine lv_iload_n S.1 S.2.1 dX9_jump_21 rfl (lv_at hl 2 rfl) ?_
    refine gput S hE M (C := RX9) (T := TX9) (N := 28) (ci := 9) (index := 20) (Gs' := [[(am 0, .inr (9, [.ref (am 1), .ref (am 2), .int (nI z.tn), .int z.mn, .int z.mk, .int z.mg, .int v, .int (nI z.ct), .ref (am 3), .ref (am 4), .ref (am 5), .ref (am 6), .int (nI z.sp), .ref (am 7), .ref (am 8), .ref (am 9), .ref (am 10), .int (b2i z.on), .int z.ba, .int z.bg, .ref (am 11), .long z.up, .long z.by_, .int z.co, .int z.po, .int z.gr, .ref (am 12), .int (nI z.wr)]))], [((am 1), .inl (xI E, 25, .inl z.sg))], [((am 2), .inl (xI E, 8, .inl z.tp))], [((am 3), .inl (xI E, 120, .inl z.fr))], [((am 4), .inl (xI E, 120, .inl z.wh))], [((am 5), .inl (xI E, 120, .inl z.sn))], [((am 6), .inl (xI E, 300, .inl z.ca))], [((am 7), .inl (xI E, 120, .inl z.hd))], [((am 8), .inl (xI E, 120, .inl z.ps))], [((am 9), .inl (xI E, 120, .inl z.tm))], [((am 10), .inl (xI E, 120, .inl z.mm))], [((am 11), .inl (xJ E, 120, .inr (.inl z.se)))], [((am 12), .inl (xI E, 400, .inl z.tx))]]) hwi tyX9 tyX9_ok nmX9 0 rfl rfl 6 (by decide) (by decide +kernel) rfl rfl rfl (Nat.le_of_ble_eq_true rfl) rfl dX9_jump_22 (fun H locs M => ?_)
    refine lv_iload_n S.1 S.2.1 dX9_jump_25 rfl (lv_at hl 0 rfl) ?_
    have he : MdS.jump z v = (z.jp, ((z.sg, z.tp, z.tn, z.mn, z.mk, z.mg, v, z.ct, z.fr, z.wh, z.sn, z.ca, z.sp, z.hd, z.ps, z.tm, z.mm, z.on, z.ba, z.bg, z.se, z.up, z.by_, z.co, z.po, z.gr, z.tx, z.wr) : MdS)) := by unfold MdS.jump; rw [if_neg c9] <;> rfl
    exact giret S hr hlk M (by rw [he]) (by rw [he]; rfl) dX9_jump_26
  ·
    refine lv_bipush (v := (-2)) S.1 S.2.1 dX9_jump_12 (by decide) ?_
    have he : MdS.jump z v = ((-2), z) := by unfold MdS.jump; rw [if_pos c9] <;> rfl
    exact giret S hr hlk M (by rw [he]) (by rw [he]; rfl) dX9_jump_14

set_option maxHeartbeats 4000000 in
set_option maxRecDepth 100000 in
theorem c_X9_delay (l : Launch) (E : xE) (am : Nat → Nat) (z : MdS) (a : Nat) (ha : a < 120) : mI l yX9_delay wsX9_delay (xrm 0 0) E [.ref (am 0), .int (nI a)] (modGs E am z) (z.dl a) (modGs E am z) := by
  intro sz
  refine Met.ofW (cc := cX9_delay) (maxL := 2) (ret := (some .int)) (by decide +kernel) rfl ?_
  intro vp ve s vm args below meth vc s₁ B hml hv
  obtain ⟨rfl, S, hr, hlk, hnm, A, hA, hE, M⟩ := genter B hml hv
  rw [hA]
  obtain ⟨ls, hfr, hl⟩ := gst (m := vm) (as := [.ref (am 0), .int (nI a)]) (n := 2) (Nat.le_of_ble_eq_true rfl)
  rw [hfr]
  clear hfr hA
  have hl : lv_has ls 2 [(0, .ref (am 0)), (1, .int (nI a))] := hl
  have M : gM E A s.heap [[(am 0, .inr (9, [.ref (am 1), .ref (am 2), .int (nI z.tn), .int z.mn, .int z.mk, .int z.mg, .int z.jp, .int (nI z.ct), .ref (am 3), .ref (am 4), .ref (am 5), .ref (am 6), .int (nI z.sp), .ref (am 7), .ref (am 8), .ref (am 9), .ref (am 10), .int (b2i z.on), .int z.ba, .int z.bg, .ref (am 11), .long z.up, .long z.by_, .int z.co, .int z.po, .int z.gr, .ref (am 12), .int (nI z.wr)]))], [((am 1), .inl (xI E, 25, .inl z.sg))], [((am 2), .inl (xI E, 8, .inl z.tp))], [((am 3), .inl (xI E, 120, .inl z.fr))], [((am 4), .inl (xI E, 120, .inl z.wh))], [((am 5), .inl (xI E, 120, .inl z.sn))], [((am 6), .inl (xI E, 300, .inl z.ca))], [((am 7), .inl (xI E, 120, .inl z.hd))], [((am 8), .inl (xI E, 120, .inl z.ps))], [((am 9), .inl (xI E, 120, .inl z.tm))], [((am 10), .inl (xI E, 120, .inl z.mm))], [((am 11), .inl (xJ E, 120, .inr (.inl z.se)))], [((am 12), .inl (xI E, 400, .inl z.tx))]] s.heap [] := M
  have hwi : ∀ w ∈ u_ws RX9 TX9 28, w ∈ wsX9_delay := by decide +kernel
  refine lv_aload_n S.1 S.2.1 dX9_delay_0 rfl (lv_at hl 0 rfl) ?_
  refine gget S hE M (C := RX9) (T := TX9) (N := 28) (ci := 9) (index := 26) hwi 0 rfl rfl 9 (by decide) (by decide +kernel) rfl dX9_delay_1 ?_
  refine lv_iload_n S.1 S.2.1 dX9_delay_4 rfl (lv_at hl 1 rfl) ?_
  refine giald S hE M 4 rfl (vp_in_nI (by omega) (by omega)) dX9_delay_5 ?_
  refine gtop (x' := z.wh a) (by rw [nI_clamp (by omega)]) ?_
  refine lv_bipush (v := 20) S.1 S.2.1 dX9_delay_6 (by decide) ?_
  refine lv_aload_n S.1 S.2.1 dX9_delay_8 rfl (lv_at hl 0 rfl) ?_
  refine gget S hE M (C := RX9) (T := TX9) (N := 28) (ci := 9) (index := 23) hwi 0 rfl rfl 8 (by decide) (by decide +kernel) rfl dX9_delay_9 ?_
  refine lv_iload_n S.1 S.2.1 dX9_delay_12 rfl (lv_at hl 1 rfl) ?_
  refine giald S hE M 3 rfl (vp_in_nI (by omega) (by omega)) dX9_delay_13 ?_
  refine gtop (x' := z.fr a) (by rw [nI_clamp (by omega)]) ?_
  refine lv_imul S.1 S.2.1 dX9_delay_14 ?_
  refine lv_isub S.1 S.2.1 dX9_delay_15 ?_
  exact giret S hr hlk M (rfl) (rfl) dX9_delay_16

set_option maxHeartbeats 4000000 in
set_option maxRecDepth 100000 in
theorem c_X9_spurtBy (l : Launch) (E : xE) (am : Nat → Nat) (z : MdS) (h : Int32) (hs : z.sp ≤ 120) : mI l yX9_spurtBy wsX9_spurtBy (xrm 0 0) E [.ref (am 0), .int h] (modGs E am z) (z.spurtBy h) (modGs E am z) := by
  intro sz
  refine Met.ofW (cc := cX9_spurtBy) (maxL := 3) (ret := (some .int)) (by decide +kernel) rfl ?_
  intro vp ve s vm args below meth vc s₁ B hml hv
  obtain ⟨rfl, S, hr, hlk, hnm, A, hA, hE, M⟩ := genter B hml hv
  rw [hA]
  obtain ⟨ls, hfr, hl⟩ := gst (m := vm) (as := [.ref (am 0), .int h]) (n := 3) (Nat.le_of_ble_eq_true rfl)
  rw [hfr]
  clear hfr hA
  have hl : lv_has ls 3 [(0, .ref (am 0)), (1, .int h)] := hl
  have M : gM E A s.heap [[(am 0, .inr (9, [.ref (am 1), .ref (am 2), .int (nI z.tn), .int z.mn, .int z.mk, .int z.mg, .int z.jp, .int (nI z.ct), .ref (am 3), .ref (am 4), .ref (am 5), .ref (am 6), .int (nI z.sp), .ref (am 7), .ref (am 8), .ref (am 9), .ref (am 10), .int (b2i z.on), .int z.ba, .int z.bg, .ref (am 11), .long z.up, .long z.by_, .int z.co, .int z.po, .int z.gr, .ref (am 12), .int (nI z.wr)]))], [((am 1), .inl (xI E, 25, .inl z.sg))], [((am 2), .inl (xI E, 8, .inl z.tp))], [((am 3), .inl (xI E, 120, .inl z.fr))], [((am 4), .inl (xI E, 120, .inl z.wh))], [((am 5), .inl (xI E, 120, .inl z.sn))], [((am 6), .inl (xI E, 300, .inl z.ca))], [((am 7), .inl (xI E, 120, .inl z.hd))], [((am 8), .inl (xI E, 120, .inl z.ps))], [((am 9), .inl (xI E, 120, .inl z.tm))], [((am 10), .inl (xI E, 120, .inl z.mm))], [((am 11), .inl (xJ E, 120, .inr (.inl z.se)))], [((am 12), .inl (xI E, 400, .inl z.tx))]] s.heap [] := M
  have hwi : ∀ w ∈ u_ws RX9 TX9 28, w ∈ wsX9_spurtBy := by decide +kernel
  obtain ⟨Q, hQ⟩ : ∃ Q : State → Prop, MQ below (va_Qi (fun x (_ : Unit) => x = (z.spurtBy h)) (fun _ => kQ E A (modGs E am z)) A) ([.ref (am 0), .int h] : List Value).toArray s 0 0 A = Q := ⟨_, rfl⟩
  rw [hQ]
  have hL : ∀ (n : Nat), ∀ (i : Nat), i + n = z.sp → z.spurtBy h = fnd z.hd h (-9) n i → ∀ (H : Heap) (locs : List Loc), gM E A s.heap [[(am 0, .inr (9, [.ref (am 1), .ref (am 2), .int (nI z.tn), .int z.mn, .int z.mk, .int z.mg, .int z.jp, .int (nI z.ct), .ref (am 3), .ref (am 4), .ref (am 5), .ref (am 6), .int (nI z.sp), .ref (am 7), .ref (am 8), .ref (am 9), .ref (am 10), .int (b2i z.on), .int z.ba, .int z.bg, .ref (am 11), .long z.up, .long z.by_, .int z.co, .int z.po, .int z.gr, .ref (am 12), .int (nI z.wr)]))], [((am 1), .inl (xI E, 25, .inl z.sg))], [((am 2), .inl (xI E, 8, .inl z.tp))], [((am 3), .inl (xI E, 120, .inl z.fr))], [((am 4), .inl (xI E, 120, .inl z.wh))], [((am 5), .inl (xI E, 120, .inl z.sn))], [((am 6), .inl (xI E, 300, .inl z.ca))], [((am 7), .inl (xI E, 120, .inl z.hd))], [((am 8), .inl (xI E, 120, .inl z.ps))], [((am 9), .inl (xI E, 120, .inl z.tm))], [((am 10), .inl (xI E, 120, .inl z.mm))], [((am 11), .inl (xJ E, 120, .inr (.inl z.se)))], [((am 12), .inl (xI E, 400, .inl z.tx))]] H locs → ∀ ls : Array Slot, lv_has ls 3 [(0, .ref (am 0)), (1, .int h), (2, .int (nI i))] → W vp l ve (headSpec wsX9_spurtBy (xrm 0 0)).room s vm ([.ref (am 0), .int h] : List Value).toArray below meth vc H locs 0 0 Q (F0 vm 2 ls []) := by
    intro n
    induction n with
    | zero =>
      intro i hi hI H locs M ls hl
      refine lv_iload_n S.1 S.2.1 dX9_spurtBy_2 rfl (lv_at hl 2 rfl) ?_
      refine lv_aload_n S.1 S.2.1 dX9_spurtBy_3 rfl (lv_at hl 0 rfl) ?_
      refine gget S hE M (C := RX9) (T := TX9) (N := 28) (ci := 9) (index := 75) hwi 0 rfl rfl 12 (by decide) (by decide +kernel) rfl dX9_spurtBy_4 ?_
      refine lv_icmp_ge (tgt := 28) S.1 S.2.1 dX9_spurtBy_7 (by decide) (fun _ => ?_) (fun c_ => absurd (nI_le (by omega) (by omega)) c_)
      refine lv_bipush (v := (-9)) S.1 S.2.1 dX9_spurtBy_28 (by decide) ?_
      rw [← hQ]
      exact giret S hr hlk M (by rw [hI, fnd]) (rfl) dX9_spurtBy_30
    | succ n ih =>
      intro i hi hI H locs M ls hl
      refine lv_iload_n S.1 S.2.1 dX9_spurtBy_2 rfl (lv_at hl 2 rfl) ?_
      refine lv_aload_n S.1 S.2.1 dX9_spurtBy_3 rfl (lv_at hl 0 rfl) ?_
      refine gget S hE M (C := RX9) (T := TX9) (N := 28) (ci := 9) (index := 75) hwi 0 rfl rfl 12 (by decide) (by decide +kernel) rfl dX9_spurtBy_4 ?_
      refine lv_icmp_ge (tgt := 28) S.1 S.2.1 dX9_spurtBy_7 (by decide) (fun c_ => absurd c_ (nI_ge (by omega) (by omega))) (fun _ => ?_)
      refine lv_aload_n S.1 S.2.1 dX9_spurtBy_10 rfl (lv_at hl 0 rfl) ?_
      refine gget S hE M (C := RX9) (T := TX9) (N := 28) (ci := 9) (index := 35) hwi 0 rfl rfl 13 (by decide) (by decide +kernel) rfl dX9_spurtBy_11 ?_
      refine lv_iload_n S.1 S.2.1 dX9_spurtBy_14 rfl (lv_at hl 2 rfl) ?_
      refine giald S hE M 7 rfl (vp_in_nI (by omega) (by omega)) dX9_spurtBy_15 ?_
      refine gtop (x' := z.hd i) (by rw [nI_clamp (by omega)]) ?_
      refine lv_iload_n S.1 S.2.1 dX9_spurtBy_16 rfl (lv_at hl 1 rfl) ?_
      refine lv_icmp_ne (tgt := 22) S.1 S.2.1 dX9_spurtBy_17 (by decide) (fun c17 => ?_) (fun c17 => ?_)
      ·
        refine lv_iinc (v := nI (i + 1)) (lv' := [(2, .int (nI (i + 1))), (0, .ref (am 0)), (1, .int h)]) S.1 S.2.1 dX9_spurtBy_22 hl (k := 2) rfl (nI_1 _) (by decide) rfl (fun ls hl => ?_)
        refine lv_goto (tgt := 2) S.1 S.2.1 dX9_spurtBy_25 (by decide) ?_
        exact ih (i + 1) (by omega) (by rw [hI, fnd, if_neg c17]) _ _ M ls (lv_sub hl [1, 2, 0] rfl)
      ·
        refine lv_iload_n S.1 S.2.1 dX9_spurtBy_20 rfl (lv_at hl 2 rfl) ?_
        rw [← hQ]
        exact giret S hr hlk M (by rw [hI, fnd, if_pos c17]) (rfl) dX9_spurtBy_21
  refine lv_iconst (v := 0) S.1 S.2.1 dX9_spurtBy_0 (by decide) ?_
  refine lv_istore_n (lv' := [(2, .int 0), (0, .ref (am 0)), (1, .int h)]) S.1 S.2.1 dX9_spurtBy_1 rfl hl (by decide) rfl (fun ls hl => ?_)
  exact hL z.sp 0 (by omega) rfl _ _ M ls (lv_sub hl [1, 2, 0] rfl)

set_option maxHeartbeats 4000000 in
set_option maxRecDepth 100000 in
theorem c_X9_isInTheWay (l : Launch) (E : xE) (am : Nat → Nat) (z : MdS) (k : Nat) (n : Int32) (h : Int32) (p : Int32) (hk : k < 120) (hc : z.ct ≤ 120) : mI l yX9_isInTheWay wsX9_isInTheWay (xrm 0 0) E [.ref (am 0), .int (nI k), .int n, .int h, .int p] (modGs E am z) (z.way k n h p) (modGs E am z) := by
  intro sz
  refine Met.ofW (cc := cX9_isInTheWay) (maxL := 6) (ret := (some .boolean)) (by decide +kernel) rfl ?_
  intro vp ve s vm args below meth vc s₁ B hml hv
  obtain ⟨rfl, S, hr, hlk, hnm, A, hA, hE, M⟩ := genter B hml hv
  rw [hA]
  obtain ⟨ls, hfr, hl⟩ := gst (m := vm) (as := [.ref (am 0), .int (nI k), .int n, .int h, .int p]) (n := 6) (Nat.le_of_ble_eq_true rfl)
  rw [hfr]
  clear hfr hA
  have hl : lv_has ls 6 [(0, .ref (am 0)), (1, .int (nI k)), (2, .int n), (3, .int h), (4, .int p)] := hl
  have M : gM E A s.heap [[(am 0, .inr (9, [.ref (am 1), .ref (am 2), .int (nI z.tn), .int z.mn, .int z.mk, .int z.mg, .int z.jp, .int (nI z.ct), .ref (am 3), .ref (am 4), .ref (am 5), .ref (am 6), .int (nI z.sp), .ref (am 7), .ref (am 8), .ref (am 9), .ref (am 10), .int (b2i z.on), .int z.ba, .int z.bg, .ref (am 11), .long z.up, .long z.by_, .int z.co, .int z.po, .int z.gr, .ref (am 12), .int (nI z.wr)]))], [((am 1), .inl (xI E, 25, .inl z.sg))], [((am 2), .inl (xI E, 8, .inl z.tp))], [((am 3), .inl (xI E, 120, .inl z.fr))], [((am 4), .inl (xI E, 120, .inl z.wh))], [((am 5), .inl (xI E, 120, .inl z.sn))], [((am 6), .inl (xI E, 300, .inl z.ca))], [((am 7), .inl (xI E, 120, .inl z.hd))], [((am 8), .inl (xI E, 120, .inl z.ps))], [((am 9), .inl (xI E, 120, .inl z.tm))], [((am 10), .inl (xI E, 120, .inl z.mm))], [((am 11), .inl (xJ E, 120, .inr (.inl z.se)))], [((am 12), .inl (xI E, 400, .inl z.tx))]] s.heap [] := M
  have hwi : ∀ w ∈ u_ws RX9 TX9 28, w ∈ wsX9_isInTheWay := by decide +kernel
  obtain ⟨Q, hQ⟩ : ∃ Q : State → Prop, MQ below (va_Qi (fun x (_ : Unit) => x = (z.way k n h p)) (fun _ => kQ E A (modGs E am z)) A) ([.ref (am 0), .int (nI k), .int n, .int h, .int p] : List Value).toArray s 0 0 A = Q := ⟨_, rfl⟩
  rw [hQ]
  have hL : ∀ (m : Nat), ∀ (a : Nat), z.hd k ≤ h → a + m = z.ct → wayl z k h p z.ct 0 = wayl z k h p m a → ∀ (H : Heap) (locs : List Loc), gM E A s.heap [[(am 0, .inr (9, [.ref (am 1), .ref (am 2), .int (nI z.tn), .int z.mn, .int z.mk, .int z.mg, .int z.jp, .int (nI z.ct), .ref (am 3), .ref (am 4), .ref (am 5), .ref (am 6), .int (nI z.sp), .ref (am 7), .ref (am 8), .ref (am 9), .ref (am 10), .int (b2i z.on), .int z.ba, .int z.bg, .ref (am 11), .long z.up, .long z.by_, .int z.co, .int z.po, .int z.gr, .ref (am 12), .int (nI z.wr)]))], [((am 1), .inl (xI E, 25, .inl z.sg))], [((am 2), .inl (xI E, 8, .inl z.tp))], [((am 3), .inl (xI E, 120, .inl z.fr))], [((am 4), .inl (xI E, 120, .inl z.wh))], [((am 5), .inl (xI E, 120, .inl z.sn))], [((am 6), .inl (xI E, 300, .inl z.ca))], [((am 7), .inl (xI E, 120, .inl z.hd))], [((am 8), .inl (xI E, 120, .inl z.ps))], [((am 9), .inl (xI E, 120, .inl z.tm))], [((am 10), .inl (xI E, 120, .inl z.mm))], [((am 11), .inl (xJ E, 120, .inr (.inl z.se)))], [((am 12), .inl (xI E, 400, .inl z.tx))]] H locs → ∀ ls : Array Slot, lv_has ls 6 [(0, .ref (am 0)), (1, .int (nI k)), (2, .int n), (3, .int h), (4, .int p), (5, .int (nI a))] → W vp l ve (headSpec wsX9_isInTheWay (xrm 0 0)).room s vm ([.ref (am 0), .int (nI k), .int n, .int h, .int p] : List Value).toArray below meth vc H locs 0 0 Q (F0 vm 36 ls []) := by
    intro m
    induction m with
    | zero =>
      intro a c7 hi hI H locs M ls hl
      refine lv_iload S.1 S.2.1 dX9_isInTheWay_36 (lv_at hl 5 rfl) ?_
      refine lv_aload_n S.1 S.2.1 dX9_isInTheWay_38 rfl (lv_at hl 0 rfl) ?_
      refine gget S hE M (C := RX9) (T := TX9) (N := 28) (ci := 9) (index := 78) hwi 0 rfl rfl 7 (by decide) (by decide +kernel) rfl dX9_isInTheWay_39 ?_
      refine lv_icmp_ge (tgt := 92) S.1 S.2.1 dX9_isInTheWay_42 (by decide) (fun _ => ?_) (fun c_ => absurd (nI_le (by omega) (by omega)) c_)
      refine lv_iconst (v := 0) S.1 S.2.1 dX9_isInTheWay_92 (by decide) ?_
      rw [← hQ]
      exact gzret S hr hlk M (rfl) (by unfold MdS.way; rw [if_pos c7, hI, wayl]) (rfl) dX9_isInTheWay_93
    | succ m ih =>
      intro a c7 hi hI H locs M ls hl
      refine lv_iload S.1 S.2.1 dX9_isInTheWay_36 (lv_at hl 5 rfl) ?_
      refine lv_aload_n S.1 S.2.1 dX9_isInTheWay_38 rfl (lv_at hl 0 rfl) ?_
      refine gget S hE M (C := RX9) (T := TX9) (N := 28) (ci := 9) (index := 78) hwi 0 rfl rfl 7 (by decide) (by decide +kernel) rfl dX9_isInTheWay_39 ?_
      refine lv_icmp_ge (tgt := 92) S.1 S.2.1 dX9_isInTheWay_42 (by decide) (fun c_ => absurd c_ (nI_ge (by omega) (by omega))) (fun _ => ?_)
      refine lv_aload_n S.1 S.2.1 dX9_isInTheWay_45 rfl (lv_at hl 0 rfl) ?_
      refine gget S hE M (C := RX9) (T := TX9) (N := 28) (ci := 9) (index := 29) hwi 0 rfl rfl 10 (by decide) (by decide +kernel) rfl dX9_isInTheWay_46 ?_
      refine lv_iload S.1 S.2.1 dX9_isInTheWay_49 (lv_at hl 5 rfl) ?_
      refine giald S hE M 5 rfl (vp_in_nI (by omega) (by omega)) dX9_isInTheWay_51 ?_
      refine gtop (x' := z.sn a) (by rw [nI_clamp (by omega)]) ?_
      refine lv_iload_n S.1 S.2.1 dX9_isInTheWay_52 rfl (lv_at hl 1 rfl) ?_
      refine lv_icmp_ne (tgt := 86) S.1 S.2.1 dX9_isInTheWay_53 (by decide) (fun c53 => ?_) (fun c53 => ?_)
      ·
        refine lv_iinc (v := nI (a + 1)) (lv' := [(5, .int (nI (a + 1))), (0, .ref (am 0)), (1, .int (nI k)), (2, .int n), (3, .int h), (4, .int p)]) S.1 S.2.1 dX9_isInTheWay_86 hl (k := 5) rfl (nI_1 _) (by decide) rfl (fun ls hl => ?_)
        refine lv_goto (tgt := 36) S.1 S.2.1 dX9_isInTheWay_89 (by decide) ?_
        exact ih (a + 1) c7 (by omega) (by rw [hI, wayl, if_neg c53]) _ _ M ls (lv_sub hl [1, 2, 3, 4, 5, 0] rfl)
      ·
        refine lv_aload_n S.1 S.2.1 dX9_isInTheWay_56 rfl (lv_at hl 0 rfl) ?_
        refine gget S hE M (C := RX9) (T := TX9) (N := 28) (ci := 9) (index := 23) hwi 0 rfl rfl 8 (by decide) (by decide +kernel) rfl dX9_isInTheWay_57 ?_
        refine lv_iload S.1 S.2.1 dX9_isInTheWay_60 (lv_at hl 5 rfl) ?_
        refine giald S hE M 3 rfl (vp_in_nI (by omega) (by omega)) dX9_isInTheWay_62 ?_
        refine gtop (x' := z.fr a) (by rw [nI_clamp (by omega)]) ?_
        refine lv_iload_n S.1 S.2.1 dX9_isInTheWay_63 rfl (lv_at hl 3 rfl) ?_
        refine lv_iload S.1 S.2.1 dX9_isInTheWay_64 (lv_at hl 4 rfl) ?_
        refine lv_isub S.1 S.2.1 dX9_isInTheWay_66 ?_
        refine lv_icmp_lt (tgt := 86) S.1 S.2.1 dX9_isInTheWay_67 (by decide) (fun c67 => ?_) (fun c67 => ?_)
        ·
          refine lv_iinc (v := nI (a + 1)) (lv' := [(5, .int (nI (a + 1))), (0, .ref (am 0)), (1, .int (nI k)), (2, .int n), (3, .int h), (4, .int p)]) S.1 S.2.1 dX9_isInTheWay_86 hl (k := 5) rfl (nI_1 _) (by decide) rfl (fun ls hl => ?_)
          refine lv_goto (tgt := 36) S.1 S.2.1 dX9_isInTheWay_89 (by decide) ?_
          exact ih (a + 1) c7 (by omega) (by rw [hI, wayl, if_pos c53, if_pos c67]) _ _ M ls (lv_sub hl [1, 2, 3, 4, 5, 0] rfl)
        ·
          refine lv_aload_n S.1 S.2.1 dX9_isInTheWay_70 rfl (lv_at hl 0 rfl) ?_
          refine gget S hE M (C := RX9) (T := TX9) (N := 28) (ci := 9) (index := 35) hwi 0 rfl rfl 13 (by decide) (by decide +kernel) rfl dX9_isInTheWay_71 ?_
          refine lv_iload_n S.1 S.2.1 dX9_isInTheWay_74 rfl (lv_at hl 1 rfl) ?_
          refine giald S hE M 7 rfl (vp_in_nI (by omega) (by omega)) dX9_isInTheWay_75 ?_
          refine gtop (x' := z.hd k) (by rw [nI_clamp (by omega)]) ?_
          refine lv_iload_n S.1 S.2.1 dX9_isInTheWay_76 rfl (lv_at hl 3 rfl) ?_
          refine lv_icmp_ge (tgt := 84) S.1 S.2.1 dX9_isInTheWay_77 (by decide) (fun c77 => ?_) (fun c77 => ?_)
          ·
            refine lv_iconst (v := 0) S.1 S.2.1 dX9_isInTheWay_84 (by decide) ?_
            rw [← hQ]
            exact gzret S hr hlk M (rfl) (by unfold MdS.way; rw [if_pos c7, hI, wayl, if_pos c53, if_neg c67, if_pos c77]) (rfl) dX9_isInTheWay_85
          ·
            refine lv_iconst (v := 1) S.1 S.2.1 dX9_isInTheWay_80 (by decide) ?_
            refine lv_goto (tgt := 85) S.1 S.2.1 dX9_isInTheWay_81 (by decide) ?_
            rw [← hQ]
            exact gzret S hr hlk M (rfl) (by unfold MdS.way; rw [if_pos c7, hI, wayl, if_pos c53, if_neg c67, if_neg c77]) (rfl) dX9_isInTheWay_85
  refine lv_aload_n S.1 S.2.1 dX9_isInTheWay_0 rfl (lv_at hl 0 rfl) ?_
  refine gget S hE M (C := RX9) (T := TX9) (N := 28) (ci := 9) (index := 35) hwi 0 rfl rfl 13 (by decide) (by decide +kernel) rfl dX9_isInTheWay_1 ?_
  refine lv_iload_n S.1 S.2.1 dX9_isInTheWay_4 rfl (lv_at hl 1 rfl) ?_
  refine giald S hE M 7 rfl (vp_in_nI (by omega) (by omega)) dX9_isInTheWay_5 ?_
  refine gtop (x' := z.hd k) (by rw [nI_clamp (by omega)]) ?_
  refine lv_iload_n S.1 S.2.1 dX9_isInTheWay_6 rfl (lv_at hl 3 rfl) ?_
  refine lv_icmp_le (tgt := 33) S.1 S.2.1 dX9_isInTheWay_7 (by decide) (fun c7 => ?_) (fun c7 => ?_)
  ·
    refine lv_iconst (v := 0) S.1 S.2.1 dX9_isInTheWay_33 (by decide) ?_
    refine lv_istore (lv' := [(5, .int 0), (0, .ref (am 0)), (1, .int (nI k)), (2, .int n), (3, .int h), (4, .int p)]) S.1 S.2.1 dX9_isInTheWay_34 hl (by decide) rfl (fun ls hl => ?_)
    exact hL z.ct 0 c7 (by omega) rfl _ _ M ls (lv_sub hl [1, 2, 3, 4, 5, 0] rfl)
  ·
    refine lv_iload_n S.1 S.2.1 dX9_isInTheWay_10 rfl (lv_at hl 2 rfl) ?_
    refine lv_aload_n S.1 S.2.1 dX9_isInTheWay_11 rfl (lv_at hl 0 rfl) ?_
    refine gget S hE M (C := RX9) (T := TX9) (N := 28) (ci := 9) (index := 35) hwi 0 rfl rfl 13 (by decide) (by decide +kernel) rfl dX9_isInTheWay_12 ?_
    refine lv_iload_n S.1 S.2.1 dX9_isInTheWay_15 rfl (lv_at hl 1 rfl) ?_
    refine giald S hE M 7 rfl (vp_in_nI (by omega) (by omega)) dX9_isInTheWay_16 ?_
    refine gtop (x' := z.hd k) (by rw [nI_clamp (by omega)]) ?_
    refine lv_aload_n S.1 S.2.1 dX9_isInTheWay_17 rfl (lv_at hl 0 rfl) ?_
    refine gget S hE M (C := RX9) (T := TX9) (N := 28) (ci := 9) (index := 38) hwi 0 rfl rfl 14 (by decide) (by decide +kernel) rfl dX9_isInTheWay_18 ?_
    refine lv_iload_n S.1 S.2.1 dX9_isInTheWay_21 rfl (lv_at hl 1 rfl) ?_
    refine giald S hE M 8 rfl (vp_in_nI (by omega) (by omega)) dX9_isInTheWay_22 ?_
    refine gtop (x' := z.ps k) (by rw [nI_clamp (by omega)]) ?_
    refine lv_isub S.1 S.2.1 dX9_isInTheWay_23 ?_
    refine lv_icmp_lt (tgt := 31) S.1 S.2.1 dX9_isInTheWay_24 (by decide) (fun c24 => ?_) (fun c24 => ?_)
    ·
      refine lv_iconst (v := 0) S.1 S.2.1 dX9_isInTheWay_31 (by decide) ?_
      rw [← hQ]
      exact gzret S hr hlk M (rfl) (by unfold MdS.way; rw [if_neg c7, if_pos c24]) (rfl) dX9_isInTheWay_32
    ·
      refine lv_iconst (v := 1) S.1 S.2.1 dX9_isInTheWay_27 (by decide) ?_
      refine lv_goto (tgt := 32) S.1 S.2.1 dX9_isInTheWay_28 (by decide) ?_
      rw [← hQ]
      exact gzret S hr hlk M (rfl) (by unfold MdS.way; rw [if_neg c7, if_neg c24]) (rfl) dX9_isInTheWay_32

set_option maxHeartbeats 4000000 in
set_option maxRecDepth 100000 in
theorem c_X9_isShut (l : Launch) (E : xE) (am : Nat → Nat) (z : MdS) (n : Int32) (h : Int32) (p : Int32) (t : Int32) (hn : vp_in n 300) (hc : z.ct ≤ 120) (hs : z.sp ≤ 120) : mI l yX9_isShut wsX9_isShut (xrm 1 25) E [.ref (am 0), .int n, .int h, .int p, .int t] (modGs E am z) (z.shut n h p t) (modGs E am z) := by
  intro sz
  refine Met.ofW (cc := cX9_isShut) (maxL := 8) (ret := (some .boolean)) (by decide +kernel) rfl ?_
  intro vp ve s vm args below meth vc s₁ B hml hv
  obtain ⟨rfl, S, hr, hlk, hnm, A, hA, hE, M⟩ := genter B hml hv
  rw [hA]
  obtain ⟨ls, hfr, hl⟩ := gst (m := vm) (as := [.ref (am 0), .int n, .int h, .int p, .int t]) (n := 8) (Nat.le_of_ble_eq_true rfl)
  rw [hfr]
  clear hfr hA
  have hl : lv_has ls 8 [(0, .ref (am 0)), (1, .int n), (2, .int h), (3, .int p), (4, .int t)] := hl
  have M : gM E A s.heap [[(am 0, .inr (9, [.ref (am 1), .ref (am 2), .int (nI z.tn), .int z.mn, .int z.mk, .int z.mg, .int z.jp, .int (nI z.ct), .ref (am 3), .ref (am 4), .ref (am 5), .ref (am 6), .int (nI z.sp), .ref (am 7), .ref (am 8), .ref (am 9), .ref (am 10), .int (b2i z.on), .int z.ba, .int z.bg, .ref (am 11), .long z.up, .long z.by_, .int z.co, .int z.po, .int z.gr, .ref (am 12), .int (nI z.wr)]))], [((am 1), .inl (xI E, 25, .inl z.sg))], [((am 2), .inl (xI E, 8, .inl z.tp))], [((am 3), .inl (xI E, 120, .inl z.fr))], [((am 4), .inl (xI E, 120, .inl z.wh))], [((am 5), .inl (xI E, 120, .inl z.sn))], [((am 6), .inl (xI E, 300, .inl z.ca))], [((am 7), .inl (xI E, 120, .inl z.hd))], [((am 8), .inl (xI E, 120, .inl z.ps))], [((am 9), .inl (xI E, 120, .inl z.tm))], [((am 10), .inl (xI E, 120, .inl z.mm))], [((am 11), .inl (xJ E, 120, .inr (.inl z.se)))], [((am 12), .inl (xI E, 400, .inl z.tx))]] s.heap [] := M
  have hwi : ∀ w ∈ u_ws RX9 TX9 28, w ∈ wsX9_isShut := by decide +kernel
  obtain ⟨Q, hQ⟩ : ∃ Q : State → Prop, MQ below (va_Qi (fun x (_ : Unit) => x = (z.shut n h p t)) (fun _ => kQ E A (modGs E am z)) A) ([.ref (am 0), .int n, .int h, .int p, .int t] : List Value).toArray s 0 0 A = Q := ⟨_, rfl⟩
  rw [hQ]
  have hL : ∀ (m : Nat), ∀ (k : Nat) (b : Bool), z.shut n h p t = z.shut1 n h p → k + m = z.sp → shl z n h p z.sp 0 (z.shut0 h p) = shl z n h p m k b → ∀ (H : Heap) (locs : List Loc), gM E A s.heap [[(am 0, .inr (9, [.ref (am 1), .ref (am 2), .int (nI z.tn), .int z.mn, .int z.mk, .int z.mg, .int z.jp, .int (nI z.ct), .ref (am 3), .ref (am 4), .ref (am 5), .ref (am 6), .int (nI z.sp), .ref (am 7), .ref (am 8), .ref (am 9), .ref (am 10), .int (b2i z.on), .int z.ba, .int z.bg, .ref (am 11), .long z.up, .long z.by_, .int z.co, .int z.po, .int z.gr, .ref (am 12), .int (nI z.wr)]))], [((am 1), .inl (xI E, 25, .inl z.sg))], [((am 2), .inl (xI E, 8, .inl z.tp))], [((am 3), .inl (xI E, 120, .inl z.fr))], [((am 4), .inl (xI E, 120, .inl z.wh))], [((am 5), .inl (xI E, 120, .inl z.sn))], [((am 6), .inl (xI E, 300, .inl z.ca))], [((am 7), .inl (xI E, 120, .inl z.hd))], [((am 8), .inl (xI E, 120, .inl z.ps))], [((am 9), .inl (xI E, 120, .inl z.tm))], [((am 10), .inl (xI E, 120, .inl z.mm))], [((am 11), .inl (xJ E, 120, .inr (.inl z.se)))], [((am 12), .inl (xI E, 400, .inl z.tx))]] H locs → ∀ ls : Array Slot, lv_has ls 8 [(0, .ref (am 0)), (1, .int n), (2, .int h), (3, .int p), (4, .int t), (5, .int (z.spurtBy h)), (6, .int (b2i b)), (7, .int (nI k))] → W vp l ve (headSpec wsX9_isShut (xrm 1 25)).room s vm ([.ref (am 0), .int n, .int h, .int p, .int t] : List Value).toArray below meth vc H locs 0 0 Q (F0 vm 71 ls []) := by
    intro m
    induction m with
    | zero =>
      intro k b hF hi hI H locs M ls hl
      refine lv_iload S.1 S.2.1 dX9_isShut_71 (lv_at hl 7 rfl) ?_
      refine lv_aload_n S.1 S.2.1 dX9_isShut_73 rfl (lv_at hl 0 rfl) ?_
      refine gget S hE M (C := RX9) (T := TX9) (N := 28) (ci := 9) (index := 75) hwi 0 rfl rfl 12 (by decide) (by decide +kernel) rfl dX9_isShut_74 ?_
      refine lv_icmp_ge (tgt := 117) S.1 S.2.1 dX9_isShut_77 (by decide) (fun _ => ?_) (fun c_ => absurd (nI_le (by omega) (by omega)) c_)
      refine lv_iload S.1 S.2.1 dX9_isShut_117 (lv_at hl 6 rfl) ?_
      rw [← hQ]
      exact gzret S hr hlk M (b2i_nar _) (by rw [hF]; unfold MdS.shut1; rw [hI, shl]) (rfl) dX9_isShut_119
    | succ m ih =>
      intro k b hF hi hI H locs M ls hl
      refine lv_iload S.1 S.2.1 dX9_isShut_71 (lv_at hl 7 rfl) ?_
      refine lv_aload_n S.1 S.2.1 dX9_isShut_73 rfl (lv_at hl 0 rfl) ?_
      refine gget S hE M (C := RX9) (T := TX9) (N := 28) (ci := 9) (index := 75) hwi 0 rfl rfl 12 (by decide) (by decide +kernel) rfl dX9_isShut_74 ?_
      refine lv_icmp_ge (tgt := 117) S.1 S.2.1 dX9_isShut_77 (by decide) (fun c_ => absurd c_ (nI_ge (by omega) (by omega))) (fun _ => ?_)
      refine lv_iload S.1 S.2.1 dX9_isShut_80 (lv_at hl 6 rfl) ?_
      refine lv_if_ne (tgt := 104) S.1 S.2.1 dX9_isShut_82 (by decide) (fun c82 => ?_) (fun c82 => ?_)
      ·
        refine lv_iconst (v := 1) S.1 S.2.1 dX9_isShut_104 (by decide) ?_
        refine lv_goto (tgt := 109) S.1 S.2.1 dX9_isShut_105 (by decide) ?_
        refine lv_istore (lv' := [(6, .int 1), (0, .ref (am 0)), (1, .int n), (2, .int h), (3, .int p), (4, .int t), (5, .int (z.spurtBy h)), (7, .int (nI k))]) S.1 S.2.1 dX9_isShut_109 hl (by decide) rfl (fun ls hl => ?_)
        refine lv_iinc (v := nI (k + 1)) (lv' := [(7, .int (nI (k + 1))), (6, .int 1), (0, .ref (am 0)), (1, .int n), (2, .int h), (3, .int p), (4, .int t), (5, .int (z.spurtBy h))]) S.1 S.2.1 dX9_isShut_111 hl (k := 7) rfl (nI_1 _) (by decide) rfl (fun ls hl => ?_)
        refine lv_goto (tgt := 71) S.1 S.2.1 dX9_isShut_114 (by decide) ?_
        exact ih (k + 1) true hF (by omega) (by rw [hI, shl, if_neg c82]) _ _ M ls (lv_sub hl [2, 3, 4, 5, 6, 7, 1, 0] rfl)
      ·
        refine lv_iload S.1 S.2.1 dX9_isShut_85 (lv_at hl 7 rfl) ?_
        refine lv_iload S.1 S.2.1 dX9_isShut_87 (lv_at hl 5 rfl) ?_
        refine lv_icmp_eq (tgt := 108) S.1 S.2.1 dX9_isShut_89 (by decide) (fun c89 => ?_) (fun c89 => ?_)
        ·
          refine lv_iconst (v := 0) S.1 S.2.1 dX9_isShut_108 (by decide) ?_
          refine lv_istore (lv' := [(6, .int 0), (0, .ref (am 0)), (1, .int n), (2, .int h), (3, .int p), (4, .int t), (5, .int (z.spurtBy h)), (7, .int (nI k))]) S.1 S.2.1 dX9_isShut_109 hl (by decide) rfl (fun ls hl => ?_)
          refine lv_iinc (v := nI (k + 1)) (lv' := [(7, .int (nI (k + 1))), (6, .int 0), (0, .ref (am 0)), (1, .int n), (2, .int h), (3, .int p), (4, .int t), (5, .int (z.spurtBy h))]) S.1 S.2.1 dX9_isShut_111 hl (k := 7) rfl (nI_1 _) (by decide) rfl (fun ls hl => ?_)
          refine lv_goto (tgt := 71) S.1 S.2.1 dX9_isShut_114 (by decide) ?_
          exact ih (k + 1) false hF (by omega) (by rw [hI, shl, if_pos c82, if_pos c89]) _ _ M ls (lv_sub hl [2, 3, 4, 5, 6, 7, 1, 0] rfl)
        ·
          refine lv_aload_n S.1 S.2.1 dX9_isShut_92 rfl (lv_at hl 0 rfl) ?_
          refine lv_iload S.1 S.2.1 dX9_isShut_93 (lv_at hl 7 rfl) ?_
          refine lv_iload_n S.1 S.2.1 dX9_isShut_95 rfl (lv_at hl 1 rfl) ?_
          refine lv_iload_n S.1 S.2.1 dX9_isShut_96 rfl (lv_at hl 2 rfl) ?_
          refine lv_iload_n S.1 S.2.1 dX9_isShut_97 rfl (lv_at hl 3 rfl) ?_
          refine gcalli (L := []) (Mid := modGs E am z) (Rr := []) (Mid' := modGs E am z) hE M rfl (rfl) (rfl) (fun hp => va_runV (As := [.int (nI k), .int n, .int h, .int p]) (rest := []) S (c_X9_isInTheWay l E am z k n h p  (by omega) hc _) (cwV 4 S.2.2.2.2 gX9_isShut_X9_isInTheWay rfl rfl rfl kd_X9_isInTheWay ⟨Nat.le_of_ble_eq_true rfl, Nat.le_of_ble_eq_true rfl⟩) (hp.V hE (show vwCl[9]? = some (RX9, TX9, 28) from rfl) rfl) rfl rfl hl.1 rfl (lv_room (Nat.le_of_ble_eq_true rfl)) dX9_isShut_98 ⟨Nat.zero_le _, Nat.zero_le _⟩) (fun H locs M => ?_)
          have M : gM E A s.heap [[(am 0, .inr (9, [.ref (am 1), .ref (am 2), .int (nI z.tn), .int z.mn, .int z.mk, .int z.mg, .int z.jp, .int (nI z.ct), .ref (am 3), .ref (am 4), .ref (am 5), .ref (am 6), .int (nI z.sp), .ref (am 7), .ref (am 8), .ref (am 9), .ref (am 10), .int (b2i z.on), .int z.ba, .int z.bg, .ref (am 11), .long z.up, .long z.by_, .int z.co, .int z.po, .int z.gr, .ref (am 12), .int (nI z.wr)]))], [((am 1), .inl (xI E, 25, .inl z.sg))], [((am 2), .inl (xI E, 8, .inl z.tp))], [((am 3), .inl (xI E, 120, .inl z.fr))], [((am 4), .inl (xI E, 120, .inl z.wh))], [((am 5), .inl (xI E, 120, .inl z.sn))], [((am 6), .inl (xI E, 300, .inl z.ca))], [((am 7), .inl (xI E, 120, .inl z.hd))], [((am 8), .inl (xI E, 120, .inl z.ps))], [((am 9), .inl (xI E, 120, .inl z.tm))], [((am 10), .inl (xI E, 120, .inl z.mm))], [((am 11), .inl (xJ E, 120, .inr (.inl z.se)))], [((am 12), .inl (xI E, 400, .inl z.tx))]] H locs := M
          refine lv_if_eq (tgt := 108) S.1 S.2.1 dX9_isShut_101 (by decide) (fun c101 => ?_) (fun c101 => ?_)
          ·
            refine lv_iconst (v := 0) S.1 S.2.1 dX9_isShut_108 (by decide) ?_
            refine lv_istore (lv' := [(6, .int 0), (0, .ref (am 0)), (1, .int n), (2, .int h), (3, .int p), (4, .int t), (5, .int (z.spurtBy h)), (7, .int (nI k))]) S.1 S.2.1 dX9_isShut_109 hl (by decide) rfl (fun ls hl => ?_)
            refine lv_iinc (v := nI (k + 1)) (lv' := [(7, .int (nI (k + 1))), (6, .int 0), (0, .ref (am 0)), (1, .int n), (2, .int h), (3, .int p), (4, .int t), (5, .int (z.spurtBy h))]) S.1 S.2.1 dX9_isShut_111 hl (k := 7) rfl (nI_1 _) (by decide) rfl (fun ls hl => ?_)
            refine lv_goto (tgt := 71) S.1 S.2.1 dX9_isShut_114 (by decide) ?_
            exact ih (k + 1) false hF (by omega) (by rw [hI, shl, if_pos c82, if_neg c89, if_pos c101]) _ _ M ls (lv_sub hl [2, 3, 4, 5, 6, 7, 1, 0] rfl)
          ·
            refine lv_iconst (v := 1) S.1 S.2.1 dX9_isShut_104 (by decide) ?_
            refine lv_goto (tgt := 109) S.1 S.2.1 dX9_isShut_105 (by decide) ?_
            refine lv_istore (lv' := [(6, .int 1), (0, .ref (am 0)), (1, .int n), (2, .int h), (3, .int p), (4, .int t), (5, .int (z.spurtBy h)), (7, .int (nI k))]) S.1 S.2.1 dX9_isShut_109 hl (by decide) rfl (fun ls hl => ?_)
            refine lv_iinc (v := nI (k + 1)) (lv' := [(7, .int (nI (k + 1))), (6, .int 1), (0, .ref (am 0)), (1, .int n), (2, .int h), (3, .int p), (4, .int t), (5, .int (z.spurtBy h))]) S.1 S.2.1 dX9_isShut_111 hl (k := 7) rfl (nI_1 _) (by decide) rfl (fun ls hl => ?_)
            refine lv_goto (tgt := 71) S.1 S.2.1 dX9_isShut_114 (by decide) ?_
            exact ih (k + 1) true hF (by omega) (by rw [hI, shl, if_pos c82, if_neg c89, if_neg c101]) _ _ M ls (lv_sub hl [2, 3, 4, 5, 6, 7, 1, 0] rfl)
  refine lv_aload_n S.1 S.2.1 dX9_isShut_0 rfl (lv_at hl 0 rfl) ?_
  refine gget S hE M (C := RX9) (T := TX9) (N := 28) (ci := 9) (index := 78) hwi 0 rfl rfl 7 (by decide) (by decide +kernel) rfl dX9_isShut_1 ?_
  refine lv_if_le (tgt := 23) S.1 S.2.1 dX9_isShut_4 (by decide) (fun c4 => ?_) (fun c4 => ?_)
  ·
    refine lv_aload_n S.1 S.2.1 dX9_isShut_23 rfl (lv_at hl 0 rfl) ?_
    refine gget S hE M (C := RX9) (T := TX9) (N := 28) (ci := 9) (index := 32) hwi 0 rfl rfl 11 (by decide) (by decide +kernel) rfl dX9_isShut_24 ?_
    refine lv_iload_n S.1 S.2.1 dX9_isShut_27 rfl (lv_at hl 1 rfl) ?_
    refine giald S hE M 6 rfl (hn) dX9_isShut_28 ?_
    refine lv_bipush (v := (-9)) S.1 S.2.1 dX9_isShut_29 (by decide) ?_
    refine lv_icmp_eq (tgt := 36) S.1 S.2.1 dX9_isShut_31 (by decide) (fun c31 => ?_) (fun c31 => ?_)
    ·
      refine lv_aload_n S.1 S.2.1 dX9_isShut_36 rfl (lv_at hl 0 rfl) ?_
      refine lv_iload_n S.1 S.2.1 dX9_isShut_37 rfl (lv_at hl 2 rfl) ?_
      refine gcalli (L := []) (Mid := modGs E am z) (Rr := []) (Mid' := modGs E am z) hE M rfl (rfl) (rfl) (fun hp => va_runV (As := [.int h]) (rest := []) S (c_X9_spurtBy l E am z h  hs _) (cwV 1 S.2.2.2.2 gX9_isShut_X9_spurtBy rfl rfl rfl kd_X9_spurtBy ⟨Nat.le_of_ble_eq_true rfl, Nat.le_of_ble_eq_true rfl⟩) (hp.V hE (show vwCl[9]? = some (RX9, TX9, 28) from rfl) rfl) rfl rfl hl.1 rfl (lv_room (Nat.le_of_ble_eq_true rfl)) dX9_isShut_38 ⟨Nat.zero_le _, Nat.zero_le _⟩) (fun H locs M => ?_)
      have M : gM E A s.heap [[(am 0, .inr (9, [.ref (am 1), .ref (am 2), .int (nI z.tn), .int z.mn, .int z.mk, .int z.mg, .int z.jp, .int (nI z.ct), .ref (am 3), .ref (am 4), .ref (am 5), .ref (am 6), .int (nI z.sp), .ref (am 7), .ref (am 8), .ref (am 9), .ref (am 10), .int (b2i z.on), .int z.ba, .int z.bg, .ref (am 11), .long z.up, .long z.by_, .int z.co, .int z.po, .int z.gr, .ref (am 12), .int (nI z.wr)]))], [((am 1), .inl (xI E, 25, .inl z.sg))], [((am 2), .inl (xI E, 8, .inl z.tp))], [((am 3), .inl (xI E, 120, .inl z.fr))], [((am 4), .inl (xI E, 120, .inl z.wh))], [((am 5), .inl (xI E, 120, .inl z.sn))], [((am 6), .inl (xI E, 300, .inl z.ca))], [((am 7), .inl (xI E, 120, .inl z.hd))], [((am 8), .inl (xI E, 120, .inl z.ps))], [((am 9), .inl (xI E, 120, .inl z.tm))], [((am 10), .inl (xI E, 120, .inl z.mm))], [((am 11), .inl (xJ E, 120, .inr (.inl z.se)))], [((am 12), .inl (xI E, 400, .inl z.tx))]] H locs := M
      refine lv_istore (lv' := [(5, .int (z.spurtBy h)), (0, .ref (am 0)), (1, .int n), (2, .int h), (3, .int p), (4, .int t)]) S.1 S.2.1 dX9_isShut_41 hl (by decide) rfl (fun ls hl => ?_)
      refine lv_iload S.1 S.2.1 dX9_isShut_43 (lv_at hl 0 rfl) ?_
      refine lv_bipush (v := (-9)) S.1 S.2.1 dX9_isShut_45 (by decide) ?_
      refine lv_icmp_eq (tgt := 65) S.1 S.2.1 dX9_isShut_47 (by decide) (fun c47 => ?_) (fun c47 => ?_)
      ·
        refine lv_iconst (v := 0) S.1 S.2.1 dX9_isShut_65 (by decide) ?_
        refine lv_istore (lv' := [(6, .int 0), (5, .int (z.spurtBy h)), (0, .ref (am 0)), (1, .int n), (2, .int h), (3, .int p), (4, .int t)]) S.1 S.2.1 dX9_isShut_66 hl (by decide) rfl (fun ls hl => ?_)
        refine lv_iconst (v := 0) S.1 S.2.1 dX9_isShut_68 (by decide) ?_
        refine lv_istore (lv' := [(7, .int 0), (6, .int 0), (5, .int (z.spurtBy h)), (0, .ref (am 0)), (1, .int n), (2, .int h), (3, .int p), (4, .int t)]) S.1 S.2.1 dX9_isShut_69 hl (by decide) rfl (fun ls hl => ?_)
        exact hL z.sp 0 false (by unfold MdS.shut; rw [if_pos c4, if_pos c31]) (by omega) (by unfold MdS.shut0; rw [if_pos c47]) _ _ M ls (lv_sub hl [3, 4, 5, 6, 7, 2, 1, 0] rfl)
      ·
        refine lv_aload_n S.1 S.2.1 dX9_isShut_50 rfl (lv_at hl 1 rfl) ?_
        refine gget S hE M (C := RX9) (T := TX9) (N := 28) (ci := 9) (index := 38) hwi 0 rfl rfl 14 (by decide) (by decide +kernel) rfl dX9_isShut_51 ?_
        refine lv_iload S.1 S.2.1 dX9_isShut_54 (lv_at hl 0 rfl) ?_
        refine giald S hE M 8 rfl (spurtBy_in hs c47) dX9_isShut_56 ?_
        refine lv_iload_n S.1 S.2.1 dX9_isShut_57 rfl (lv_at hl 4 rfl) ?_
        refine lv_icmp_eq (tgt := 65) S.1 S.2.1 dX9_isShut_58 (by decide) (fun c58 => ?_) (fun c58 => ?_)
        ·
          refine lv_iconst (v := 0) S.1 S.2.1 dX9_isShut_65 (by decide) ?_
          refine lv_istore (lv' := [(6, .int 0), (5, .int (z.spurtBy h)), (0, .ref (am 0)), (1, .int n), (2, .int h), (3, .int p), (4, .int t)]) S.1 S.2.1 dX9_isShut_66 hl (by decide) rfl (fun ls hl => ?_)
          refine lv_iconst (v := 0) S.1 S.2.1 dX9_isShut_68 (by decide) ?_
          refine lv_istore (lv' := [(7, .int 0), (6, .int 0), (5, .int (z.spurtBy h)), (0, .ref (am 0)), (1, .int n), (2, .int h), (3, .int p), (4, .int t)]) S.1 S.2.1 dX9_isShut_69 hl (by decide) rfl (fun ls hl => ?_)
          exact hL z.sp 0 false (by unfold MdS.shut; rw [if_pos c4, if_pos c31]) (by omega) (by unfold MdS.shut0; rw [if_neg c47, if_pos c58]) _ _ M ls (lv_sub hl [3, 4, 5, 6, 7, 2, 1, 0] rfl)
        ·
          refine lv_iconst (v := 1) S.1 S.2.1 dX9_isShut_61 (by decide) ?_
          refine lv_goto (tgt := 66) S.1 S.2.1 dX9_isShut_62 (by decide) ?_
          refine lv_istore (lv' := [(6, .int 1), (5, .int (z.spurtBy h)), (0, .ref (am 0)), (1, .int n), (2, .int h), (3, .int p), (4, .int t)]) S.1 S.2.1 dX9_isShut_66 hl (by decide) rfl (fun ls hl => ?_)
          refine lv_iconst (v := 0) S.1 S.2.1 dX9_isShut_68 (by decide) ?_
          refine lv_istore (lv' := [(7, .int 0), (6, .int 1), (5, .int (z.spurtBy h)), (0, .ref (am 0)), (1, .int n), (2, .int h), (3, .int p), (4, .int t)]) S.1 S.2.1 dX9_isShut_69 hl (by decide) rfl (fun ls hl => ?_)
          exact hL z.sp 0 true (by unfold MdS.shut; rw [if_pos c4, if_pos c31]) (by omega) (by unfold MdS.shut0; rw [if_neg c47, if_neg c58]) _ _ M ls (lv_sub hl [3, 4, 5, 6, 7, 2, 1, 0] rfl)
    ·
      refine lv_iconst (v := 1) S.1 S.2.1 dX9_isShut_34 (by decide) ?_
      rw [← hQ]
      exact gzret S hr hlk M (rfl) (by unfold MdS.shut; rw [if_pos c4, if_neg c31]) (rfl) dX9_isShut_35
  ·
    have hp0 : 0 < z.ct := Nat.pos_of_ne_zero fun q => c4 (by rw [q]; decide)
    refine lv_iload S.1 S.2.1 dX9_isShut_7 (lv_at hl 4 rfl) ?_
    refine lv_aload_n S.1 S.2.1 dX9_isShut_9 rfl (lv_at hl 0 rfl) ?_
    refine gget S hE M (C := RX9) (T := TX9) (N := 28) (ci := 9) (index := 26) hwi 0 rfl rfl 9 (by decide) (by decide +kernel) rfl dX9_isShut_10 ?_
    refine lv_aload_n S.1 S.2.1 dX9_isShut_13 rfl (lv_at hl 0 rfl) ?_
    refine gget S hE M (C := RX9) (T := TX9) (N := 28) (ci := 9) (index := 78) hwi 0 rfl rfl 7 (by decide) (by decide +kernel) rfl dX9_isShut_14 ?_
    refine lv_iconst (v := 1) S.1 S.2.1 dX9_isShut_17 (by decide) ?_
    refine lv_isub S.1 S.2.1 dX9_isShut_18 ?_
    refine gtop (x' := nI (z.ct - 1)) (nI_dec hp0) ?_
    refine giald S hE M 4 rfl (vp_in_nI (by omega) (by omega)) dX9_isShut_19 ?_
    refine gtop (x' := z.wh (z.ct - 1)) (by rw [nI_clamp (by omega)]) ?_
    refine lv_icmp_lt (tgt := 34) S.1 S.2.1 dX9_isShut_20 (by decide) (fun c20 => ?_) (fun c20 => ?_)
    ·
      refine lv_iconst (v := 1) S.1 S.2.1 dX9_isShut_34 (by decide) ?_
      rw [← hQ]
      exact gzret S hr hlk M (rfl) (by unfold MdS.shut; rw [if_neg c4, if_pos c20]) (rfl) dX9_isShut_35
    ·
      refine lv_aload_n S.1 S.2.1 dX9_isShut_23 rfl (lv_at hl 0 rfl) ?_
      refine gget S hE M (C := RX9) (T := TX9) (N := 28) (ci := 9) (index := 32) hwi 0 rfl rfl 11 (by decide) (by decide +kernel) rfl dX9_isShut_24 ?_
      refine lv_iload_n S.1 S.2.1 dX9_isShut_27 rfl (lv_at hl 1 rfl) ?_
      refine giald S hE M 6 rfl (hn) dX9_isShut_28 ?_
      refine lv_bipush (v := (-9)) S.1 S.2.1 dX9_isShut_29 (by decide) ?_
      refine lv_icmp_eq (tgt := 36) S.1 S.2.1 dX9_isShut_31 (by decide) (fun c31 => ?_) (fun c31 => ?_)
      ·
        refine lv_aload_n S.1 S.2.1 dX9_isShut_36 rfl (lv_at hl 0 rfl) ?_
        refine lv_iload_n S.1 S.2.1 dX9_isShut_37 rfl (lv_at hl 2 rfl) ?_
        refine gcalli (L := []) (Mid := modGs E am z) (Rr := []) (Mid' := modGs E am z) hE M rfl (rfl) (rfl) (fun hp => va_runV (As := [.int h]) (rest := []) S (c_X9_spurtBy l E am z h  hs _) (cwV 1 S.2.2.2.2 gX9_isShut_X9_spurtBy rfl rfl rfl kd_X9_spurtBy ⟨Nat.le_of_ble_eq_true rfl, Nat.le_of_ble_eq_true rfl⟩) (hp.V hE (show vwCl[9]? = some (RX9, TX9, 28) from rfl) rfl) rfl rfl hl.1 rfl (lv_room (Nat.le_of_ble_eq_true rfl)) dX9_isShut_38 ⟨Nat.zero_le _, Nat.zero_le _⟩) (fun H locs M => ?_)
        have M : gM E A s.heap [[(am 0, .inr (9, [.ref (am 1), .ref (am 2), .int (nI z.tn), .int z.mn, .int z.mk, .int z.mg, .int z.jp, .int (nI z.ct), .ref (am 3), .ref (am 4), .ref (am 5), .ref (am 6), .int (nI z.sp), .ref (am 7), .ref (am 8), .ref (am 9), .ref (am 10), .int (b2i z.on), .int z.ba, .int z.bg, .ref (am 11), .long z.up, .long z.by_, .int z.co, .int z.po, .int z.gr, .ref (am 12), .int (nI z.wr)]))], [((am 1), .inl (xI E, 25, .inl z.sg))], [((am 2), .inl (xI E, 8, .inl z.tp))], [((am 3), .inl (xI E, 120, .inl z.fr))], [((am 4), .inl (xI E, 120, .inl z.wh))], [((am 5), .inl (xI E, 120, .inl z.sn))], [((am 6), .inl (xI E, 300, .inl z.ca))], [((am 7), .inl (xI E, 120, .inl z.hd))], [((am 8), .inl (xI E, 120, .inl z.ps))], [((am 9), .inl (xI E, 120, .inl z.tm))], [((am 10), .inl (xI E, 120, .inl z.mm))], [((am 11), .inl (xJ E, 120, .inr (.inl z.se)))], [((am 12), .inl (xI E, 400, .inl z.tx))]] H locs := M
        refine lv_istore (lv' := [(5, .int (z.spurtBy h)), (0, .ref (am 0)), (1, .int n), (2, .int h), (3, .int p), (4, .int t)]) S.1 S.2.1 dX9_isShut_41 hl (by decide) rfl (fun ls hl => ?_)
        refine lv_iload S.1 S.2.1 dX9_isShut_43 (lv_at hl 0 rfl) ?_
        refine lv_bipush (v := (-9)) S.1 S.2.1 dX9_isShut_45 (by decide) ?_
        refine lv_icmp_eq (tgt := 65) S.1 S.2.1 dX9_isShut_47 (by decide) (fun c47 => ?_) (fun c47 => ?_)
        ·
          refine lv_iconst (v := 0) S.1 S.2.1 dX9_isShut_65 (by decide) ?_
          refine lv_istore (lv' := [(6, .int 0), (5, .int (z.spurtBy h)), (0, .ref (am 0)), (1, .int n), (2, .int h), (3, .int p), (4, .int t)]) S.1 S.2.1 dX9_isShut_66 hl (by decide) rfl (fun ls hl => ?_)
          refine lv_iconst (v := 0) S.1 S.2.1 dX9_isShut_68 (by decide) ?_
          refine lv_istore (lv' := [(7, .int 0), (6, .int 0), (5, .int (z.spurtBy h)), (0, .ref (am 0)), (1, .int n), (2, .int h), (3, .int p), (4, .int t)]) S.1 S.2.1 dX9_isShut_69 hl (by decide) rfl (fun ls hl => ?_)
          exact hL z.sp 0 false (by unfold MdS.shut; rw [if_neg c4, if_neg c20, if_pos c31]) (by omega) (by unfold MdS.shut0; rw [if_pos c47]) _ _ M ls (lv_sub hl [3, 4, 5, 6, 7, 2, 1, 0] rfl)
        ·
          refine lv_aload_n S.1 S.2.1 dX9_isShut_50 rfl (lv_at hl 1 rfl) ?_
          refine gget S hE M (C := RX9) (T := TX9) (N := 28) (ci := 9) (index := 38) hwi 0 rfl rfl 14 (by decide) (by decide +kernel) rfl dX9_isShut_51 ?_
          refine lv_iload S.1 S.2.1 dX9_isShut_54 (lv_at hl 0 rfl) ?_
          refine giald S hE M 8 rfl (spurtBy_in hs c47) dX9_isShut_56 ?_
          refine lv_iload_n S.1 S.2.1 dX9_isShut_57 rfl (lv_at hl 4 rfl) ?_
          refine lv_icmp_eq (tgt := 65) S.1 S.2.1 dX9_isShut_58 (by decide) (fun c58 => ?_) (fun c58 => ?_)
          ·
            refine lv_iconst (v := 0) S.1 S.2.1 dX9_isShut_65 (by decide) ?_
            refine lv_istore (lv' := [(6, .int 0), (5, .int (z.spurtBy h)), (0, .ref (am 0)), (1, .int n), (2, .int h), (3, .int p), (4, .int t)]) S.1 S.2.1 dX9_isShut_66 hl (by decide) rfl (fun ls hl => ?_)
            refine lv_iconst (v := 0) S.1 S.2.1 dX9_isShut_68 (by decide) ?_
            refine lv_istore (lv' := [(7, .int 0), (6, .int 0), (5, .int (z.spurtBy h)), (0, .ref (am 0)), (1, .int n), (2, .int h), (3, .int p), (4, .int t)]) S.1 S.2.1 dX9_isShut_69 hl (by decide) rfl (fun ls hl => ?_)
            exact hL z.sp 0 false (by unfold MdS.shut; rw [if_neg c4, if_neg c20, if_pos c31]) (by omega) (by unfold MdS.shut0; rw [if_neg c47, if_pos c58]) _ _ M ls (lv_sub hl [3, 4, 5, 6, 7, 2, 1, 0] rfl)
          ·
            refine lv_iconst (v := 1) S.1 S.2.1 dX9_isShut_61 (by decide) ?_
            refine lv_goto (tgt := 66) S.1 S.2.1 dX9_isShut_62 (by decide) ?_
            refine lv_istore (lv' := [(6, .int 1), (5, .int (z.spurtBy h)), (0, .ref (am 0)), (1, .int n), (2, .int h), (3, .int p), (4, .int t)]) S.1 S.2.1 dX9_isShut_66 hl (by decide) rfl (fun ls hl => ?_)
            refine lv_iconst (v := 0) S.1 S.2.1 dX9_isShut_68 (by decide) ?_
            refine lv_istore (lv' := [(7, .int 0), (6, .int 1), (5, .int (z.spurtBy h)), (0, .ref (am 0)), (1, .int n), (2, .int h), (3, .int p), (4, .int t)]) S.1 S.2.1 dX9_isShut_69 hl (by decide) rfl (fun ls hl => ?_)
            exact hL z.sp 0 true (by unfold MdS.shut; rw [if_neg c4, if_neg c20, if_pos c31]) (by omega) (by unfold MdS.shut0; rw [if_neg c47, if_neg c58]) _ _ M ls (lv_sub hl [3, 4, 5, 6, 7, 2, 1, 0] rfl)
      ·
        refine lv_iconst (v := 1) S.1 S.2.1 dX9_isShut_34 (by decide) ?_
        rw [← hQ]
        exact gzret S hr hlk M (rfl) (by unfold MdS.shut; rw [if_neg c4, if_neg c20, if_neg c31]) (rfl) dX9_isShut_35

set_option maxHeartbeats 4000000 in
set_option maxRecDepth 100000 in
theorem c_X9_spikesBy (l : Launch) (E : xE) (am : Nat → Nat) (z : MdS) (a : Nat) (ha : a < 120) : mV l yX9_spikesBy wsX9_spikesBy (xrm 1 21) E [.ref (am 0), .int (nI a)] (modGs E am z) (modGs E am (MdS.spk z a)) := by
  intro sz
  refine Met.ofW (cc := cX9_spikesBy) (maxL := 2) (ret := none) (by decide +kernel) rfl ?_
  intro vp ve s vm args below meth vc s₁ B hml hv
  obtain ⟨rfl, S, hr, hlk, hnm, A, hA, hE, M⟩ := genter B hml hv
  rw [hA]
  obtain ⟨ls, hfr, hl⟩ := gst (m := vm) (as := [.ref (am 0), .int (nI a)]) (n := 2) (Nat.le_of_ble_eq_true rfl)
  rw [hfr]
  clear hfr hA
  have hl : lv_has ls 2 [(0, .ref (am 0)), (1, .int (nI a))] := hl
  have M : gM E A s.heap [[(am 0, .inr (9, [.ref (am 1), .ref (am 2), .int (nI z.tn), .int z.mn, .int z.mk, .int z.mg, .int z.jp, .int (nI z.ct), .ref (am 3), .ref (am 4), .ref (am 5), .ref (am 6), .int (nI z.sp), .ref (am 7), .ref (am 8), .ref (am 9), .ref (am 10), .int (b2i z.on), .int z.ba, .int z.bg, .ref (am 11), .long z.up, .long z.by_, .int z.co, .int z.po, .int z.gr, .ref (am 12), .int (nI z.wr)]))], [((am 1), .inl (xI E, 25, .inl z.sg))], [((am 2), .inl (xI E, 8, .inl z.tp))], [((am 3), .inl (xI E, 120, .inl z.fr))], [((am 4), .inl (xI E, 120, .inl z.wh))], [((am 5), .inl (xI E, 120, .inl z.sn))], [((am 6), .inl (xI E, 300, .inl z.ca))], [((am 7), .inl (xI E, 120, .inl z.hd))], [((am 8), .inl (xI E, 120, .inl z.ps))], [((am 9), .inl (xI E, 120, .inl z.tm))], [((am 10), .inl (xI E, 120, .inl z.mm))], [((am 11), .inl (xJ E, 120, .inr (.inl z.se)))], [((am 12), .inl (xI E, 400, .inl z.tx))]] s.heap [] := M
  have hwi : ∀ w ∈ u_ws RX9 TX9 28, w ∈ wsX9_spikesBy := by decide +kernel
  refine lv_aload_n S.1 S.2.1 dX9_spikesBy_0 rfl (lv_at hl 0 rfl) ?_
  refine gget S hE M (C := RX9) (T := TX9) (N := 28) (ci := 9) (index := 99) hwi 0 rfl rfl 17 (by decide) (by decide +kernel) rfl dX9_spikesBy_1 ?_
  refine lv_if_eq (tgt := 38) S.1 S.2.1 dX9_spikesBy_4 (by decide) (fun c4 => ?_) (fun c4 => ?_)
  ·
    refine lv_iload_n S.1 S.2.1 dX9_spikesBy_38 rfl (lv_at hl 1 rfl) ?_
    refine lv_if_le (tgt := 88) S.1 S.2.1 dX9_spikesBy_39 (by decide) (fun c39 => ?_) (fun c39 => ?_)
    ·
      have he : MdS.spk z a = z := by unfold MdS.spk; rw [if_pos c4, if_pos c39] <;> rfl
      exact gvret S hr hlk M (by rw [he]; rfl) dX9_spikesBy_88
    ·
      have hp0 : 0 < a := Nat.pos_of_ne_zero fun q => c39 (by rw [q]; decide)
      refine lv_aload_n S.1 S.2.1 dX9_spikesBy_42 rfl (lv_at hl 0 rfl) ?_
      refine lv_iload_n S.1 S.2.1 dX9_spikesBy_43 rfl (lv_at hl 1 rfl) ?_
      refine gcalli (L := []) (Mid := modGs E am z) (Rr := []) (Mid' := modGs E am z) hE M rfl (rfl) (rfl) (fun hp => va_runV (As := [.int (nI a)]) (rest := []) S (c_X9_delay l E am z a  ha _) (cwV 1 S.2.2.2.2 gX9_spikesBy_X9_delay rfl rfl rfl kd_X9_delay ⟨Nat.le_of_ble_eq_true rfl, Nat.le_of_ble_eq_true rfl⟩) (hp.V hE (show vwCl[9]? = some (RX9, TX9, 28) from rfl) rfl) rfl rfl hl.1 rfl (lv_room (Nat.le_of_ble_eq_true rfl)) dX9_spikesBy_44 ⟨Nat.zero_le _, Nat.zero_le _⟩) (fun H locs M => ?_)
      have M : gM E A s.heap [[(am 0, .inr (9, [.ref (am 1), .ref (am 2), .int (nI z.tn), .int z.mn, .int z.mk, .int z.mg, .int z.jp, .int (nI z.ct), .ref (am 3), .ref (am 4), .ref (am 5), .ref (am 6), .int (nI z.sp), .ref (am 7), .ref (am 8), .ref (am 9), .ref (am 10), .int (b2i z.on), .int z.ba, .int z.bg, .ref (am 11), .long z.up, .long z.by_, .int z.co, .int z.po, .int z.gr, .ref (am 12), .int (nI z.wr)]))], [((am 1), .inl (xI E, 25, .inl z.sg))], [((am 2), .inl (xI E, 8, .inl z.tp))], [((am 3), .inl (xI E, 120, .inl z.fr))], [((am 4), .inl (xI E, 120, .inl z.wh))], [((am 5), .inl (xI E, 120, .inl z.sn))], [((am 6), .inl (xI E, 300, .inl z.ca))], [((am 7), .inl (xI E, 120, .inl z.hd))], [((am 8), .inl (xI E, 120, .inl z.ps))], [((am 9), .inl (xI E, 120, .inl z.tm))], [((am 10), .inl (xI E, 120, .inl z.mm))], [((am 11), .inl (xJ E, 120, .inr (.inl z.se)))], [((am 12), .inl (xI E, 400, .inl z.tx))]] H locs := M
      refine lv_aload_n S.1 S.2.1 dX9_spikesBy_47 rfl (lv_at hl 0 rfl) ?_
      refine lv_iload_n S.1 S.2.1 dX9_spikesBy_48 rfl (lv_at hl 1 rfl) ?_
      refine lv_iconst (v := 1) S.1 S.2.1 dX9_spikesBy_49 (by decide) ?_
      refine lv_isub S.1 S.2.1 dX9_spikesBy_50 ?_
      refine gtop (x' := nI (a - 1)) (nI_dec hp0) ?_
      refine gcalli (L := []) (Mid := modGs E am z) (Rr := []) (Mid' := modGs E am z) hE M rfl (rfl) (rfl) (fun hp => va_runV (As := [.int (nI (a - 1))]) (rest := [.int (z.dl a)]) S (c_X9_delay l E am z (a - 1)  (by omega) _) (cwV 1 S.2.2.2.2 gX9_spikesBy_X9_delay rfl rfl rfl kd_X9_delay ⟨Nat.le_of_ble_eq_true rfl, Nat.le_of_ble_eq_true rfl⟩) (hp.V hE (show vwCl[9]? = some (RX9, TX9, 28) from rfl) rfl) rfl rfl hl.1 rfl (lv_room (Nat.le_of_ble_eq_true rfl)) dX9_spikesBy_51 ⟨Nat.zero_le _, Nat.zero_le _⟩) (fun H locs M => ?_)
      have M : gM E A s.heap [[(am 0, .inr (9, [.ref (am 1), .ref (am 2), .int (nI z.tn), .int z.mn, .int z.mk, .int z.mg, .int z.jp, .int (nI z.ct), .ref (am 3), .ref (am 4), .ref (am 5), .ref (am 6), .int (nI z.sp), .ref (am 7), .ref (am 8), .ref (am 9), .ref (am 10), .int (b2i z.on), .int z.ba, .int z.bg, .ref (am 11), .long z.up, .long z.by_, .int z.co, .int z.po, .int z.gr, .ref (am 12), .int (nI z.wr)]))], [((am 1), .inl (xI E, 25, .inl z.sg))], [((am 2), .inl (xI E, 8, .inl z.tp))], [((am 3), .inl (xI E, 120, .inl z.fr))], [((am 4), .inl (xI E, 120, .inl z.wh))], [((am 5), .inl (xI E, 120, .inl z.sn))], [((am 6), .inl (xI E, 300, .inl z.ca))], [((am 7), .inl (xI E, 120, .inl z.hd))], [((am 8), .inl (xI E, 120, .inl z.ps))], [((am 9), .inl (xI E, 120, .inl z.tm))], [((am 10), .inl (xI E, 120, .inl z.mm))], [((am 11), .inl (xJ E, 120, .inr (.inl z.se)))], [((am 12), .inl (xI E, 400, .inl z.tx))]] H locs := M
      refine lv_aload_n S.1 S.2.1 dX9_spikesBy_54 rfl (lv_at hl 0 rfl) ?_
      refine gget S hE M (C := RX9) (T := TX9) (N := 28) (ci := 9) (index := 20) hwi 0 rfl rfl 6 (by decide) (by decide +kernel) rfl dX9_spikesBy_55 ?_
      refine lv_iadd S.1 S.2.1 dX9_spikesBy_58 ?_
      refine lv_icmp_lt (tgt := 88) S.1 S.2.1 dX9_spikesBy_59 (by decide) (fun c59 => ?_) (fun c59 => ?_)
      ·
        have he : MdS.spk z a = z := by unfold MdS.spk; rw [if_pos c4, if_neg c39, if_pos c59] <;> rfl
        exact gvret S hr hlk M (by rw [he]; rfl) dX9_spikesBy_88
      ·
        refine lv_aload_n S.1 S.2.1 dX9_spikesBy_62 rfl (lv_at hl 0 rfl) ?_
        refine lv_iconst (v := 1) S.1 S.2.1 dX9_spikesBy_63 (by decide) ?_
        refine gput S hE M (C := RX9) (T := TX9) (N := 28) (ci := 9) (index := 99) (Gs' := [[(am 0, .inr (9, [.ref (am 1), .ref (am 2), .int (nI z.tn), .int z.mn, .int z.mk, .int z.mg, .int z.jp, .int (nI z.ct), .ref (am 3), .ref (am 4), .ref (am 5), .ref (am 6), .int (nI z.sp), .ref (am 7), .ref (am 8), .ref (am 9), .ref (am 10), .int 1, .int z.ba, .int z.bg, .ref (am 11), .long z.up, .long z.by_, .int z.co, .int z.po, .int z.gr, .ref (am 12), .int (nI z.wr)]))], [((am 1), .inl (xI E, 25, .inl z.sg))], [((am 2), .inl (xI E, 8, .inl z.tp))], [((am 3), .inl (xI E, 120, .inl z.fr))], [((am 4), .inl (xI E, 120, .inl z.wh))], [((am 5), .inl (xI E, 120, .inl z.sn))], [((am 6), .inl (xI E, 300, .inl z.ca))], [((am 7), .inl (xI E, 120, .inl z.hd))], [((am 8), .inl (xI E, 120, .inl z.ps))], [((am 9), .inl (xI E, 120, .inl z.tm))], [((am 10), .inl (xI E, 120, .inl z.mm))], [((am 11), .inl (xJ E, 120, .inr (.inl z.se)))], [((am 12), .inl (xI E, 400, .inl z.tx))]]) hwi tyX9 tyX9_ok nmX9 0 rfl rfl 17 (by decide) (by decide +kernel) rfl rfl rfl (Nat.le_of_ble_eq_true rfl) rfl dX9_spikesBy_64 (fun H locs M => ?_)
        refine lv_aload_n S.1 S.2.1 dX9_spikesBy_67 rfl (lv_at hl 0 rfl) ?_
        refine lv_aload_n S.1 S.2.1 dX9_spikesBy_68 rfl (lv_at hl 0 rfl) ?_
        refine lv_iload_n S.1 S.2.1 dX9_spikesBy_69 rfl (lv_at hl 1 rfl) ?_
        refine lv_iconst (v := 1) S.1 S.2.1 dX9_spikesBy_70 (by decide) ?_
        refine lv_isub S.1 S.2.1 dX9_spikesBy_71 ?_
        refine gtop (x' := nI (a - 1)) (nI_dec hp0) ?_
        refine gcalli (L := []) (Mid := modGs E am ((z.sg, z.tp, z.tn, z.mn, z.mk, z.mg, z.jp, z.ct, z.fr, z.wh, z.sn, z.ca, z.sp, z.hd, z.ps, z.tm, z.mm, true, z.ba, z.bg, z.se, z.up, z.by_, z.co, z.po, z.gr, z.tx, z.wr) : MdS)) (Rr := []) (Mid' := modGs E am ((z.sg, z.tp, z.tn, z.mn, z.mk, z.mg, z.jp, z.ct, z.fr, z.wh, z.sn, z.ca, z.sp, z.hd, z.ps, z.tm, z.mm, true, z.ba, z.bg, z.se, z.up, z.by_, z.co, z.po, z.gr, z.tx, z.wr) : MdS)) hE M rfl (rfl) (rfl) (fun hp => va_runV (As := [.int (nI (a - 1))]) (rest := [.ref (am 0)]) S (c_X9_delay l E am ((z.sg, z.tp, z.tn, z.mn, z.mk, z.mg, z.jp, z.ct, z.fr, z.wh, z.sn, z.ca, z.sp, z.hd, z.ps, z.tm, z.mm, true, z.ba, z.bg, z.se, z.up, z.by_, z.co, z.po, z.gr, z.tx, z.wr) : MdS) (a - 1)  (by omega) _) (cwV 1 S.2.2.2.2 gX9_spikesBy_X9_delay rfl rfl rfl kd_X9_delay ⟨Nat.le_of_ble_eq_true rfl, Nat.le_of_ble_eq_true rfl⟩) (hp.V hE (show vwCl[9]? = some (RX9, TX9, 28) from rfl) rfl) rfl rfl hl.1 rfl (lv_room (Nat.le_of_ble_eq_true rfl)) dX9_spikesBy_72 ⟨Nat.zero_le _, Nat.zero_le _⟩) (fun H locs M => ?_)
        have M : gM E A s.heap [[(am 0, .inr (9, [.ref (am 1), .ref (am 2), .int (nI z.tn), .int z.mn, .int z.mk, .int z.mg, .int z.jp, .int (nI z.ct), .ref (am 3), .ref (am 4), .ref (am 5), .ref (am 6), .int (nI z.sp), .ref (am 7), .ref (am 8), .ref (am 9), .ref (am 10), .int 1, .int z.ba, .int z.bg, .ref (am 11), .long z.up, .long z.by_, .int z.co, .int z.po, .int z.gr, .ref (am 12), .int (nI z.wr)]))], [((am 1), .inl (xI E, 25, .inl z.sg))], [((am 2), .inl (xI E, 8, .inl z.tp))], [((am 3), .inl (xI E, 120, .inl z.fr))], [((am 4), .inl (xI E, 120, .inl z.wh))], [((am 5), .inl (xI E, 120, .inl z.sn))], [((am 6), .inl (xI E, 300, .inl z.ca))], [((am 7), .inl (xI E, 120, .inl z.hd))], [((am 8), .inl (xI E, 120, .inl z.ps))], [((am 9), .inl (xI E, 120, .inl z.tm))], [((am 10), .inl (xI E, 120, .inl z.mm))], [((am 11), .inl (xJ E, 120, .inr (.inl z.se)))], [((am 12), .inl (xI E, 400, .inl z.tx))]] H locs := M
        refine gput S hE M (C := RX9) (T := TX9) (N := 28) (ci := 9) (index := 106) (Gs' := [[(am 0, .inr (9, [.ref (am 1), .ref (am 2), .int (nI z.tn), .int z.mn, .int z.mk, .int z.mg, .int z.jp, .int (nI z.ct), .ref (am 3), .ref (am 4), .ref (am 5), .ref (am 6), .int (nI z.sp), .ref (am 7), .ref (am 8), .ref (am 9), .ref (am 10), .int 1, .int (MdS.dl ((z.sg, z.tp, z.tn, z.mn, z.mk, z.mg, z.jp, z.ct, z.fr, z.wh, z.sn, z.ca, z.sp, z.hd, z.ps, z.tm, z.mm, true, z.ba, z.bg, z.se, z.up, z.by_, z.co, z.po, z.gr, z.tx, z.wr) : MdS) (a - 1)), .int z.bg, .ref (am 11), .long z.up, .long z.by_, .int z.co, .int z.po, .int z.gr, .ref (am 12), .int (nI z.wr)]))], [((am 1), .inl (xI E, 25, .inl z.sg))], [((am 2), .inl (xI E, 8, .inl z.tp))], [((am 3), .inl (xI E, 120, .inl z.fr))], [((am 4), .inl (xI E, 120, .inl z.wh))], [((am 5), .inl (xI E, 120, .inl z.sn))], [((am 6), .inl (xI E, 300, .inl z.ca))], [((am 7), .inl (xI E, 120, .inl z.hd))], [((am 8), .inl (xI E, 120, .inl z.ps))], [((am 9), .inl (xI E, 120, .inl z.tm))], [((am 10), .inl (xI E, 120, .inl z.mm))], [((am 11), .inl (xJ E, 120, .inr (.inl z.se)))], [((am 12), .inl (xI E, 400, .inl z.tx))]]) hwi tyX9 tyX9_ok nmX9 0 rfl rfl 18 (by decide) (by decide +kernel) rfl rfl rfl (Nat.le_of_ble_eq_true rfl) rfl dX9_spikesBy_75 (fun H locs M => ?_)
        refine lv_aload_n S.1 S.2.1 dX9_spikesBy_78 rfl (lv_at hl 0 rfl) ?_
        refine lv_dup S.1 S.2.1 dX9_spikesBy_79 rfl ?_
        refine gget S hE M (C := RX9) (T := TX9) (N := 28) (ci := 9) (index := 109) hwi 0 rfl rfl 19 (by decide) (by decide +kernel) rfl dX9_spikesBy_80 ?_
        refine lv_iconst (v := 1) S.1 S.2.1 dX9_spikesBy_83 (by decide) ?_
        refine lv_iadd S.1 S.2.1 dX9_spikesBy_84 ?_
        refine gput S hE M (C := RX9) (T := TX9) (N := 28) (ci := 9) (index := 109) (Gs' := [[(am 0, .inr (9, [.ref (am 1), .ref (am 2), .int (nI z.tn), .int z.mn, .int z.mk, .int z.mg, .int z.jp, .int (nI z.ct), .ref (am 3), .ref (am 4), .ref (am 5), .ref (am 6), .int (nI z.sp), .ref (am 7), .ref (am 8), .ref (am 9), .ref (am 10), .int 1, .int (MdS.dl ((z.sg, z.tp, z.tn, z.mn, z.mk, z.mg, z.jp, z.ct, z.fr, z.wh, z.sn, z.ca, z.sp, z.hd, z.ps, z.tm, z.mm, true, z.ba, z.bg, z.se, z.up, z.by_, z.co, z.po, z.gr, z.tx, z.wr) : MdS) (a - 1)), .int (z.bg + 1), .ref (am 11), .long z.up, .long z.by_, .int z.co, .int z.po, .int z.gr, .ref (am 12), .int (nI z.wr)]))], [((am 1), .inl (xI E, 25, .inl z.sg))], [((am 2), .inl (xI E, 8, .inl z.tp))], [((am 3), .inl (xI E, 120, .inl z.fr))], [((am 4), .inl (xI E, 120, .inl z.wh))], [((am 5), .inl (xI E, 120, .inl z.sn))], [((am 6), .inl (xI E, 300, .inl z.ca))], [((am 7), .inl (xI E, 120, .inl z.hd))], [((am 8), .inl (xI E, 120, .inl z.ps))], [((am 9), .inl (xI E, 120, .inl z.tm))], [((am 10), .inl (xI E, 120, .inl z.mm))], [((am 11), .inl (xJ E, 120, .inr (.inl z.se)))], [((am 12), .inl (xI E, 400, .inl z.tx))]]) hwi tyX9 tyX9_ok nmX9 0 rfl rfl 19 (by decide) (by decide +kernel) rfl rfl rfl (Nat.le_of_ble_eq_true rfl) rfl dX9_spikesBy_85 (fun H locs M => ?_)
        have he : MdS.spk z a = ((z.sg, z.tp, z.tn, z.mn, z.mk, z.mg, z.jp, z.ct, z.fr, z.wh, z.sn, z.ca, z.sp, z.hd, z.ps, z.tm, z.mm, true, MdS.dl ((z.sg, z.tp, z.tn, z.mn, z.mk, z.mg, z.jp, z.ct, z.fr, z.wh, z.sn, z.ca, z.sp, z.hd, z.ps, z.tm, z.mm, true, z.ba, z.bg, z.se, z.up, z.by_, z.co, z.po, z.gr, z.tx, z.wr) : MdS) (a - 1), z.bg + 1, z.se, z.up, z.by_, z.co, z.po, z.gr, z.tx, z.wr) : MdS) := by unfold MdS.spk; rw [if_pos c4, if_neg c39, if_neg c59] <;> rfl
        exact gvret S hr hlk M (by rw [he]; rfl) dX9_spikesBy_88
  ·
    refine lv_aload_n S.1 S.2.1 dX9_spikesBy_7 rfl (lv_at hl 0 rfl) ?_
    refine lv_aload_n S.1 S.2.1 dX9_spikesBy_8 rfl (lv_at hl 0 rfl) ?_
    refine lv_iload_n S.1 S.2.1 dX9_spikesBy_9 rfl (lv_at hl 1 rfl) ?_
    refine gcalli (L := []) (Mid := modGs E am z) (Rr := []) (Mid' := modGs E am z) hE M rfl (rfl) (rfl) (fun hp => va_runV (As := [.int (nI a)]) (rest := [.ref (am 0)]) S (c_X9_delay l E am z a  ha _) (cwV 1 S.2.2.2.2 gX9_spikesBy_X9_delay rfl rfl rfl kd_X9_delay ⟨Nat.le_of_ble_eq_true rfl, Nat.le_of_ble_eq_true rfl⟩) (hp.V hE (show vwCl[9]? = some (RX9, TX9, 28) from rfl) rfl) rfl rfl hl.1 rfl (lv_room (Nat.le_of_ble_eq_true rfl)) dX9_spikesBy_10 ⟨Nat.zero_le _, Nat.zero_le _⟩) (fun H locs M => ?_)
    have M : gM E A s.heap [[(am 0, .inr (9, [.ref (am 1), .ref (am 2), .int (nI z.tn), .int z.mn, .int z.mk, .int z.mg, .int z.jp, .int (nI z.ct), .ref (am 3), .ref (am 4), .ref (am 5), .ref (am 6), .int (nI z.sp), .ref (am 7), .ref (am 8), .ref (am 9), .ref (am 10), .int (b2i z.on), .int z.ba, .int z.bg, .ref (am 11), .long z.up, .long z.by_, .int z.co, .int z.po, .int z.gr, .ref (am 12), .int (nI z.wr)]))], [((am 1), .inl (xI E, 25, .inl z.sg))], [((am 2), .inl (xI E, 8, .inl z.tp))], [((am 3), .inl (xI E, 120, .inl z.fr))], [((am 4), .inl (xI E, 120, .inl z.wh))], [((am 5), .inl (xI E, 120, .inl z.sn))], [((am 6), .inl (xI E, 300, .inl z.ca))], [((am 7), .inl (xI E, 120, .inl z.hd))], [((am 8), .inl (xI E, 120, .inl z.ps))], [((am 9), .inl (xI E, 120, .inl z.tm))], [((am 10), .inl (xI E, 120, .inl z.mm))], [((am 11), .inl (xJ E, 120, .inr (.inl z.se)))], [((am 12), .inl (xI E, 400, .inl z.tx))]] H locs := M
    refine lv_aload_n S.1 S.2.1 dX9_spikesBy_13 rfl (lv_at hl 0 rfl) ?_
    refine gget S hE M (C := RX9) (T := TX9) (N := 28) (ci := 9) (index := 106) hwi 0 rfl rfl 18 (by decide) (by decide +kernel) rfl dX9_spikesBy_14 ?_
    refine lv_aload_n S.1 S.2.1 dX9_spikesBy_17 rfl (lv_at hl 0 rfl) ?_
    refine gget S hE M (C := RX9) (T := TX9) (N := 28) (ci := 9) (index := 20) hwi 0 rfl rfl 6 (by decide) (by decide +kernel) rfl dX9_spikesBy_18 ?_
    refine lv_iconst (v := 2) S.1 S.2.1 dX9_spikesBy_21 (by decide) ?_
    refine lv_idiv S.1 S.2.1 dX9_spikesBy_22 (by decide) ?_
    refine lv_iadd S.1 S.2.1 dX9_spikesBy_23 ?_
    refine lv_icmp_le (tgt := 31) S.1 S.2.1 dX9_spikesBy_24 (by decide) (fun c24 => ?_) (fun c24 => ?_)
    ·
      refine lv_iconst (v := 0) S.1 S.2.1 dX9_spikesBy_31 (by decide) ?_
      refine gput S hE M (C := RX9) (T := TX9) (N := 28) (ci := 9) (index := 99) (Gs' := [[(am 0, .inr (9, [.ref (am 1), .ref (am 2), .int (nI z.tn), .int z.mn, .int z.mk, .int z.mg, .int z.jp, .int (nI z.ct), .ref (am 3), .ref (am 4), .ref (am 5), .ref (am 6), .int (nI z.sp), .ref (am 7), .ref (am 8), .ref (am 9), .ref (am 10), .int 0, .int z.ba, .int z.bg, .ref (am 11), .long z.up, .long z.by_, .int z.co, .int z.po, .int z.gr, .ref (am 12), .int (nI z.wr)]))], [((am 1), .inl (xI E, 25, .inl z.sg))], [((am 2), .inl (xI E, 8, .inl z.tp))], [((am 3), .inl (xI E, 120, .inl z.fr))], [((am 4), .inl (xI E, 120, .inl z.wh))], [((am 5), .inl (xI E, 120, .inl z.sn))], [((am 6), .inl (xI E, 300, .inl z.ca))], [((am 7), .inl (xI E, 120, .inl z.hd))], [((am 8), .inl (xI E, 120, .inl z.ps))], [((am 9), .inl (xI E, 120, .inl z.tm))], [((am 10), .inl (xI E, 120, .inl z.mm))], [((am 11), .inl (xJ E, 120, .inr (.inl z.se)))], [((am 12), .inl (xI E, 400, .inl z.tx))]]) hwi tyX9 tyX9_ok nmX9 0 rfl rfl 17 (by decide) (by decide +kernel) rfl rfl rfl (Nat.le_of_ble_eq_true rfl) rfl dX9_spikesBy_32 (fun H locs M => ?_)
      refine lv_goto (tgt := 88) S.1 S.2.1 dX9_spikesBy_35 (by decide) ?_
      have he : MdS.spk z a = ((z.sg, z.tp, z.tn, z.mn, z.mk, z.mg, z.jp, z.ct, z.fr, z.wh, z.sn, z.ca, z.sp, z.hd, z.ps, z.tm, z.mm, false, z.ba, z.bg, z.se, z.up, z.by_, z.co, z.po, z.gr, z.tx, z.wr) : MdS) := by unfold MdS.spk; rw [if_neg c4, if_pos c24] <;> rfl
      exact gvret S hr hlk M (by rw [he]; rfl) dX9_spikesBy_88
    ·
      refine lv_iconst (v := 1) S.1 S.2.1 dX9_spikesBy_27 (by decide) ?_
      refine lv_goto (tgt := 32) S.1 S.2.1 dX9_spikesBy_28 (by decide) ?_
      refine gput S hE M (C := RX9) (T := TX9) (N := 28) (ci := 9) (index := 99) (Gs' := [[(am 0, .inr (9, [.ref (am 1), .ref (am 2), .int (nI z.tn), .int z.mn, .int z.mk, .int z.mg, .int z.jp, .int (nI z.ct), .ref (am 3), .ref (am 4), .ref (am 5), .ref (am 6), .int (nI z.sp), .ref (am 7), .ref (am 8), .ref (am 9), .ref (am 10), .int 1, .int z.ba, .int z.bg, .ref (am 11), .long z.up, .long z.by_, .int z.co, .int z.po, .int z.gr, .ref (am 12), .int (nI z.wr)]))], [((am 1), .inl (xI E, 25, .inl z.sg))], [((am 2), .inl (xI E, 8, .inl z.tp))], [((am 3), .inl (xI E, 120, .inl z.fr))], [((am 4), .inl (xI E, 120, .inl z.wh))], [((am 5), .inl (xI E, 120, .inl z.sn))], [((am 6), .inl (xI E, 300, .inl z.ca))], [((am 7), .inl (xI E, 120, .inl z.hd))], [((am 8), .inl (xI E, 120, .inl z.ps))], [((am 9), .inl (xI E, 120, .inl z.tm))], [((am 10), .inl (xI E, 120, .inl z.mm))], [((am 11), .inl (xJ E, 120, .inr (.inl z.se)))], [((am 12), .inl (xI E, 400, .inl z.tx))]]) hwi tyX9 tyX9_ok nmX9 0 rfl rfl 17 (by decide) (by decide +kernel) rfl rfl rfl (Nat.le_of_ble_eq_true rfl) rfl dX9_spikesBy_32 (fun H locs M => ?_)
      refine lv_goto (tgt := 88) S.1 S.2.1 dX9_spikesBy_35 (by decide) ?_
      have he : MdS.spk z a = ((z.sg, z.tp, z.tn, z.mn, z.mk, z.mg, z.jp, z.ct, z.fr, z.wh, z.sn, z.ca, z.sp, z.hd, z.ps, z.tm, z.mm, true, z.ba, z.bg, z.se, z.up, z.by_, z.co, z.po, z.gr, z.tx, z.wr) : MdS) := by unfold MdS.spk; rw [if_neg c4, if_neg c24] <;> rfl
      exact gvret S hr hlk M (by rw [he]; rfl) dX9_spikesBy_88

set_option maxHeartbeats 4000000 in
set_option maxRecDepth 100000 in
theorem c_X9_anew (l : Launch) (E : xE) (am : Nat → Nat) (z : MdS) : mI l yX9_anew wsX9_anew (xrm 0 0) E [.ref (am 0)] (modGs E am z) ((MdS.anew z).1) (modGs E am ((MdS.anew z).2)) := by
  intro sz
  refine Met.ofW (cc := cX9_anew) (maxL := 3) (ret := (some .int)) (by decide +kernel) rfl ?_
  intro vp ve s vm args below meth vc s₁ B hml hv
  obtain ⟨rfl, S, hr, hlk, hnm, A, hA, hE, M⟩ := genter B hml hv
  rw [hA]
  obtain ⟨ls, hfr, hl⟩ := gst (m := vm) (as := [.ref (am 0)]) (n := 3) (Nat.le_of_ble_eq_true rfl)
  rw [hfr]
  clear hfr hA
  have hl : lv_has ls 3 [(0, .ref (am 0))] := hl
  have M : gM E A s.heap [[(am 0, .inr (9, [.ref (am 1), .ref (am 2), .int (nI z.tn), .int z.mn, .int z.mk, .int z.mg, .int z.jp, .int (nI z.ct), .ref (am 3), .ref (am 4), .ref (am 5), .ref (am 6), .int (nI z.sp), .ref (am 7), .ref (am 8), .ref (am 9), .ref (am 10), .int (b2i z.on), .int z.ba, .int z.bg, .ref (am 11), .long z.up, .long z.by_, .int z.co, .int z.po, .int z.gr, .ref (am 12), .int (nI z.wr)]))], [((am 1), .inl (xI E, 25, .inl z.sg))], [((am 2), .inl (xI E, 8, .inl z.tp))], [((am 3), .inl (xI E, 120, .inl z.fr))], [((am 4), .inl (xI E, 120, .inl z.wh))], [((am 5), .inl (xI E, 120, .inl z.sn))], [((am 6), .inl (xI E, 300, .inl z.ca))], [((am 7), .inl (xI E, 120, .inl z.hd))], [((am 8), .inl (xI E, 120, .inl z.ps))], [((am 9), .inl (xI E, 120, .inl z.tm))], [((am 10), .inl (xI E, 120, .inl z.mm))], [((am 11), .inl (xJ E, 120, .inr (.inl z.se)))], [((am 12), .inl (xI E, 400, .inl z.tx))]] s.heap [] := M
  have hwi : ∀ w ∈ u_ws RX9 TX9 28, w ∈ wsX9_anew := by decide +kernel
  obtain ⟨Q, hQ⟩ : ∃ Q : State → Prop, MQ below (va_Qi (fun x (_ : Unit) => x = ((MdS.anew z).1)) (fun _ => kQ E A (modGs E am ((MdS.anew z).2))) A) ([.ref (am 0)] : List Value).toArray s 0 0 A = Q := ⟨_, rfl⟩
  rw [hQ]
  have hL : ∀ (n : Nat), ∀ (i : Nat) (f : Nat → Int32), i + n = 300 → cal 300 0 z.ca = cal n i f → ∀ (H : Heap) (locs : List Loc), gM E A s.heap [[(am 0, .inr (9, [.ref (am 1), .ref (am 2), .int (nI z.tn), .int z.mn, .int z.mk, .int z.mg, .int z.jp, .int (nI z.ct), .ref (am 3), .ref (am 4), .ref (am 5), .ref (am 6), .int (nI z.sp), .ref (am 7), .ref (am 8), .ref (am 9), .ref (am 10), .int (b2i z.on), .int z.ba, .int z.bg, .ref (am 11), .long z.up, .long z.by_, .int z.co, .int z.po, .int z.gr, .ref (am 12), .int (nI z.wr)]))], [((am 1), .inl (xI E, 25, .inl z.sg))], [((am 2), .inl (xI E, 8, .inl z.tp))], [((am 3), .inl (xI E, 120, .inl z.fr))], [((am 4), .inl (xI E, 120, .inl z.wh))], [((am 5), .inl (xI E, 120, .inl z.sn))], [((am 6), .inl (xI E, 300, .inl f))], [((am 7), .inl (xI E, 120, .inl z.hd))], [((am 8), .inl (xI E, 120, .inl z.ps))], [((am 9), .inl (xI E, 120, .inl z.tm))], [((am 10), .inl (xI E, 120, .inl z.mm))], [((am 11), .inl (xJ E, 120, .inr (.inl z.se)))], [((am 12), .inl (xI E, 400, .inl z.tx))]] H locs → ∀ ls : Array Slot, lv_has ls 3 [(0, .ref (am 0)), (1, .int (nI z.ct)), (2, .int (nI i))] → W vp l ve (headSpec wsX9_anew (xrm 0 0)).room s vm ([.ref (am 0)] : List Value).toArray below meth vc H locs 0 0 Q (F0 vm 7 ls []) := by
    intro n
    induction n with
    | zero =>
      intro i f hi hI H locs M ls hl
      refine lv_iload_n S.1 S.2.1 dX9_anew_7 rfl (lv_at hl 2 rfl) ?_
      refine lv_sipush (v := 300) S.1 S.2.1 dX9_anew_8 (by decide) ?_
      refine lv_icmp_ge (tgt := 28) S.1 S.2.1 dX9_anew_11 (by decide) (fun _ => ?_) (fun c_ => absurd (nI_le (a := 300) (by omega) (by omega)) c_)
      refine lv_aload_n S.1 S.2.1 dX9_anew_28 rfl (lv_at hl 0 rfl) ?_
      refine lv_iconst (v := 0) S.1 S.2.1 dX9_anew_29 (by decide) ?_
      refine gput S hE M (C := RX9) (T := TX9) (N := 28) (ci := 9) (index := 78) (Gs' := [[(am 0, .inr (9, [.ref (am 1), .ref (am 2), .int (nI z.tn), .int z.mn, .int z.mk, .int z.mg, .int z.jp, .int 0, .ref (am 3), .ref (am 4), .ref (am 5), .ref (am 6), .int (nI z.sp), .ref (am 7), .ref (am 8), .ref (am 9), .ref (am 10), .int (b2i z.on), .int z.ba, .int z.bg, .ref (am 11), .long z.up, .long z.by_, .int z.co, .int z.po, .int z.gr, .ref (am 12), .int (nI z.wr)]))], [((am 1), .inl (xI E, 25, .inl z.sg))], [((am 2), .inl (xI E, 8, .inl z.tp))], [((am 3), .inl (xI E, 120, .inl z.fr))], [((am 4), .inl (xI E, 120, .inl z.wh))], [((am 5), .inl (xI E, 120, .inl z.sn))], [((am 6), .inl (xI E, 300, .inl f))], [((am 7), .inl (xI E, 120, .inl z.hd))], [((am 8), .inl (xI E, 120, .inl z.ps))], [((am 9), .inl (xI E, 120, .inl z.tm))], [((am 10), .inl (xI E, 120, .inl z.mm))], [((am 11), .inl (xJ E, 120, .inr (.inl z.se)))], [((am 12), .inl (xI E, 400, .inl z.tx))]]) hwi tyX9 tyX9_ok nmX9 0 rfl rfl 7 (by decide) (by decide +kernel) rfl rfl rfl (Nat.le_of_ble_eq_true rfl) rfl dX9_anew_30 (fun H locs M => ?_)
      refine lv_aload_n S.1 S.2.1 dX9_anew_33 rfl (lv_at hl 0 rfl) ?_
      refine lv_iconst (v := 0) S.1 S.2.1 dX9_anew_34 (by decide) ?_
      refine gput S hE M (C := RX9) (T := TX9) (N := 28) (ci := 9) (index := 75) (Gs' := [[(am 0, .inr (9, [.ref (am 1), .ref (am 2), .int (nI z.tn), .int z.mn, .int z.mk, .int z.mg, .int z.jp, .int 0, .ref (am 3), .ref (am 4), .ref (am 5), .ref (am 6), .int 0, .ref (am 7), .ref (am 8), .ref (am 9), .ref (am 10), .int (b2i z.on), .int z.ba, .int z.bg, .ref (am 11), .long z.up, .long z.by_, .int z.co, .int z.po, .int z.gr, .ref (am 12), .int (nI z.wr)]))], [((am 1), .inl (xI E, 25, .inl z.sg))], [((am 2), .inl (xI E, 8, .inl z.tp))], [((am 3), .inl (xI E, 120, .inl z.fr))], [((am 4), .inl (xI E, 120, .inl z.wh))], [((am 5), .inl (xI E, 120, .inl z.sn))], [((am 6), .inl (xI E, 300, .inl f))], [((am 7), .inl (xI E, 120, .inl z.hd))], [((am 8), .inl (xI E, 120, .inl z.ps))], [((am 9), .inl (xI E, 120, .inl z.tm))], [((am 10), .inl (xI E, 120, .inl z.mm))], [((am 11), .inl (xJ E, 120, .inr (.inl z.se)))], [((am 12), .inl (xI E, 400, .inl z.tx))]]) hwi tyX9 tyX9_ok nmX9 0 rfl rfl 12 (by decide) (by decide +kernel) rfl rfl rfl (Nat.le_of_ble_eq_true rfl) rfl dX9_anew_35 (fun H locs M => ?_)
      refine lv_aload_n S.1 S.2.1 dX9_anew_38 rfl (lv_at hl 0 rfl) ?_
      refine lv_iconst (v := 0) S.1 S.2.1 dX9_anew_39 (by decide) ?_
      refine gput S hE M (C := RX9) (T := TX9) (N := 28) (ci := 9) (index := 99) (Gs' := [[(am 0, .inr (9, [.ref (am 1), .ref (am 2), .int (nI z.tn), .int z.mn, .int z.mk, .int z.mg, .int z.jp, .int 0, .ref (am 3), .ref (am 4), .ref (am 5), .ref (am 6), .int 0, .ref (am 7), .ref (am 8), .ref (am 9), .ref (am 10), .int 0, .int z.ba, .int z.bg, .ref (am 11), .long z.up, .long z.by_, .int z.co, .int z.po, .int z.gr, .ref (am 12), .int (nI z.wr)]))], [((am 1), .inl (xI E, 25, .inl z.sg))], [((am 2), .inl (xI E, 8, .inl z.tp))], [((am 3), .inl (xI E, 120, .inl z.fr))], [((am 4), .inl (xI E, 120, .inl z.wh))], [((am 5), .inl (xI E, 120, .inl z.sn))], [((am 6), .inl (xI E, 300, .inl f))], [((am 7), .inl (xI E, 120, .inl z.hd))], [((am 8), .inl (xI E, 120, .inl z.ps))], [((am 9), .inl (xI E, 120, .inl z.tm))], [((am 10), .inl (xI E, 120, .inl z.mm))], [((am 11), .inl (xJ E, 120, .inr (.inl z.se)))], [((am 12), .inl (xI E, 400, .inl z.tx))]]) hwi tyX9 tyX9_ok nmX9 0 rfl rfl 17 (by decide) (by decide +kernel) rfl rfl rfl (Nat.le_of_ble_eq_true rfl) rfl dX9_anew_40 (fun H locs M => ?_)
      refine lv_aload_n S.1 S.2.1 dX9_anew_43 rfl (lv_at hl 0 rfl) ?_
      refine lv_iconst (v := 0) S.1 S.2.1 dX9_anew_44 (by decide) ?_
      refine gput S hE M (C := RX9) (T := TX9) (N := 28) (ci := 9) (index := 109) (Gs' := [[(am 0, .inr (9, [.ref (am 1), .ref (am 2), .int (nI z.tn), .int z.mn, .int z.mk, .int z.mg, .int z.jp, .int 0, .ref (am 3), .ref (am 4), .ref (am 5), .ref (am 6), .int 0, .ref (am 7), .ref (am 8), .ref (am 9), .ref (am 10), .int 0, .int z.ba, .int 0, .ref (am 11), .long z.up, .long z.by_, .int z.co, .int z.po, .int z.gr, .ref (am 12), .int (nI z.wr)]))], [((am 1), .inl (xI E, 25, .inl z.sg))], [((am 2), .inl (xI E, 8, .inl z.tp))], [((am 3), .inl (xI E, 120, .inl z.fr))], [((am 4), .inl (xI E, 120, .inl z.wh))], [((am 5), .inl (xI E, 120, .inl z.sn))], [((am 6), .inl (xI E, 300, .inl f))], [((am 7), .inl (xI E, 120, .inl z.hd))], [((am 8), .inl (xI E, 120, .inl z.ps))], [((am 9), .inl (xI E, 120, .inl z.tm))], [((am 10), .inl (xI E, 120, .inl z.mm))], [((am 11), .inl (xJ E, 120, .inr (.inl z.se)))], [((am 12), .inl (xI E, 400, .inl z.tx))]]) hwi tyX9 tyX9_ok nmX9 0 rfl rfl 19 (by decide) (by decide +kernel) rfl rfl rfl (Nat.le_of_ble_eq_true rfl) rfl dX9_anew_45 (fun H locs M => ?_)
      refine lv_iload_n S.1 S.2.1 dX9_anew_48 rfl (lv_at hl 1 rfl) ?_
      rw [← hQ]
      have he : MdS.anew z = (nI z.ct, ((z.sg, z.tp, z.tn, z.mn, z.mk, z.mg, z.jp, 0, z.fr, z.wh, z.sn, f, 0, z.hd, z.ps, z.tm, z.mm, false, z.ba, 0, z.se, z.up, z.by_, z.co, z.po, z.gr, z.tx, z.wr) : MdS)) := by unfold MdS.anew; rw [hI, cal] <;> rfl
      exact giret S hr hlk M (by rw [he]) (by rw [he]; rfl) dX9_anew_49
    | succ n ih =>
      intro i f hi hI H locs M ls hl
      refine lv_iload_n S.1 S.2.1 dX9_anew_7 rfl (lv_at hl 2 rfl) ?_
      refine lv_sipush (v := 300) S.1 S.2.1 dX9_anew_8 (by decide) ?_
      refine lv_icmp_ge (tgt := 28) S.1 S.2.1 dX9_anew_11 (by decide) (fun c_ => absurd c_ (nI_ge (b := 300) (by omega) (by omega))) (fun _ => ?_)
      refine lv_aload_n S.1 S.2.1 dX9_anew_14 rfl (lv_at hl 0 rfl) ?_
      refine gget S hE M (C := RX9) (T := TX9) (N := 28) (ci := 9) (index := 32) hwi 0 rfl rfl 11 (by decide) (by decide +kernel) rfl dX9_anew_15 ?_
      refine lv_iload_n S.1 S.2.1 dX9_anew_18 rfl (lv_at hl 2 rfl) ?_
      refine lv_bipush (v := (-9)) S.1 S.2.1 dX9_anew_19 (by decide) ?_
      refine giast S hE M (Gs' := [[(am 0, .inr (9, [.ref (am 1), .ref (am 2), .int (nI z.tn), .int z.mn, .int z.mk, .int z.mg, .int z.jp, .int (nI z.ct), .ref (am 3), .ref (am 4), .ref (am 5), .ref (am 6), .int (nI z.sp), .ref (am 7), .ref (am 8), .ref (am 9), .ref (am 10), .int (b2i z.on), .int z.ba, .int z.bg, .ref (am 11), .long z.up, .long z.by_, .int z.co, .int z.po, .int z.gr, .ref (am 12), .int (nI z.wr)]))], [((am 1), .inl (xI E, 25, .inl z.sg))], [((am 2), .inl (xI E, 8, .inl z.tp))], [((am 3), .inl (xI E, 120, .inl z.fr))], [((am 4), .inl (xI E, 120, .inl z.wh))], [((am 5), .inl (xI E, 120, .inl z.sn))], [((am 6), .inl (xI E, 300, .inl (upd f i (-9))))], [((am 7), .inl (xI E, 120, .inl z.hd))], [((am 8), .inl (xI E, 120, .inl z.ps))], [((am 9), .inl (xI E, 120, .inl z.tm))], [((am 10), .inl (xI E, 120, .inl z.mm))], [((am 11), .inl (xJ E, 120, .inr (.inl z.se)))], [((am 12), .inl (xI E, 400, .inl z.tx))]]) 6 rfl (vp_in_nI (by omega) (by omega)) (by rw [nI_clamp (by omega)]; rfl) dX9_anew_21 (fun H locs M => ?_)
      refine lv_iinc (v := nI (i + 1)) (lv' := [(2, .int (nI (i + 1))), (0, .ref (am 0)), (1, .int (nI z.ct))]) S.1 S.2.1 dX9_anew_22 hl (k := 2) rfl (nI_1 _) (by decide) rfl (fun ls hl => ?_)
      refine lv_goto (tgt := 7) S.1 S.2.1 dX9_anew_25 (by decide) ?_
      exact ih (i + 1) _ (by omega) (by rw [hI, cal]) _ _ M ls (lv_sub hl [1, 2, 0] rfl)
  refine lv_aload_n S.1 S.2.1 dX9_anew_0 rfl (lv_at hl 0 rfl) ?_
  refine gget S hE M (C := RX9) (T := TX9) (N := 28) (ci := 9) (index := 78) hwi 0 rfl rfl 7 (by decide) (by decide +kernel) rfl dX9_anew_1 ?_
  refine lv_istore_n (lv' := [(1, .int (nI z.ct)), (0, .ref (am 0))]) S.1 S.2.1 dX9_anew_4 rfl hl (by decide) rfl (fun ls hl => ?_)
  refine lv_iconst (v := 0) S.1 S.2.1 dX9_anew_5 (by decide) ?_
  refine lv_istore_n (lv' := [(2, .int 0), (1, .int (nI z.ct)), (0, .ref (am 0))]) S.1 S.2.1 dX9_anew_6 rfl hl (by decide) rfl (fun ls hl => ?_)
  exact hL 300 0 z.ca (by omega) rfl _ _ M ls (lv_sub hl [2, 1, 0] rfl)

set_option maxHeartbeats 4000000 in
set_option maxRecDepth 100000 in
theorem c_X9_oldest (l : Launch) (E : xE) (am : Nat → Nat) (z : MdS) (hc : z.ct ≤ 120) : mI l yX9_oldest wsX9_oldest (xrm 0 0) E [.ref (am 0)] (modGs E am z) (nI z.old) (modGs E am z) := by
  intro sz
  refine Met.ofW (cc := cX9_oldest) (maxL := 1) (ret := (some .int)) (by decide +kernel) rfl ?_
  intro vp ve s vm args below meth vc s₁ B hml hv
  obtain ⟨rfl, S, hr, hlk, hnm, A, hA, hE, M⟩ := genter B hml hv
  rw [hA]
  obtain ⟨ls, hfr, hl⟩ := gst (m := vm) (as := [.ref (am 0)]) (n := 1) (Nat.le_of_ble_eq_true rfl)
  rw [hfr]
  clear hfr hA
  have hl : lv_has ls 1 [(0, .ref (am 0))] := hl
  have M : gM E A s.heap [[(am 0, .inr (9, [.ref (am 1), .ref (am 2), .int (nI z.tn), .int z.mn, .int z.mk, .int z.mg, .int z.jp, .int (nI z.ct), .ref (am 3), .ref (am 4), .ref (am 5), .ref (am 6), .int (nI z.sp), .ref (am 7), .ref (am 8), .ref (am 9), .ref (am 10), .int (b2i z.on), .int z.ba, .int z.bg, .ref (am 11), .long z.up, .long z.by_, .int z.co, .int z.po, .int z.gr, .ref (am 12), .int (nI z.wr)]))], [((am 1), .inl (xI E, 25, .inl z.sg))], [((am 2), .inl (xI E, 8, .inl z.tp))], [((am 3), .inl (xI E, 120, .inl z.fr))], [((am 4), .inl (xI E, 120, .inl z.wh))], [((am 5), .inl (xI E, 120, .inl z.sn))], [((am 6), .inl (xI E, 300, .inl z.ca))], [((am 7), .inl (xI E, 120, .inl z.hd))], [((am 8), .inl (xI E, 120, .inl z.ps))], [((am 9), .inl (xI E, 120, .inl z.tm))], [((am 10), .inl (xI E, 120, .inl z.mm))], [((am 11), .inl (xJ E, 120, .inr (.inl z.se)))], [((am 12), .inl (xI E, 400, .inl z.tx))]] s.heap [] := M
  have hwi : ∀ w ∈ u_ws RX9 TX9 28, w ∈ wsX9_oldest := by decide +kernel
  refine lv_aload_n S.1 S.2.1 dX9_oldest_0 rfl (lv_at hl 0 rfl) ?_
  refine gget S hE M (C := RX9) (T := TX9) (N := 28) (ci := 9) (index := 78) hwi 0 rfl rfl 7 (by decide) (by decide +kernel) rfl dX9_oldest_1 ?_
  refine lv_bipush (v := 32) S.1 S.2.1 dX9_oldest_4 (by decide) ?_
  refine lv_icmp_le (tgt := 19) S.1 S.2.1 dX9_oldest_6 (by decide) (fun c6 => ?_) (fun c6 => ?_)
  ·
    refine lv_iconst (v := 0) S.1 S.2.1 dX9_oldest_19 (by decide) ?_
    exact giret S hr hlk M (by have q := (nI_leI (a := z.ct) (b := 32) (by omega) (by omega)).mp c6; unfold MdS.old; rw [Nat.sub_eq_zero_of_le q]; rfl) (rfl) dX9_oldest_20
  ·
    refine lv_aload_n S.1 S.2.1 dX9_oldest_9 rfl (lv_at hl 0 rfl) ?_
    refine gget S hE M (C := RX9) (T := TX9) (N := 28) (ci := 9) (index := 78) hwi 0 rfl rfl 7 (by decide) (by decide +kernel) rfl dX9_oldest_10 ?_
    refine lv_bipush (v := 32) S.1 S.2.1 dX9_oldest_13 (by decide) ?_
    refine lv_isub S.1 S.2.1 dX9_oldest_15 ?_
    refine lv_goto (tgt := 20) S.1 S.2.1 dX9_oldest_16 (by decide) ?_
    exact giret S hr hlk M (by have q : ¬ z.ct ≤ 32 := fun q => c6 (nI_le (b := 32) q (by omega)); unfold MdS.old; exact pk_sub (b := 32) (by omega)) (rfl) dX9_oldest_20

set_option maxHeartbeats 4000000 in
set_option maxRecDepth 100000 in
theorem c_X9_isUnder (l : Launch) (E : xE) (am : Nat → Nat) (z : MdS) (a : Nat) (b : Nat) (ha : a < 120) (hb : b < 120) (hc : z.ct ≤ 120) : mI l yX9_isUnder wsX9_isUnder (xrm 1 21) E [.ref (am 0), .int (nI a), .int (nI b)] (modGs E am z) (z.under a b) (modGs E am z) := by
  intro sz
  refine Met.ofW (cc := cX9_isUnder) (maxL := 8) (ret := (some .boolean)) (by decide +kernel) rfl ?_
  intro vp ve s vm args below meth vc s₁ B hml hv
  obtain ⟨rfl, S, hr, hlk, hnm, A, hA, hE, M⟩ := genter B hml hv
  rw [hA]
  obtain ⟨ls, hfr, hl⟩ := gst (m := vm) (as := [.ref (am 0), .int (nI a), .int (nI b)]) (n := 8) (Nat.le_of_ble_eq_true rfl)
  rw [hfr]
  clear hfr hA
  have hl : lv_has ls 8 [(0, .ref (am 0)), (1, .int (nI a)), (2, .int (nI b))] := hl
  have M : gM E A s.heap [[(am 0, .inr (9, [.ref (am 1), .ref (am 2), .int (nI z.tn), .int z.mn, .int z.mk, .int z.mg, .int z.jp, .int (nI z.ct), .ref (am 3), .ref (am 4), .ref (am 5), .ref (am 6), .int (nI z.sp), .ref (am 7), .ref (am 8), .ref (am 9), .ref (am 10), .int (b2i z.on), .int z.ba, .int z.bg, .ref (am 11), .long z.up, .long z.by_, .int z.co, .int z.po, .int z.gr, .ref (am 12), .int (nI z.wr)]))], [((am 1), .inl (xI E, 25, .inl z.sg))], [((am 2), .inl (xI E, 8, .inl z.tp))], [((am 3), .inl (xI E, 120, .inl z.fr))], [((am 4), .inl (xI E, 120, .inl z.wh))], [((am 5), .inl (xI E, 120, .inl z.sn))], [((am 6), .inl (xI E, 300, .inl z.ca))], [((am 7), .inl (xI E, 120, .inl z.hd))], [((am 8), .inl (xI E, 120, .inl z.ps))], [((am 9), .inl (xI E, 120, .inl z.tm))], [((am 10), .inl (xI E, 120, .inl z.mm))], [((am 11), .inl (xJ E, 120, .inr (.inl z.se)))], [((am 12), .inl (xI E, 400, .inl z.tx))]] s.heap [] := M
  have hwi : ∀ w ∈ u_ws RX9 TX9 28, w ∈ wsX9_isUnder := by decide +kernel
  obtain ⟨Q, hQ⟩ : ∃ Q : State → Prop, MQ below (va_Qi (fun x (_ : Unit) => x = (z.under a b)) (fun _ => kQ E A (modGs E am z)) A) ([.ref (am 0), .int (nI a), .int (nI b)] : List Value).toArray s 0 0 A = Q := ⟨_, rfl⟩
  rw [hQ]
  have hL : ∀ (n : Nat), ∀ (c : Nat), c + n = z.ct → z.under a b = undl z a b n c → ∀ (H : Heap) (locs : List Loc), gM E A s.heap [[(am 0, .inr (9, [.ref (am 1), .ref (am 2), .int (nI z.tn), .int z.mn, .int z.mk, .int z.mg, .int z.jp, .int (nI z.ct), .ref (am 3), .ref (am 4), .ref (am 5), .ref (am 6), .int (nI z.sp), .ref (am 7), .ref (am 8), .ref (am 9), .ref (am 10), .int (b2i z.on), .int z.ba, .int z.bg, .ref (am 11), .long z.up, .long z.by_, .int z.co, .int z.po, .int z.gr, .ref (am 12), .int (nI z.wr)]))], [((am 1), .inl (xI E, 25, .inl z.sg))], [((am 2), .inl (xI E, 8, .inl z.tp))], [((am 3), .inl (xI E, 120, .inl z.fr))], [((am 4), .inl (xI E, 120, .inl z.wh))], [((am 5), .inl (xI E, 120, .inl z.sn))], [((am 6), .inl (xI E, 300, .inl z.ca))], [((am 7), .inl (xI E, 120, .inl z.hd))], [((am 8), .inl (xI E, 120, .inl z.ps))], [((am 9), .inl (xI E, 120, .inl z.tm))], [((am 10), .inl (xI E, 120, .inl z.mm))], [((am 11), .inl (xJ E, 120, .inr (.inl z.se)))], [((am 12), .inl (xI E, 400, .inl z.tx))]] H locs → ∀ ls : Array Slot, lv_has ls 8 [(0, .ref (am 0)), (1, .int (nI a)), (2, .int (nI b)), (3, .long (z.rise a b)), (5, .long (z.far a b)), (7, .int (nI c))] → W vp l ve (headSpec wsX9_isUnder (xrm 1 21)).room s vm ([.ref (am 0), .int (nI a), .int (nI b)] : List Value).toArray below meth vc H locs 0 0 Q (F0 vm 32 ls []) := by
    intro n
    induction n with
    | zero =>
      intro c hi hI H locs M ls hl
      refine lv_iload S.1 S.2.1 dX9_isUnder_32 (lv_at hl 5 rfl) ?_
      refine lv_aload_n S.1 S.2.1 dX9_isUnder_34 rfl (lv_at hl 0 rfl) ?_
      refine gget S hE M (C := RX9) (T := TX9) (N := 28) (ci := 9) (index := 78) hwi 0 rfl rfl 7 (by decide) (by decide +kernel) rfl dX9_isUnder_35 ?_
      refine lv_icmp_ge (tgt := 86) S.1 S.2.1 dX9_isUnder_38 (by decide) (fun _ => ?_) (fun c_ => absurd (nI_le (by omega) (by omega)) c_)
      refine lv_iconst (v := 1) S.1 S.2.1 dX9_isUnder_86 (by decide) ?_
      rw [← hQ]
      exact gzret S hr hlk M (rfl) (by rw [hI, undl]) (rfl) dX9_isUnder_87
    | succ n ih =>
      intro c hi hI H locs M ls hl
      refine lv_iload S.1 S.2.1 dX9_isUnder_32 (lv_at hl 5 rfl) ?_
      refine lv_aload_n S.1 S.2.1 dX9_isUnder_34 rfl (lv_at hl 0 rfl) ?_
      refine gget S hE M (C := RX9) (T := TX9) (N := 28) (ci := 9) (index := 78) hwi 0 rfl rfl 7 (by decide) (by decide +kernel) rfl dX9_isUnder_35 ?_
      refine lv_icmp_ge (tgt := 86) S.1 S.2.1 dX9_isUnder_38 (by decide) (fun c_ => absurd c_ (nI_ge (by omega) (by omega))) (fun _ => ?_)
      refine lv_aload_n S.1 S.2.1 dX9_isUnder_41 rfl (lv_at hl 0 rfl) ?_
      refine lv_iload S.1 S.2.1 dX9_isUnder_42 (lv_at hl 5 rfl) ?_
      refine gcalli (L := []) (Mid := modGs E am z) (Rr := []) (Mid' := modGs E am z) hE M rfl (rfl) (rfl) (fun hp => va_runV (As := [.int (nI c)]) (rest := []) S (c_X9_delay l E am z c  (by omega) _) (cwV 1 S.2.2.2.2 gX9_isUnder_X9_delay rfl rfl rfl kd_X9_delay ⟨Nat.le_of_ble_eq_true rfl, Nat.le_of_ble_eq_true rfl⟩) (hp.V hE (show vwCl[9]? = some (RX9, TX9, 28) from rfl) rfl) rfl rfl hl.1 rfl (lv_room (Nat.le_of_ble_eq_true rfl)) dX9_isUnder_44 ⟨Nat.zero_le _, Nat.zero_le _⟩) (fun H locs M => ?_)
      have M : gM E A s.heap [[(am 0, .inr (9, [.ref (am 1), .ref (am 2), .int (nI z.tn), .int z.mn, .int z.mk, .int z.mg, .int z.jp, .int (nI z.ct), .ref (am 3), .ref (am 4), .ref (am 5), .ref (am 6), .int (nI z.sp), .ref (am 7), .ref (am 8), .ref (am 9), .ref (am 10), .int (b2i z.on), .int z.ba, .int z.bg, .ref (am 11), .long z.up, .long z.by_, .int z.co, .int z.po, .int z.gr, .ref (am 12), .int (nI z.wr)]))], [((am 1), .inl (xI E, 25, .inl z.sg))], [((am 2), .inl (xI E, 8, .inl z.tp))], [((am 3), .inl (xI E, 120, .inl z.fr))], [((am 4), .inl (xI E, 120, .inl z.wh))], [((am 5), .inl (xI E, 120, .inl z.sn))], [((am 6), .inl (xI E, 300, .inl z.ca))], [((am 7), .inl (xI E, 120, .inl z.hd))], [((am 8), .inl (xI E, 120, .inl z.ps))], [((am 9), .inl (xI E, 120, .inl z.tm))], [((am 10), .inl (xI E, 120, .inl z.mm))], [((am 11), .inl (xJ E, 120, .inr (.inl z.se)))], [((am 12), .inl (xI E, 400, .inl z.tx))]] H locs := M
      refine lv_aload_n S.1 S.2.1 dX9_isUnder_47 rfl (lv_at hl 0 rfl) ?_
      refine lv_iload_n S.1 S.2.1 dX9_isUnder_48 rfl (lv_at hl 1 rfl) ?_
      refine gcalli (L := []) (Mid := modGs E am z) (Rr := []) (Mid' := modGs E am z) hE M rfl (rfl) (rfl) (fun hp => va_runV (As := [.int (nI a)]) (rest := [.int (z.dl c)]) S (c_X9_delay l E am z a  ha _) (cwV 1 S.2.2.2.2 gX9_isUnder_X9_delay rfl rfl rfl kd_X9_delay ⟨Nat.le_of_ble_eq_true rfl, Nat.le_of_ble_eq_true rfl⟩) (hp.V hE (show vwCl[9]? = some (RX9, TX9, 28) from rfl) rfl) rfl rfl hl.1 rfl (lv_room (Nat.le_of_ble_eq_true rfl)) dX9_isUnder_49 ⟨Nat.zero_le _, Nat.zero_le _⟩) (fun H locs M => ?_)
      have M : gM E A s.heap [[(am 0, .inr (9, [.ref (am 1), .ref (am 2), .int (nI z.tn), .int z.mn, .int z.mk, .int z.mg, .int z.jp, .int (nI z.ct), .ref (am 3), .ref (am 4), .ref (am 5), .ref (am 6), .int (nI z.sp), .ref (am 7), .ref (am 8), .ref (am 9), .ref (am 10), .int (b2i z.on), .int z.ba, .int z.bg, .ref (am 11), .long z.up, .long z.by_, .int z.co, .int z.po, .int z.gr, .ref (am 12), .int (nI z.wr)]))], [((am 1), .inl (xI E, 25, .inl z.sg))], [((am 2), .inl (xI E, 8, .inl z.tp))], [((am 3), .inl (xI E, 120, .inl z.fr))], [((am 4), .inl (xI E, 120, .inl z.wh))], [((am 5), .inl (xI E, 120, .inl z.sn))], [((am 6), .inl (xI E, 300, .inl z.ca))], [((am 7), .inl (xI E, 120, .inl z.hd))], [((am 8), .inl (xI E, 120, .inl z.ps))], [((am 9), .inl (xI E, 120, .inl z.tm))], [((am 10), .inl (xI E, 120, .inl z.mm))], [((am 11), .inl (xJ E, 120, .inr (.inl z.se)))], [((am 12), .inl (xI E, 400, .inl z.tx))]] H locs := M
      refine lv_isub S.1 S.2.1 dX9_isUnder_52 ?_
      refine lv_i2l S.1 S.2.1 dX9_isUnder_53 rfl ?_
      refine gtopl (x' := z.rise a c) (rfl) ?_
      refine lv_lload S.1 S.2.1 dX9_isUnder_54 (lv_at hl 4 rfl) ?_
      refine lv_lmul S.1 S.2.1 dX9_isUnder_56 ?_
      refine lv_lload_n S.1 S.2.1 dX9_isUnder_57 rfl (lv_at hl 3 rfl) ?_
      refine lv_aload_n S.1 S.2.1 dX9_isUnder_58 rfl (lv_at hl 0 rfl) ?_
      refine gget S hE M (C := RX9) (T := TX9) (N := 28) (ci := 9) (index := 23) hwi 0 rfl rfl 8 (by decide) (by decide +kernel) rfl dX9_isUnder_59 ?_
      refine lv_iload S.1 S.2.1 dX9_isUnder_62 (lv_at hl 5 rfl) ?_
      refine giald S hE M 3 rfl (vp_in_nI (by omega) (by omega)) dX9_isUnder_64 ?_
      refine gtop (x' := z.fr c) (by rw [nI_clamp (by omega)]) ?_
      refine lv_aload_n S.1 S.2.1 dX9_isUnder_65 rfl (lv_at hl 0 rfl) ?_
      refine gget S hE M (C := RX9) (T := TX9) (N := 28) (ci := 9) (index := 23) hwi 0 rfl rfl 8 (by decide) (by decide +kernel) rfl dX9_isUnder_66 ?_
      refine lv_iload_n S.1 S.2.1 dX9_isUnder_69 rfl (lv_at hl 1 rfl) ?_
      refine giald S hE M 3 rfl (vp_in_nI (by omega) (by omega)) dX9_isUnder_70 ?_
      refine gtop (x' := z.fr a) (by rw [nI_clamp (by omega)]) ?_
      refine lv_isub S.1 S.2.1 dX9_isUnder_71 ?_
      refine lv_i2l S.1 S.2.1 dX9_isUnder_72 rfl ?_
      refine gtopl (x' := z.far a c) (rfl) ?_
      refine lv_lmul S.1 S.2.1 dX9_isUnder_73 ?_
      refine W.lcmp S.1 S.2.1 dX9_isUnder_74 ?_
      refine lv_if_ge (tgt := 80) S.1 S.2.1 dX9_isUnder_75 (by decide) (fun c75 => ?_) (fun c75 => ?_)
      ·
        have c75 : ((z.rise a b) * (z.far a c)) ≤ ((z.rise a c) * (z.far a b)) := (lg_cmp_ge _ _).mp c75
        refine lv_iinc (v := nI (c + 1)) (lv' := [(7, .int (nI (c + 1))), (0, .ref (am 0)), (1, .int (nI a)), (2, .int (nI b)), (3, .long (z.rise a b)), (5, .long (z.far a b))]) S.1 S.2.1 dX9_isUnder_80 hl (k := 5) rfl (nI_1 _) (by decide) rfl (fun ls hl => ?_)
        refine lv_goto (tgt := 32) S.1 S.2.1 dX9_isUnder_83 (by decide) ?_
        exact ih (c + 1) (by omega) (by rw [hI, undl, if_pos c75]) _ _ M ls (lv_sub hl [1, 2, 3, 4, 5, 0] rfl)
      ·
        have c75 : ¬ ((z.rise a b) * (z.far a c)) ≤ ((z.rise a c) * (z.far a b)) := fun q => c75 ((lg_cmp_ge _ _).mpr q)
        refine lv_iconst (v := 0) S.1 S.2.1 dX9_isUnder_78 (by decide) ?_
        rw [← hQ]
        exact gzret S hr hlk M (rfl) (by rw [hI, undl, if_neg c75]) (rfl) dX9_isUnder_79
  refine lv_aload_n S.1 S.2.1 dX9_isUnder_0 rfl (lv_at hl 0 rfl) ?_
  refine lv_iload_n S.1 S.2.1 dX9_isUnder_1 rfl (lv_at hl 2 rfl) ?_
  refine gcalli (L := []) (Mid := modGs E am z) (Rr := []) (Mid' := modGs E am z) hE M rfl (rfl) (rfl) (fun hp => va_runV (As := [.int (nI b)]) (rest := []) S (c_X9_delay l E am z b  hb _) (cwV 1 S.2.2.2.2 gX9_isUnder_X9_delay rfl rfl rfl kd_X9_delay ⟨Nat.le_of_ble_eq_true rfl, Nat.le_of_ble_eq_true rfl⟩) (hp.V hE (show vwCl[9]? = some (RX9, TX9, 28) from rfl) rfl) rfl rfl hl.1 rfl (lv_room (Nat.le_of_ble_eq_true rfl)) dX9_isUnder_2 ⟨Nat.zero_le _, Nat.zero_le _⟩) (fun H locs M => ?_)
  have M : gM E A s.heap [[(am 0, .inr (9, [.ref (am 1), .ref (am 2), .int (nI z.tn), .int z.mn, .int z.mk, .int z.mg, .int z.jp, .int (nI z.ct), .ref (am 3), .ref (am 4), .ref (am 5), .ref (am 6), .int (nI z.sp), .ref (am 7), .ref (am 8), .ref (am 9), .ref (am 10), .int (b2i z.on), .int z.ba, .int z.bg, .ref (am 11), .long z.up, .long z.by_, .int z.co, .int z.po, .int z.gr, .ref (am 12), .int (nI z.wr)]))], [((am 1), .inl (xI E, 25, .inl z.sg))], [((am 2), .inl (xI E, 8, .inl z.tp))], [((am 3), .inl (xI E, 120, .inl z.fr))], [((am 4), .inl (xI E, 120, .inl z.wh))], [((am 5), .inl (xI E, 120, .inl z.sn))], [((am 6), .inl (xI E, 300, .inl z.ca))], [((am 7), .inl (xI E, 120, .inl z.hd))], [((am 8), .inl (xI E, 120, .inl z.ps))], [((am 9), .inl (xI E, 120, .inl z.tm))], [((am 10), .inl (xI E, 120, .inl z.mm))], [((am 11), .inl (xJ E, 120, .inr (.inl z.se)))], [((am 12), .inl (xI E, 400, .inl z.tx))]] H locs := M
  refine lv_aload_n S.1 S.2.1 dX9_isUnder_5 rfl (lv_at hl 0 rfl) ?_
  refine lv_iload_n S.1 S.2.1 dX9_isUnder_6 rfl (lv_at hl 1 rfl) ?_
  refine gcalli (L := []) (Mid := modGs E am z) (Rr := []) (Mid' := modGs E am z) hE M rfl (rfl) (rfl) (fun hp => va_runV (As := [.int (nI a)]) (rest := [.int (z.dl b)]) S (c_X9_delay l E am z a  ha _) (cwV 1 S.2.2.2.2 gX9_isUnder_X9_delay rfl rfl rfl kd_X9_delay ⟨Nat.le_of_ble_eq_true rfl, Nat.le_of_ble_eq_true rfl⟩) (hp.V hE (show vwCl[9]? = some (RX9, TX9, 28) from rfl) rfl) rfl rfl hl.1 rfl (lv_room (Nat.le_of_ble_eq_true rfl)) dX9_isUnder_7 ⟨Nat.zero_le _, Nat.zero_le _⟩) (fun H locs M => ?_)
  have M : gM E A s.heap [[(am 0, .inr (9, [.ref (am 1), .ref (am 2), .int (nI z.tn), .int z.mn, .int z.mk, .int z.mg, .int z.jp, .int (nI z.ct), .ref (am 3), .ref (am 4), .ref (am 5), .ref (am 6), .int (nI z.sp), .ref (am 7), .ref (am 8), .ref (am 9), .ref (am 10), .int (b2i z.on), .int z.ba, .int z.bg, .ref (am 11), .long z.up, .long z.by_, .int z.co, .int z.po, .int z.gr, .ref (am 12), .int (nI z.wr)]))], [((am 1), .inl (xI E, 25, .inl z.sg))], [((am 2), .inl (xI E, 8, .inl z.tp))], [((am 3), .inl (xI E, 120, .inl z.fr))], [((am 4), .inl (xI E, 120, .inl z.wh))], [((am 5), .inl (xI E, 120, .inl z.sn))], [((am 6), .inl (xI E, 300, .inl z.ca))], [((am 7), .inl (xI E, 120, .inl z.hd))], [((am 8), .inl (xI E, 120, .inl z.ps))], [((am 9), .inl (xI E, 120, .inl z.tm))], [((am 10), .inl (xI E, 120, .inl z.mm))], [((am 11), .inl (xJ E, 120, .inr (.inl z.se)))], [((am 12), .inl (xI E, 400, .inl z.tx))]] H locs := M
  refine lv_isub S.1 S.2.1 dX9_isUnder_10 ?_
  refine lv_i2l S.1 S.2.1 dX9_isUnder_11 rfl ?_
  refine gtopl (x' := z.rise a b) (rfl) ?_
  refine lv_lstore_n (lv' := [(3, .long (z.rise a b)), (0, .ref (am 0)), (1, .int (nI a)), (2, .int (nI b))]) S.1 S.2.1 dX9_isUnder_12 rfl hl (by decide) rfl (fun ls hl => ?_)
  refine lv_aload_n S.1 S.2.1 dX9_isUnder_13 rfl (lv_at hl 1 rfl) ?_
  refine gget S hE M (C := RX9) (T := TX9) (N := 28) (ci := 9) (index := 23) hwi 0 rfl rfl 8 (by decide) (by decide +kernel) rfl dX9_isUnder_14 ?_
  refine lv_iload_n S.1 S.2.1 dX9_isUnder_17 rfl (lv_at hl 3 rfl) ?_
  refine giald S hE M 3 rfl (vp_in_nI (by omega) (by omega)) dX9_isUnder_18 ?_
  refine gtop (x' := z.fr b) (by rw [nI_clamp (by omega)]) ?_
  refine lv_aload_n S.1 S.2.1 dX9_isUnder_19 rfl (lv_at hl 1 rfl) ?_
  refine gget S hE M (C := RX9) (T := TX9) (N := 28) (ci := 9) (index := 23) hwi 0 rfl rfl 8 (by decide) (by decide +kernel) rfl dX9_isUnder_20 ?_
  refine lv_iload_n S.1 S.2.1 dX9_isUnder_23 rfl (lv_at hl 2 rfl) ?_
  refine giald S hE M 3 rfl (vp_in_nI (by omega) (by omega)) dX9_isUnder_24 ?_
  refine gtop (x' := z.fr a) (by rw [nI_clamp (by omega)]) ?_
  refine lv_isub S.1 S.2.1 dX9_isUnder_25 ?_
  refine lv_i2l S.1 S.2.1 dX9_isUnder_26 rfl ?_
  refine gtopl (x' := z.far a b) (rfl) ?_
  refine lv_lstore (lv' := [(5, .long (z.far a b)), (3, .long (z.rise a b)), (0, .ref (am 0)), (1, .int (nI a)), (2, .int (nI b))]) S.1 S.2.1 dX9_isUnder_27 hl (by decide) rfl (fun ls hl => ?_)
  refine lv_iconst (v := 0) S.1 S.2.1 dX9_isUnder_29 (by decide) ?_
  refine lv_istore (lv' := [(7, .int 0), (5, .long (z.far a b)), (3, .long (z.rise a b)), (0, .ref (am 0)), (1, .int (nI a)), (2, .int (nI b))]) S.1 S.2.1 dX9_isUnder_30 hl (by decide) rfl (fun ls hl => ?_)
  exact hL z.ct 0 (by omega) rfl _ _ M ls (lv_sub hl [3, 4, 5, 2, 1, 0] rfl)
