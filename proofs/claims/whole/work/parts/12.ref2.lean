theorem kd_X9_beside : yX9_beside.cls = RX9 ∧ yX9_beside.cls ≠ "java/lang/invoke/MethodHandle" ∧ yX9_beside.cls ≠ "java/lang/invoke/VarHandle" ∧ (parseMethodDescriptor yX9_beside.desc).map (fun d => d.parameters.length) = some 2 := by decide +kernel
theorem kd_X9_counts : yX9_counts.cls = RX9 ∧ yX9_counts.cls ≠ "java/lang/invoke/MethodHandle" ∧ yX9_counts.cls ≠ "java/lang/invoke/VarHandle" ∧ (parseMethodDescriptor yX9_counts.desc).map (fun d => d.parameters.length) = some 1 := by decide +kernel
theorem kd_X9_down : yX9_down.cls = RX9 ∧ yX9_down.cls ≠ "java/lang/invoke/MethodHandle" ∧ yX9_down.cls ≠ "java/lang/invoke/VarHandle" ∧ (parseMethodDescriptor yX9_down.desc).map (fun d => d.parameters.length) = some 2 := by decide +kernel
theorem kd_X9_farBy : yX9_farBy.cls = RX9 ∧ yX9_farBy.cls ≠ "java/lang/invoke/MethodHandle" ∧ yX9_farBy.cls ≠ "java/lang/invoke/VarHandle" ∧ (parseMethodDescriptor yX9_farBy.desc).map (fun d => d.parameters.length) = some 1 := by decide +kernel
theorem kd_X9_findDrift : yX9_findDrift.cls = RX9 ∧ yX9_findDrift.cls ≠ "java/lang/invoke/MethodHandle" ∧ yX9_findDrift.cls ≠ "java/lang/invoke/VarHandle" ∧ (parseMethodDescriptor yX9_findDrift.desc).map (fun d => d.parameters.length) = some 0 := by decide +kernel
theorem kd_X9_isPlayed : yX9_isPlayed.cls = RX9 ∧ yX9_isPlayed.cls ≠ "java/lang/invoke/MethodHandle" ∧ yX9_isPlayed.cls ≠ "java/lang/invoke/VarHandle" ∧ (parseMethodDescriptor yX9_isPlayed.desc).map (fun d => d.parameters.length) = some 1 := by decide +kernel
theorem kd_X9_isUnder : yX9_isUnder.cls = RX9 ∧ yX9_isUnder.cls ≠ "java/lang/invoke/MethodHandle" ∧ yX9_isUnder.cls ≠ "java/lang/invoke/VarHandle" ∧ (parseMethodDescriptor yX9_isUnder.desc).map (fun d => d.parameters.length) = some 2 := by decide +kernel
theorem kd_X9_latelyMost : yX9_latelyMost.cls = RX9 ∧ yX9_latelyMost.cls ≠ "java/lang/invoke/MethodHandle" ∧ yX9_latelyMost.cls ≠ "java/lang/invoke/VarHandle" ∧ (parseMethodDescriptor yX9_latelyMost.desc).map (fun d => d.parameters.length) = some 0 := by decide +kernel
theorem kd_X9_leastBy : yX9_leastBy.cls = RX9 ∧ yX9_leastBy.cls ≠ "java/lang/invoke/MethodHandle" ∧ yX9_leastBy.cls ≠ "java/lang/invoke/VarHandle" ∧ (parseMethodDescriptor yX9_leastBy.desc).map (fun d => d.parameters.length) = some 1 := by decide +kernel
theorem kd_X9_oldest : yX9_oldest.cls = RX9 ∧ yX9_oldest.cls ≠ "java/lang/invoke/MethodHandle" ∧ yX9_oldest.cls ≠ "java/lang/invoke/VarHandle" ∧ (parseMethodDescriptor yX9_oldest.desc).map (fun d => d.parameters.length) = some 0 := by decide +kernel
theorem kd_X9_wishFor : yX9_wishFor.cls = RX9 ∧ yX9_wishFor.cls ≠ "java/lang/invoke/MethodHandle" ∧ yX9_wishFor.cls ≠ "java/lang/invoke/VarHandle" ∧ (parseMethodDescriptor yX9_wishFor.desc).map (fun d => d.parameters.length) = some 1 := by decide +kernel
set_option maxHeartbeats 4000000 in
set_option maxRecDepth 100000 in
theorem c_X9_findDrift (l : Launch) (E : xE) (am : Nat → Nat) (z : MdS) (hc : z.ct ≤ 120) (hfr : ∀ a, a < z.ct → ∃ m, m < 300 ∧ z.fr a = nI m) : mV l yX9_findDrift wsX9_findDrift (xrm 2 48) E [.ref (am 0)] (modGs E am z) (modGs E am z.fdr) := by
  intro sz
  refine Met.ofW (cc := cX9_findDrift) (maxL := 12) (ret := none) (by decide +kernel) rfl ?_
  intro vp ve s vm args below meth vc s₁ B hml hv
  obtain ⟨rfl, S, hr, hlk, hnm, A, hA, hE, M⟩ := genter B hml hv
  rw [hA]
  obtain ⟨ls, hfr, hl⟩ := gst (m := vm) (as := [.ref (am 0)]) (n := 12) (Nat.le_of_ble_eq_true rfl)
  rw [hfr]
  clear hfr hA
  have hl : lv_has ls 12 [(0, .ref (am 0))] := hl
  have M : gM E A s.heap [[(am 0, .inr (9, [.ref (am 1), .ref (am 2), .int (nI z.tn), .int z.mn, .int z.mk, .int z.mg, .int z.jp, .int (nI z.ct), .ref (am 3), .ref (am 4), .ref (am 5), .ref (am 6), .int (nI z.sp), .ref (am 7), .ref (am 8), .ref (am 9), .ref (am 10), .int (b2i z.on), .int z.ba, .int z.bg, .ref (am 11), .long z.up, .long z.by_, .int z.co, .int z.po, .int z.gr, .ref (am 12), .int (nI z.wr)]))], [((am 1), .inl (xI E, 25, .inl z.sg))], [((am 2), .inl (xI E, 8, .inl z.tp))], [((am 3), .inl (xI E, 120, .inl z.fr))], [((am 4), .inl (xI E, 120, .inl z.wh))], [((am 5), .inl (xI E, 120, .inl z.sn))], [((am 6), .inl (xI E, 300, .inl z.ca))], [((am 7), .inl (xI E, 120, .inl z.hd))], [((am 8), .inl (xI E, 120, .inl z.ps))], [((am 9), .inl (xI E, 120, .inl z.tm))], [((am 10), .inl (xI E, 120, .inl z.mm))], [((am 11), .inl (xJ E, 120, .inr (.inl z.se)))], [((am 12), .inl (xI E, 400, .inl z.tx))]] s.heap [] := M
  have hwi : ∀ w ∈ u_ws RX9 TX9 28, w ∈ wsX9_findDrift := by decide +kernel
  obtain ⟨Q, hQ⟩ : ∃ Q : State → Prop, MQ below (va_Qv (fun (_ : Unit) => True) (fun _ => kQ E A (modGs E am z.fdr)) A) ([.ref (am 0)] : List Value).toArray s 0 0 A = Q := ⟨_, rfl⟩
  rw [hQ]
  have hG : ∀ (n : Nat), ∀ (x y : Nat), 0 < z.dr.2.2.toInt.natAbs → y < n → x < 2 ^ 40 → y < 2 ^ 40 → Nat.gcd z.dr.2.1.toInt.natAbs z.dr.2.2.toInt.natAbs = Nat.gcd x y → ∀ (H : Heap) (locs : List Loc), gM E A s.heap [[(am 0, .inr (9, [.ref (am 1), .ref (am 2), .int (nI z.tn), .int z.mn, .int z.mk, .int z.mg, .int z.jp, .int (nI z.ct), .ref (am 3), .ref (am 4), .ref (am 5), .ref (am 6), .int (nI z.sp), .ref (am 7), .ref (am 8), .ref (am 9), .ref (am 10), .int (b2i z.on), .int z.ba, .int z.bg, .ref (am 11), .long z.dr.2.1, .long z.dr.2.2, .int z.co, .int z.po, .int z.gr, .ref (am 12), .int (nI z.wr)]))], [((am 1), .inl (xI E, 25, .inl z.sg))], [((am 2), .inl (xI E, 8, .inl z.tp))], [((am 3), .inl (xI E, 120, .inl z.fr))], [((am 4), .inl (xI E, 120, .inl z.wh))], [((am 5), .inl (xI E, 120, .inl z.sn))], [((am 6), .inl (xI E, 300, .inl z.ca))], [((am 7), .inl (xI E, 120, .inl z.hd))], [((am 8), .inl (xI E, 120, .inl z.ps))], [((am 9), .inl (xI E, 120, .inl z.tm))], [((am 10), .inl (xI E, 120, .inl z.mm))], [((am 11), .inl (xJ E, 120, .inr (.inl z.se)))], [((am 12), .inl (xI E, 400, .inl z.tx))]] H locs → ∀ ls : Array Slot, lv_has ls 12 [(0, .ref (am 0)), (4, .long (lN x)), (6, .long (lN y))] → W vp l ve (headSpec wsX9_findDrift (xrm 2 48)).room s vm ([.ref (am 0)] : List Value).toArray below meth vc H locs 0 0 Q (F0 vm 318 ls []) := by
    intro n
    induction n with
    | zero =>
      intro x y hv hn hx hy hI H locs M ls hl
      exact absurd hn (Nat.not_lt_zero _)
    | succ n ih =>
      intro x y hv hn hx hy hI H locs M ls hl
      refine lv_lload S.1 S.2.1 dX9_findDrift_318 (lv_at hl 2 rfl) ?_
      refine lv_lconst (v := 0) S.1 S.2.1 dX9_findDrift_320 (by decide) ?_
      refine W.lcmp S.1 S.2.1 dX9_findDrift_321 ?_
      refine lv_if_eq (tgt := 343) S.1 S.2.1 dX9_findDrift_322 (by decide) (fun c322 => ?_) (fun c322 => ?_)
      ·
        have c322 : (lN y) = 0 := (lg_cmp_eq _ _).mp c322
        have hy0 : y = 0 := lN_0 (by omega) c322
        have hg : Nat.gcd z.dr.2.1.toInt.natAbs z.dr.2.2.toInt.natAbs = x := by rw [hI, hy0, Nat.gcd_zero_right]
        have hx0 : ¬ lN x = 0 := fun q => absurd (lN_0 (by omega) q) (by rw [← hg]; exact Nat.ne_of_gt (Nat.gcd_pos_of_pos_right _ hv))
        refine lv_aload_n S.1 S.2.1 dX9_findDrift_343 rfl (lv_at hl 0 rfl) ?_
        refine lv_dup S.1 S.2.1 dX9_findDrift_344 rfl ?_
        refine gget S hE M (C := RX9) (T := TX9) (N := 28) (ci := 9) (index := 122) hwi 0 rfl rfl 21 (by decide) (by decide +kernel) rfl dX9_findDrift_345 ?_
        refine lv_lload S.1 S.2.1 dX9_findDrift_348 (lv_at hl 1 rfl) ?_
        refine lv_ldiv S.1 S.2.1 dX9_findDrift_350 (hx0) ?_
        refine gput S hE M (C := RX9) (T := TX9) (N := 28) (ci := 9) (index := 122) (Gs' := [[(am 0, .inr (9, [.ref (am 1), .ref (am 2), .int (nI z.tn), .int z.mn, .int z.mk, .int z.mg, .int z.jp, .int (nI z.ct), .ref (am 3), .ref (am 4), .ref (am 5), .ref (am 6), .int (nI z.sp), .ref (am 7), .ref (am 8), .ref (am 9), .ref (am 10), .int (b2i z.on), .int z.ba, .int z.bg, .ref (am 11), .long (z.dr.2.1 / (lN x)), .long z.dr.2.2, .int z.co, .int z.po, .int z.gr, .ref (am 12), .int (nI z.wr)]))], [((am 1), .inl (xI E, 25, .inl z.sg))], [((am 2), .inl (xI E, 8, .inl z.tp))], [((am 3), .inl (xI E, 120, .inl z.fr))], [((am 4), .inl (xI E, 120, .inl z.wh))], [((am 5), .inl (xI E, 120, .inl z.sn))], [((am 6), .inl (xI E, 300, .inl z.ca))], [((am 7), .inl (xI E, 120, .inl z.hd))], [((am 8), .inl (xI E, 120, .inl z.ps))], [((am 9), .inl (xI E, 120, .inl z.tm))], [((am 10), .inl (xI E, 120, .inl z.mm))], [((am 11), .inl (xJ E, 120, .inr (.inl z.se)))], [((am 12), .inl (xI E, 400, .inl z.tx))]]) hwi tyX9 tyX9_ok nmX9 0 rfl rfl 21 (by decide) (by decide +kernel) rfl rfl rfl (Nat.le_of_ble_eq_true rfl) rfl dX9_findDrift_351 (fun H locs M => ?_)
        refine lv_aload_n S.1 S.2.1 dX9_findDrift_354 rfl (lv_at hl 0 rfl) ?_
        refine lv_dup S.1 S.2.1 dX9_findDrift_355 rfl ?_
        refine gget S hE M (C := RX9) (T := TX9) (N := 28) (ci := 9) (index := 126) hwi 0 rfl rfl 22 (by decide) (by decide +kernel) rfl dX9_findDrift_356 ?_
        refine lv_lload S.1 S.2.1 dX9_findDrift_359 (lv_at hl 1 rfl) ?_
        refine lv_ldiv S.1 S.2.1 dX9_findDrift_361 (hx0) ?_
        refine gput S hE M (C := RX9) (T := TX9) (N := 28) (ci := 9) (index := 126) (Gs' := [[(am 0, .inr (9, [.ref (am 1), .ref (am 2), .int (nI z.tn), .int z.mn, .int z.mk, .int z.mg, .int z.jp, .int (nI z.ct), .ref (am 3), .ref (am 4), .ref (am 5), .ref (am 6), .int (nI z.sp), .ref (am 7), .ref (am 8), .ref (am 9), .ref (am 10), .int (b2i z.on), .int z.ba, .int z.bg, .ref (am 11), .long (z.dr.2.1 / (lN x)), .long (z.dr.2.2 / (lN x)), .int z.co, .int z.po, .int z.gr, .ref (am 12), .int (nI z.wr)]))], [((am 1), .inl (xI E, 25, .inl z.sg))], [((am 2), .inl (xI E, 8, .inl z.tp))], [((am 3), .inl (xI E, 120, .inl z.fr))], [((am 4), .inl (xI E, 120, .inl z.wh))], [((am 5), .inl (xI E, 120, .inl z.sn))], [((am 6), .inl (xI E, 300, .inl z.ca))], [((am 7), .inl (xI E, 120, .inl z.hd))], [((am 8), .inl (xI E, 120, .inl z.ps))], [((am 9), .inl (xI E, 120, .inl z.tm))], [((am 10), .inl (xI E, 120, .inl z.mm))], [((am 11), .inl (xJ E, 120, .inr (.inl z.se)))], [((am 12), .inl (xI E, 400, .inl z.tx))]]) hwi tyX9 tyX9_ok nmX9 0 rfl rfl 22 (by decide) (by decide +kernel) rfl rfl rfl (Nat.le_of_ble_eq_true rfl) rfl dX9_findDrift_362 (fun H locs M => ?_)
        rw [← hQ]
        exact gvret S hr hlk M (by unfold MdS.fdr dgc; rw [hg]; rfl) dX9_findDrift_365
      ·
        have c322 : ¬ (lN y) = 0 := fun q => c322 ((lg_cmp_eq _ _).mpr q)
        have hy0 : 0 < y := Nat.pos_of_ne_zero fun q => c322 (by rw [q]; rfl)
        refine lv_lload S.1 S.2.1 dX9_findDrift_325 (lv_at hl 1 rfl) ?_
        refine lv_lload S.1 S.2.1 dX9_findDrift_327 (lv_at hl 2 rfl) ?_
        refine lv_lrem S.1 S.2.1 dX9_findDrift_329 (c322) ?_
        refine gtopl (x' := lN (x % y)) (pk_lRem (by omega) hy0 (by omega)) ?_
        refine lv_lstore (lv' := [(8, .long (lN (x % y))), (0, .ref (am 0)), (4, .long (lN x)), (6, .long (lN y))]) S.1 S.2.1 dX9_findDrift_330 hl (by decide) rfl (fun ls hl => ?_)
        refine lv_lload S.1 S.2.1 dX9_findDrift_332 (lv_at hl 3 rfl) ?_
        refine lv_lstore (lv' := [(4, .long (lN y)), (8, .long (lN (x % y))), (0, .ref (am 0)), (6, .long (lN y))]) S.1 S.2.1 dX9_findDrift_334 hl (by decide) rfl (fun ls hl => ?_)
        refine lv_lload S.1 S.2.1 dX9_findDrift_336 (lv_at hl 1 rfl) ?_
        refine lv_lstore (lv' := [(6, .long (lN (x % y))), (4, .long (lN y)), (8, .long (lN (x % y))), (0, .ref (am 0))]) S.1 S.2.1 dX9_findDrift_338 hl (by decide) rfl (fun ls hl => ?_)
        refine lv_goto (tgt := 318) S.1 S.2.1 dX9_findDrift_340 (by decide) ?_
        exact ih y (x % y) hv (by have q := Nat.mod_lt x hy0; omega) hy (by have q := Nat.mod_lt x hy0; omega) (by rw [hI, gcd_step]) _ _ M ls (lv_sub hl [3, 1, 0] rfl)
  have hB : ∀ (n : Nat), ∀ (a : Nat) (y : DrS), a + n = z.ct → drOK y → z.dr = dra z n a y → ∀ (H : Heap) (locs : List Loc), gM E A s.heap [[(am 0, .inr (9, [.ref (am 1), .ref (am 2), .int (nI z.tn), .int z.mn, .int z.mk, .int z.mg, .int z.jp, .int (nI z.ct), .ref (am 3), .ref (am 4), .ref (am 5), .ref (am 6), .int (nI z.sp), .ref (am 7), .ref (am 8), .ref (am 9), .ref (am 10), .int (b2i z.on), .int z.ba, .int z.bg, .ref (am 11), .long y.2.1, .long y.2.2, .int z.co, .int z.po, .int z.gr, .ref (am 12), .int (nI z.wr)]))], [((am 1), .inl (xI E, 25, .inl z.sg))], [((am 2), .inl (xI E, 8, .inl z.tp))], [((am 3), .inl (xI E, 120, .inl z.fr))], [((am 4), .inl (xI E, 120, .inl z.wh))], [((am 5), .inl (xI E, 120, .inl z.sn))], [((am 6), .inl (xI E, 300, .inl z.ca))], [((am 7), .inl (xI E, 120, .inl z.hd))], [((am 8), .inl (xI E, 120, .inl z.ps))], [((am 9), .inl (xI E, 120, .inl z.tm))], [((am 10), .inl (xI E, 120, .inl z.mm))], [((am 11), .inl (xJ E, 120, .inr (.inl z.se)))], [((am 12), .inl (xI E, 400, .inl z.tx))]] H locs → ∀ ls : Array Slot, lv_has ls 12 [(0, .ref (am 0)), (1, .int (b2i y.1)), (2, .int z.least), (3, .int z.most), (4, .int (nI a))] → W vp l ve (headSpec wsX9_findDrift (xrm 2 48)).room s vm ([.ref (am 0)] : List Value).toArray below meth vc H locs 0 0 Q (F0 vm 85 ls []) := by
    intro n
    induction n with
    | zero =>
      intro a y hi hY hI H locs M ls hl
      refine lv_iload S.1 S.2.1 dX9_findDrift_85 (lv_at hl 4 rfl) ?_
      refine lv_aload_n S.1 S.2.1 dX9_findDrift_87 rfl (lv_at hl 0 rfl) ?_
      refine gget S hE M (C := RX9) (T := TX9) (N := 28) (ci := 9) (index := 78) hwi 0 rfl rfl 7 (by decide) (by decide +kernel) rfl dX9_findDrift_88 ?_
      refine lv_icmp_ge (tgt := 289) S.1 S.2.1 dX9_findDrift_91 (by decide) (fun _ => ?_) (fun c_ => absurd (nI_le (by omega) (by omega)) c_)
      have e3 : y = z.dr := by rw [hI, dra]
      subst e3
      obtain ⟨d1, d2, d3, d4⟩ := hY
      refine lv_aload_n S.1 S.2.1 dX9_findDrift_289 rfl (lv_at hl 0 rfl) ?_
      refine gget S hE M (C := RX9) (T := TX9) (N := 28) (ci := 9) (index := 122) hwi 0 rfl rfl 21 (by decide) (by decide +kernel) rfl dX9_findDrift_290 ?_
      refine lv_lconst (v := 0) S.1 S.2.1 dX9_findDrift_293 (by decide) ?_
      refine W.lcmp S.1 S.2.1 dX9_findDrift_294 ?_
      refine lv_if_ge (tgt := 306) S.1 S.2.1 dX9_findDrift_295 (by decide) (fun c295 => ?_) (fun c295 => ?_)
      ·
        have c295 : 0 ≤ z.dr.2.1 := (lg_cmp_ge _ _).mp c295
        refine lv_aload_n S.1 S.2.1 dX9_findDrift_306 rfl (lv_at hl 0 rfl) ?_
        refine gget S hE M (C := RX9) (T := TX9) (N := 28) (ci := 9) (index := 122) hwi 0 rfl rfl 21 (by decide) (by decide +kernel) rfl dX9_findDrift_307 ?_
        refine gtopl (x' := lN z.dr.2.1.toInt.natAbs) (l_abs_pos c295) ?_
        refine lv_lstore (lv' := [(4, .long (lN z.dr.2.1.toInt.natAbs)), (0, .ref (am 0)), (1, .int (b2i z.dr.1)), (2, .int z.least), (3, .int z.most)]) S.1 S.2.1 dX9_findDrift_310 hl (by decide) rfl (fun ls hl => ?_)
        refine lv_aload_n S.1 S.2.1 dX9_findDrift_312 rfl (lv_at hl 1 rfl) ?_
        refine gget S hE M (C := RX9) (T := TX9) (N := 28) (ci := 9) (index := 126) hwi 0 rfl rfl 22 (by decide) (by decide +kernel) rfl dX9_findDrift_313 ?_
        refine gtopl (x' := lN z.dr.2.2.toInt.natAbs) (l_abs_pos (Int64.le_iff_toInt_le.mpr (by simpa using Int.le_of_lt d1))) ?_
        refine lv_lstore (lv' := [(6, .long (lN z.dr.2.2.toInt.natAbs)), (4, .long (lN z.dr.2.1.toInt.natAbs)), (0, .ref (am 0)), (1, .int (b2i z.dr.1)), (2, .int z.least), (3, .int z.most)]) S.1 S.2.1 dX9_findDrift_316 hl (by decide) rfl (fun ls hl => ?_)
        exact hG (z.dr.2.2.toInt.natAbs + 1) z.dr.2.1.toInt.natAbs z.dr.2.2.toInt.natAbs (by omega) (by omega) (by omega) (by omega) rfl _ _ M ls (lv_sub hl [2, 1, 0] rfl)
      ·
        have c295 : ¬ 0 ≤ z.dr.2.1 := fun q => c295 ((lg_cmp_ge _ _).mpr q)
        refine lv_aload_n S.1 S.2.1 dX9_findDrift_298 rfl (lv_at hl 0 rfl) ?_
        refine gget S hE M (C := RX9) (T := TX9) (N := 28) (ci := 9) (index := 122) hwi 0 rfl rfl 21 (by decide) (by decide +kernel) rfl dX9_findDrift_299 ?_
        refine lv_lneg S.1 S.2.1 dX9_findDrift_302 ?_
        refine gtopl (x' := lN z.dr.2.1.toInt.natAbs) (l_abs_neg c295 d3) ?_
        refine lv_goto (tgt := 310) S.1 S.2.1 dX9_findDrift_303 (by decide) ?_
        refine lv_lstore (lv' := [(4, .long (lN z.dr.2.1.toInt.natAbs)), (0, .ref (am 0)), (1, .int (b2i z.dr.1)), (2, .int z.least), (3, .int z.most)]) S.1 S.2.1 dX9_findDrift_310 hl (by decide) rfl (fun ls hl => ?_)
        refine lv_aload_n S.1 S.2.1 dX9_findDrift_312 rfl (lv_at hl 1 rfl) ?_
        refine gget S hE M (C := RX9) (T := TX9) (N := 28) (ci := 9) (index := 126) hwi 0 rfl rfl 22 (by decide) (by decide +kernel) rfl dX9_findDrift_313 ?_
        refine gtopl (x' := lN z.dr.2.2.toInt.natAbs) (l_abs_pos (Int64.le_iff_toInt_le.mpr (by simpa using Int.le_of_lt d1))) ?_
        refine lv_lstore (lv' := [(6, .long (lN z.dr.2.2.toInt.natAbs)), (4, .long (lN z.dr.2.1.toInt.natAbs)), (0, .ref (am 0)), (1, .int (b2i z.dr.1)), (2, .int z.least), (3, .int z.most)]) S.1 S.2.1 dX9_findDrift_316 hl (by decide) rfl (fun ls hl => ?_)
        exact hG (z.dr.2.2.toInt.natAbs + 1) z.dr.2.1.toInt.natAbs z.dr.2.2.toInt.natAbs (by omega) (by omega) (by omega) (by omega) rfl _ _ M ls (lv_sub hl [2, 1, 0] rfl)
    | succ n ih =>
      intro a y hi hY hI H locs M ls hl
      have hC : ∀ (k : Nat), ∀ (b : Nat) (x : DrS), b + k = z.ct → drOK x → drb z a z.ct 0 y = drb z a k b x → ∀ (H : Heap) (locs : List Loc), gM E A s.heap [[(am 0, .inr (9, [.ref (am 1), .ref (am 2), .int (nI z.tn), .int z.mn, .int z.mk, .int z.mg, .int z.jp, .int (nI z.ct), .ref (am 3), .ref (am 4), .ref (am 5), .ref (am 6), .int (nI z.sp), .ref (am 7), .ref (am 8), .ref (am 9), .ref (am 10), .int (b2i z.on), .int z.ba, .int z.bg, .ref (am 11), .long x.2.1, .long x.2.2, .int z.co, .int z.po, .int z.gr, .ref (am 12), .int (nI z.wr)]))], [((am 1), .inl (xI E, 25, .inl z.sg))], [((am 2), .inl (xI E, 8, .inl z.tp))], [((am 3), .inl (xI E, 120, .inl z.fr))], [((am 4), .inl (xI E, 120, .inl z.wh))], [((am 5), .inl (xI E, 120, .inl z.sn))], [((am 6), .inl (xI E, 300, .inl z.ca))], [((am 7), .inl (xI E, 120, .inl z.hd))], [((am 8), .inl (xI E, 120, .inl z.ps))], [((am 9), .inl (xI E, 120, .inl z.tm))], [((am 10), .inl (xI E, 120, .inl z.mm))], [((am 11), .inl (xJ E, 120, .inr (.inl z.se)))], [((am 12), .inl (xI E, 400, .inl z.tx))]] H locs → ∀ ls : Array Slot, lv_has ls 12 [(0, .ref (am 0)), (1, .int (b2i x.1)), (2, .int z.least), (3, .int z.most), (4, .int (nI a)), (5, .int (nI b))] → W vp l ve (headSpec wsX9_findDrift (xrm 2 48)).room s vm ([.ref (am 0)] : List Value).toArray below meth vc H locs 0 0 Q (F0 vm 97 ls []) := by
        intro k
        induction k with
        | zero =>
          intro b x hj hX hJ H locs M ls hl
          refine lv_iload S.1 S.2.1 dX9_findDrift_97 (lv_at hl 5 rfl) ?_
          refine lv_aload_n S.1 S.2.1 dX9_findDrift_99 rfl (lv_at hl 0 rfl) ?_
          refine gget S hE M (C := RX9) (T := TX9) (N := 28) (ci := 9) (index := 78) hwi 0 rfl rfl 7 (by decide) (by decide +kernel) rfl dX9_findDrift_100 ?_
          refine lv_icmp_ge (tgt := 283) S.1 S.2.1 dX9_findDrift_103 (by decide) (fun _ => ?_) (fun c_ => absurd (nI_le (by omega) (by omega)) c_)
          refine lv_iinc (v := nI (a + 1)) (lv' := [(4, .int (nI (a + 1))), (0, .ref (am 0)), (1, .int (b2i x.1)), (2, .int z.least), (3, .int z.most), (5, .int (nI b))]) S.1 S.2.1 dX9_findDrift_283 hl (k := 4) rfl (nI_1 _) (by decide) rfl (fun ls hl => ?_)
          refine lv_goto (tgt := 85) S.1 S.2.1 dX9_findDrift_286 (by decide) ?_
          exact ih (a + 1) x (by omega) hX (by rw [hI, dra, hJ, drb]) _ _ M ls (lv_sub hl [1, 2, 3, 4, 0] rfl)
        | succ k ih2 =>
          intro b x hj hX hJ H locs M ls hl
          refine lv_iload S.1 S.2.1 dX9_findDrift_97 (lv_at hl 5 rfl) ?_
          refine lv_aload_n S.1 S.2.1 dX9_findDrift_99 rfl (lv_at hl 0 rfl) ?_
          refine gget S hE M (C := RX9) (T := TX9) (N := 28) (ci := 9) (index := 78) hwi 0 rfl rfl 7 (by decide) (by decide +kernel) rfl dX9_findDrift_100 ?_
          refine lv_icmp_ge (tgt := 283) S.1 S.2.1 dX9_findDrift_103 (by decide) (fun c_ => absurd c_ (nI_ge (by omega) (by omega))) (fun _ => ?_)
          refine lv_aload_n S.1 S.2.1 dX9_findDrift_106 rfl (lv_at hl 0 rfl) ?_
          refine gget S hE M (C := RX9) (T := TX9) (N := 28) (ci := 9) (index := 23) hwi 0 rfl rfl 8 (by decide) (by decide +kernel) rfl dX9_findDrift_107 ?_
          refine lv_iload S.1 S.2.1 dX9_findDrift_110 (lv_at hl 4 rfl) ?_
          refine giald S hE M 3 rfl (vp_in_nI (by omega) (by omega)) dX9_findDrift_112 ?_
          refine gtop (x' := z.fr a) (by rw [nI_clamp (by omega)]) ?_
          refine lv_aload_n S.1 S.2.1 dX9_findDrift_113 rfl (lv_at hl 0 rfl) ?_
          refine gget S hE M (C := RX9) (T := TX9) (N := 28) (ci := 9) (index := 23) hwi 0 rfl rfl 8 (by decide) (by decide +kernel) rfl dX9_findDrift_114 ?_
          refine lv_iload S.1 S.2.1 dX9_findDrift_117 (lv_at hl 5 rfl) ?_
          refine giald S hE M 3 rfl (vp_in_nI (by omega) (by omega)) dX9_findDrift_119 ?_
          refine gtop (x' := z.fr b) (by rw [nI_clamp (by omega)]) ?_
          refine lv_icmp_ge (tgt := 157) S.1 S.2.1 dX9_findDrift_120 (by decide) (fun c120 => ?_) (fun c120 => ?_)
          ·
            refine lv_iconst (v := 0) S.1 S.2.1 dX9_findDrift_157 (by decide) ?_
            refine lv_istore (lv' := [(6, .int 0), (0, .ref (am 0)), (1, .int (b2i x.1)), (2, .int z.least), (3, .int z.most), (4, .int (nI a)), (5, .int (nI b))]) S.1 S.2.1 dX9_findDrift_158 hl (by decide) rfl (fun ls hl => ?_)
            refine lv_iload S.1 S.2.1 dX9_findDrift_160 (lv_at hl 0 rfl) ?_
            refine lv_if_eq (tgt := 277) S.1 S.2.1 dX9_findDrift_162 (by decide) (fun _ => ?_) (fun c_ => absurd (by decide) c_)
            refine lv_iinc (v := nI (b + 1)) (lv' := [(5, .int (nI (b + 1))), (6, .int 0), (0, .ref (am 0)), (1, .int (b2i x.1)), (2, .int z.least), (3, .int z.most), (4, .int (nI a))]) S.1 S.2.1 dX9_findDrift_277 hl (k := 6) rfl (nI_1 _) (by decide) rfl (fun ls hl => ?_)
            refine lv_goto (tgt := 97) S.1 S.2.1 dX9_findDrift_280 (by decide) ?_
            exact ih2 (b + 1) x (by omega) (by have q := drs_ok (a := a) (b := b) hfr (by omega) (by omega) hX; rw [drs, if_pos c120] at q; exact q) (by rw [hJ, drb, drs, if_pos c120]) _ _ M ls (lv_sub hl [2, 3, 4, 5, 6, 0] rfl)
          ·
            refine lv_iconst (v := 2) S.1 S.2.1 dX9_findDrift_123 (by decide) ?_
            refine lv_aload_n S.1 S.2.1 dX9_findDrift_124 rfl (lv_at hl 0 rfl) ?_
            refine gget S hE M (C := RX9) (T := TX9) (N := 28) (ci := 9) (index := 23) hwi 0 rfl rfl 8 (by decide) (by decide +kernel) rfl dX9_findDrift_125 ?_
            refine lv_iload S.1 S.2.1 dX9_findDrift_128 (lv_at hl 4 rfl) ?_
            refine giald S hE M 3 rfl (vp_in_nI (by omega) (by omega)) dX9_findDrift_130 ?_
            refine gtop (x' := z.fr a) (by rw [nI_clamp (by omega)]) ?_
            refine lv_imul S.1 S.2.1 dX9_findDrift_131 ?_
            refine lv_iload_n S.1 S.2.1 dX9_findDrift_132 rfl (lv_at hl 2 rfl) ?_
            refine lv_iload_n S.1 S.2.1 dX9_findDrift_133 rfl (lv_at hl 3 rfl) ?_
            refine lv_iadd S.1 S.2.1 dX9_findDrift_134 ?_
            refine lv_icmp_gt (tgt := 157) S.1 S.2.1 dX9_findDrift_135 (by decide) (fun c135 => ?_) (fun c135 => ?_)
            ·
              refine lv_iconst (v := 0) S.1 S.2.1 dX9_findDrift_157 (by decide) ?_
              refine lv_istore (lv' := [(6, .int 0), (0, .ref (am 0)), (1, .int (b2i x.1)), (2, .int z.least), (3, .int z.most), (4, .int (nI a)), (5, .int (nI b))]) S.1 S.2.1 dX9_findDrift_158 hl (by decide) rfl (fun ls hl => ?_)
              refine lv_iload S.1 S.2.1 dX9_findDrift_160 (lv_at hl 0 rfl) ?_
              refine lv_if_eq (tgt := 277) S.1 S.2.1 dX9_findDrift_162 (by decide) (fun _ => ?_) (fun c_ => absurd (by decide) c_)
              refine lv_iinc (v := nI (b + 1)) (lv' := [(5, .int (nI (b + 1))), (6, .int 0), (0, .ref (am 0)), (1, .int (b2i x.1)), (2, .int z.least), (3, .int z.most), (4, .int (nI a))]) S.1 S.2.1 dX9_findDrift_277 hl (k := 6) rfl (nI_1 _) (by decide) rfl (fun ls hl => ?_)
              refine lv_goto (tgt := 97) S.1 S.2.1 dX9_findDrift_280 (by decide) ?_
              exact ih2 (b + 1) x (by omega) (by have q := drs_ok (a := a) (b := b) hfr (by omega) (by omega) hX; rw [drs, if_neg c120, if_pos c135] at q; exact q) (by rw [hJ, drb, drs, if_neg c120, if_pos c135]) _ _ M ls (lv_sub hl [2, 3, 4, 5, 6, 0] rfl)
            ·
              refine lv_iconst (v := 2) S.1 S.2.1 dX9_findDrift_138 (by decide) ?_
              refine lv_aload_n S.1 S.2.1 dX9_findDrift_139 rfl (lv_at hl 0 rfl) ?_
              refine gget S hE M (C := RX9) (T := TX9) (N := 28) (ci := 9) (index := 23) hwi 0 rfl rfl 8 (by decide) (by decide +kernel) rfl dX9_findDrift_140 ?_
              refine lv_iload S.1 S.2.1 dX9_findDrift_143 (lv_at hl 5 rfl) ?_
              refine giald S hE M 3 rfl (vp_in_nI (by omega) (by omega)) dX9_findDrift_145 ?_
              refine gtop (x' := z.fr b) (by rw [nI_clamp (by omega)]) ?_
              refine lv_imul S.1 S.2.1 dX9_findDrift_146 ?_
              refine lv_iload_n S.1 S.2.1 dX9_findDrift_147 rfl (lv_at hl 2 rfl) ?_
              refine lv_iload_n S.1 S.2.1 dX9_findDrift_148 rfl (lv_at hl 3 rfl) ?_
              refine lv_iadd S.1 S.2.1 dX9_findDrift_149 ?_
              refine lv_icmp_lt (tgt := 157) S.1 S.2.1 dX9_findDrift_150 (by decide) (fun c150 => ?_) (fun c150 => ?_)
              ·
                refine lv_iconst (v := 0) S.1 S.2.1 dX9_findDrift_157 (by decide) ?_
                refine lv_istore (lv' := [(6, .int 0), (0, .ref (am 0)), (1, .int (b2i x.1)), (2, .int z.least), (3, .int z.most), (4, .int (nI a)), (5, .int (nI b))]) S.1 S.2.1 dX9_findDrift_158 hl (by decide) rfl (fun ls hl => ?_)
                refine lv_iload S.1 S.2.1 dX9_findDrift_160 (lv_at hl 0 rfl) ?_
                refine lv_if_eq (tgt := 277) S.1 S.2.1 dX9_findDrift_162 (by decide) (fun _ => ?_) (fun c_ => absurd (by decide) c_)
                refine lv_iinc (v := nI (b + 1)) (lv' := [(5, .int (nI (b + 1))), (6, .int 0), (0, .ref (am 0)), (1, .int (b2i x.1)), (2, .int z.least), (3, .int z.most), (4, .int (nI a))]) S.1 S.2.1 dX9_findDrift_277 hl (k := 6) rfl (nI_1 _) (by decide) rfl (fun ls hl => ?_)
                refine lv_goto (tgt := 97) S.1 S.2.1 dX9_findDrift_280 (by decide) ?_
                exact ih2 (b + 1) x (by omega) (by have q := drs_ok (a := a) (b := b) hfr (by omega) (by omega) hX; rw [drs, if_neg c120, if_neg c135, if_pos c150] at q; exact q) (by rw [hJ, drb, drs, if_neg c120, if_neg c135, if_pos c150]) _ _ M ls (lv_sub hl [2, 3, 4, 5, 6, 0] rfl)
              ·
                refine lv_iconst (v := 1) S.1 S.2.1 dX9_findDrift_153 (by decide) ?_
                refine lv_goto (tgt := 158) S.1 S.2.1 dX9_findDrift_154 (by decide) ?_
                refine lv_istore (lv' := [(6, .int 1), (0, .ref (am 0)), (1, .int (b2i x.1)), (2, .int z.least), (3, .int z.most), (4, .int (nI a)), (5, .int (nI b))]) S.1 S.2.1 dX9_findDrift_158 hl (by decide) rfl (fun ls hl => ?_)
                refine lv_iload S.1 S.2.1 dX9_findDrift_160 (lv_at hl 0 rfl) ?_
                refine lv_if_eq (tgt := 277) S.1 S.2.1 dX9_findDrift_162 (by decide) (fun c_ => absurd c_ (by decide)) (fun _ => ?_)
                refine lv_aload_n S.1 S.2.1 dX9_findDrift_165 rfl (lv_at hl 1 rfl) ?_
                refine lv_iload S.1 S.2.1 dX9_findDrift_166 (lv_at hl 5 rfl) ?_
                refine lv_iload S.1 S.2.1 dX9_findDrift_168 (lv_at hl 6 rfl) ?_
                refine gcalli (L := []) (Mid := modGs E am ((z.sg, z.tp, z.tn, z.mn, z.mk, z.mg, z.jp, z.ct, z.fr, z.wh, z.sn, z.ca, z.sp, z.hd, z.ps, z.tm, z.mm, z.on, z.ba, z.bg, z.se, x.2.1, x.2.2, z.co, z.po, z.gr, z.tx, z.wr) : MdS)) (Rr := []) (Mid' := modGs E am ((z.sg, z.tp, z.tn, z.mn, z.mk, z.mg, z.jp, z.ct, z.fr, z.wh, z.sn, z.ca, z.sp, z.hd, z.ps, z.tm, z.mm, z.on, z.ba, z.bg, z.se, x.2.1, x.2.2, z.co, z.po, z.gr, z.tx, z.wr) : MdS)) hE M rfl (rfl) (rfl) (fun hgH => va_runV (As := [.int (nI a), .int (nI b)]) (rest := []) S (c_X9_isUnder l E am ((z.sg, z.tp, z.tn, z.mn, z.mk, z.mg, z.jp, z.ct, z.fr, z.wh, z.sn, z.ca, z.sp, z.hd, z.ps, z.tm, z.mm, z.on, z.ba, z.bg, z.se, x.2.1, x.2.2, z.co, z.po, z.gr, z.tx, z.wr) : MdS) a b  (by omega) (by omega) hc _) (cwV 2 S.2.2.2.2 gX9_findDrift_X9_isUnder rfl rfl rfl kd_X9_isUnder ⟨Nat.le_of_ble_eq_true rfl, Nat.le_of_ble_eq_true rfl⟩) (hgH.V hE (show vwCl[9]? = some (RX9, TX9, 28) from rfl) rfl) rfl rfl hl.1 rfl (lv_room (Nat.le_of_ble_eq_true rfl)) dX9_findDrift_170 ⟨Nat.zero_le _, Nat.zero_le _⟩) (fun H locs M => ?_)
                have M : gM E A s.heap [[(am 0, .inr (9, [.ref (am 1), .ref (am 2), .int (nI z.tn), .int z.mn, .int z.mk, .int z.mg, .int z.jp, .int (nI z.ct), .ref (am 3), .ref (am 4), .ref (am 5), .ref (am 6), .int (nI z.sp), .ref (am 7), .ref (am 8), .ref (am 9), .ref (am 10), .int (b2i z.on), .int z.ba, .int z.bg, .ref (am 11), .long x.2.1, .long x.2.2, .int z.co, .int z.po, .int z.gr, .ref (am 12), .int (nI z.wr)]))], [((am 1), .inl (xI E, 25, .inl z.sg))], [((am 2), .inl (xI E, 8, .inl z.tp))], [((am 3), .inl (xI E, 120, .inl z.fr))], [((am 4), .inl (xI E, 120, .inl z.wh))], [((am 5), .inl (xI E, 120, .inl z.sn))], [((am 6), .inl (xI E, 300, .inl z.ca))], [((am 7), .inl (xI E, 120, .inl z.hd))], [((am 8), .inl (xI E, 120, .inl z.ps))], [((am 9), .inl (xI E, 120, .inl z.tm))], [((am 10), .inl (xI E, 120, .inl z.mm))], [((am 11), .inl (xJ E, 120, .inr (.inl z.se)))], [((am 12), .inl (xI E, 400, .inl z.tx))]] H locs := M
                refine gtop (x' := z.under a b) (und_ub z _ _ _ _) ?_
                refine lv_if_eq (tgt := 277) S.1 S.2.1 dX9_findDrift_173 (by decide) (fun c173 => ?_) (fun c173 => ?_)
                ·
                  refine lv_iinc (v := nI (b + 1)) (lv' := [(5, .int (nI (b + 1))), (6, .int 1), (0, .ref (am 0)), (1, .int (b2i x.1)), (2, .int z.least), (3, .int z.most), (4, .int (nI a))]) S.1 S.2.1 dX9_findDrift_277 hl (k := 6) rfl (nI_1 _) (by decide) rfl (fun ls hl => ?_)
                  refine lv_goto (tgt := 97) S.1 S.2.1 dX9_findDrift_280 (by decide) ?_
                  exact ih2 (b + 1) x (by omega) (by have q := drs_ok (a := a) (b := b) hfr (by omega) (by omega) hX; rw [drs, if_neg c120, if_neg c135, if_neg c150, if_pos c173] at q; exact q) (by rw [hJ, drb, drs, if_neg c120, if_neg c135, if_neg c150, if_pos c173]) _ _ M ls (lv_sub hl [2, 3, 4, 5, 6, 0] rfl)
                ·
                  refine lv_aload_n S.1 S.2.1 dX9_findDrift_176 rfl (lv_at hl 1 rfl) ?_
                  refine lv_iload S.1 S.2.1 dX9_findDrift_177 (lv_at hl 6 rfl) ?_
                  refine gcalli (L := []) (Mid := modGs E am ((z.sg, z.tp, z.tn, z.mn, z.mk, z.mg, z.jp, z.ct, z.fr, z.wh, z.sn, z.ca, z.sp, z.hd, z.ps, z.tm, z.mm, z.on, z.ba, z.bg, z.se, x.2.1, x.2.2, z.co, z.po, z.gr, z.tx, z.wr) : MdS)) (Rr := []) (Mid' := modGs E am ((z.sg, z.tp, z.tn, z.mn, z.mk, z.mg, z.jp, z.ct, z.fr, z.wh, z.sn, z.ca, z.sp, z.hd, z.ps, z.tm, z.mm, z.on, z.ba, z.bg, z.se, x.2.1, x.2.2, z.co, z.po, z.gr, z.tx, z.wr) : MdS)) hE M rfl (rfl) (rfl) (fun hgH => va_runV (As := [.int (nI b)]) (rest := []) S (c_X9_delay l E am ((z.sg, z.tp, z.tn, z.mn, z.mk, z.mg, z.jp, z.ct, z.fr, z.wh, z.sn, z.ca, z.sp, z.hd, z.ps, z.tm, z.mm, z.on, z.ba, z.bg, z.se, x.2.1, x.2.2, z.co, z.po, z.gr, z.tx, z.wr) : MdS) b  (by omega) _) (cwV 1 S.2.2.2.2 gX9_findDrift_X9_delay rfl rfl rfl kd_X9_delay ⟨Nat.le_of_ble_eq_true rfl, Nat.le_of_ble_eq_true rfl⟩) (hgH.V hE (show vwCl[9]? = some (RX9, TX9, 28) from rfl) rfl) rfl rfl hl.1 rfl (lv_room (Nat.le_of_ble_eq_true rfl)) dX9_findDrift_179 ⟨Nat.zero_le _, Nat.zero_le _⟩) (fun H locs M => ?_)
                  have M : gM E A s.heap [[(am 0, .inr (9, [.ref (am 1), .ref (am 2), .int (nI z.tn), .int z.mn, .int z.mk, .int z.mg, .int z.jp, .int (nI z.ct), .ref (am 3), .ref (am 4), .ref (am 5), .ref (am 6), .int (nI z.sp), .ref (am 7), .ref (am 8), .ref (am 9), .ref (am 10), .int (b2i z.on), .int z.ba, .int z.bg, .ref (am 11), .long x.2.1, .long x.2.2, .int z.co, .int z.po, .int z.gr, .ref (am 12), .int (nI z.wr)]))], [((am 1), .inl (xI E, 25, .inl z.sg))], [((am 2), .inl (xI E, 8, .inl z.tp))], [((am 3), .inl (xI E, 120, .inl z.fr))], [((am 4), .inl (xI E, 120, .inl z.wh))], [((am 5), .inl (xI E, 120, .inl z.sn))], [((am 6), .inl (xI E, 300, .inl z.ca))], [((am 7), .inl (xI E, 120, .inl z.hd))], [((am 8), .inl (xI E, 120, .inl z.ps))], [((am 9), .inl (xI E, 120, .inl z.tm))], [((am 10), .inl (xI E, 120, .inl z.mm))], [((am 11), .inl (xJ E, 120, .inr (.inl z.se)))], [((am 12), .inl (xI E, 400, .inl z.tx))]] H locs := M
                  refine lv_aload_n S.1 S.2.1 dX9_findDrift_182 rfl (lv_at hl 1 rfl) ?_
                  refine lv_iload S.1 S.2.1 dX9_findDrift_183 (lv_at hl 5 rfl) ?_
                  refine gcalli (L := []) (Mid := modGs E am ((z.sg, z.tp, z.tn, z.mn, z.mk, z.mg, z.jp, z.ct, z.fr, z.wh, z.sn, z.ca, z.sp, z.hd, z.ps, z.tm, z.mm, z.on, z.ba, z.bg, z.se, x.2.1, x.2.2, z.co, z.po, z.gr, z.tx, z.wr) : MdS)) (Rr := []) (Mid' := modGs E am ((z.sg, z.tp, z.tn, z.mn, z.mk, z.mg, z.jp, z.ct, z.fr, z.wh, z.sn, z.ca, z.sp, z.hd, z.ps, z.tm, z.mm, z.on, z.ba, z.bg, z.se, x.2.1, x.2.2, z.co, z.po, z.gr, z.tx, z.wr) : MdS)) hE M rfl (rfl) (rfl) (fun hgH => va_runV (As := [.int (nI a)]) (rest := [.int (MdS.dl ((z.sg, z.tp, z.tn, z.mn, z.mk, z.mg, z.jp, z.ct, z.fr, z.wh, z.sn, z.ca, z.sp, z.hd, z.ps, z.tm, z.mm, z.on, z.ba, z.bg, z.se, x.2.1, x.2.2, z.co, z.po, z.gr, z.tx, z.wr) : MdS) b)]) S (c_X9_delay l E am ((z.sg, z.tp, z.tn, z.mn, z.mk, z.mg, z.jp, z.ct, z.fr, z.wh, z.sn, z.ca, z.sp, z.hd, z.ps, z.tm, z.mm, z.on, z.ba, z.bg, z.se, x.2.1, x.2.2, z.co, z.po, z.gr, z.tx, z.wr) : MdS) a  (by omega) _) (cwV 1 S.2.2.2.2 gX9_findDrift_X9_delay rfl rfl rfl kd_X9_delay ⟨Nat.le_of_ble_eq_true rfl, Nat.le_of_ble_eq_true rfl⟩) (hgH.V hE (show vwCl[9]? = some (RX9, TX9, 28) from rfl) rfl) rfl rfl hl.1 rfl (lv_room (Nat.le_of_ble_eq_true rfl)) dX9_findDrift_185 ⟨Nat.zero_le _, Nat.zero_le _⟩) (fun H locs M => ?_)
                  have M : gM E A s.heap [[(am 0, .inr (9, [.ref (am 1), .ref (am 2), .int (nI z.tn), .int z.mn, .int z.mk, .int z.mg, .int z.jp, .int (nI z.ct), .ref (am 3), .ref (am 4), .ref (am 5), .ref (am 6), .int (nI z.sp), .ref (am 7), .ref (am 8), .ref (am 9), .ref (am 10), .int (b2i z.on), .int z.ba, .int z.bg, .ref (am 11), .long x.2.1, .long x.2.2, .int z.co, .int z.po, .int z.gr, .ref (am 12), .int (nI z.wr)]))], [((am 1), .inl (xI E, 25, .inl z.sg))], [((am 2), .inl (xI E, 8, .inl z.tp))], [((am 3), .inl (xI E, 120, .inl z.fr))], [((am 4), .inl (xI E, 120, .inl z.wh))], [((am 5), .inl (xI E, 120, .inl z.sn))], [((am 6), .inl (xI E, 300, .inl z.ca))], [((am 7), .inl (xI E, 120, .inl z.hd))], [((am 8), .inl (xI E, 120, .inl z.ps))], [((am 9), .inl (xI E, 120, .inl z.tm))], [((am 10), .inl (xI E, 120, .inl z.mm))], [((am 11), .inl (xJ E, 120, .inr (.inl z.se)))], [((am 12), .inl (xI E, 400, .inl z.tx))]] H locs := M
                  refine lv_isub S.1 S.2.1 dX9_findDrift_188 ?_
                  refine lv_i2l S.1 S.2.1 dX9_findDrift_189 rfl ?_
                  refine gtopl (x' := z.rise a b) (rfl) ?_
                  refine lv_lstore (lv' := [(7, .long (z.rise a b)), (6, .int 1), (0, .ref (am 0)), (1, .int (b2i x.1)), (2, .int z.least), (3, .int z.most), (4, .int (nI a)), (5, .int (nI b))]) S.1 S.2.1 dX9_findDrift_190 hl (by decide) rfl (fun ls hl => ?_)
                  refine lv_aload_n S.1 S.2.1 dX9_findDrift_192 rfl (lv_at hl 2 rfl) ?_
                  refine gget S hE M (C := RX9) (T := TX9) (N := 28) (ci := 9) (index := 23) hwi 0 rfl rfl 8 (by decide) (by decide +kernel) rfl dX9_findDrift_193 ?_
                  refine lv_iload S.1 S.2.1 dX9_findDrift_196 (lv_at hl 7 rfl) ?_
                  refine giald S hE M 3 rfl (vp_in_nI (by omega) (by omega)) dX9_findDrift_198 ?_
                  refine gtop (x' := z.fr b) (by rw [nI_clamp (by omega)]) ?_
                  refine lv_aload_n S.1 S.2.1 dX9_findDrift_199 rfl (lv_at hl 2 rfl) ?_
                  refine gget S hE M (C := RX9) (T := TX9) (N := 28) (ci := 9) (index := 23) hwi 0 rfl rfl 8 (by decide) (by decide +kernel) rfl dX9_findDrift_200 ?_
                  refine lv_iload S.1 S.2.1 dX9_findDrift_203 (lv_at hl 6 rfl) ?_
                  refine giald S hE M 3 rfl (vp_in_nI (by omega) (by omega)) dX9_findDrift_205 ?_
                  refine gtop (x' := z.fr a) (by rw [nI_clamp (by omega)]) ?_
                  refine lv_isub S.1 S.2.1 dX9_findDrift_206 ?_
                  refine lv_i2l S.1 S.2.1 dX9_findDrift_207 rfl ?_
                  refine gtopl (x' := z.far a b) (rfl) ?_
                  refine lv_lstore (lv' := [(9, .long (z.far a b)), (7, .long (z.rise a b)), (6, .int 1), (0, .ref (am 0)), (1, .int (b2i x.1)), (2, .int z.least), (3, .int z.most), (4, .int (nI a)), (5, .int (nI b))]) S.1 S.2.1 dX9_findDrift_208 hl (by decide) rfl (fun ls hl => ?_)
                  refine lv_iload_n S.1 S.2.1 dX9_findDrift_210 rfl (lv_at hl 4 rfl) ?_
                  refine lv_if_eq (tgt := 232) S.1 S.2.1 dX9_findDrift_211 (by decide) (fun c211 => ?_) (fun c211 => ?_)
                  ·
                    refine lv_iconst (v := 1) S.1 S.2.1 dX9_findDrift_232 (by decide) ?_
                    refine lv_goto (tgt := 237) S.1 S.2.1 dX9_findDrift_233 (by decide) ?_
                    refine lv_istore (lv' := [(11, .int 1), (9, .long (z.far a b)), (7, .long (z.rise a b)), (6, .int 1), (0, .ref (am 0)), (1, .int (b2i x.1)), (2, .int z.least), (3, .int z.most), (4, .int (nI a)), (5, .int (nI b))]) S.1 S.2.1 dX9_findDrift_237 hl (by decide) rfl (fun ls hl => ?_)
                    refine lv_aload_n S.1 S.2.1 dX9_findDrift_239 rfl (lv_at hl 4 rfl) ?_
                    refine lv_iload S.1 S.2.1 dX9_findDrift_240 (lv_at hl 0 rfl) ?_
                    refine lv_if_eq (tgt := 250) S.1 S.2.1 dX9_findDrift_242 (by decide) (fun c_ => absurd c_ (by decide)) (fun _ => ?_)
                    refine lv_lload S.1 S.2.1 dX9_findDrift_245 (lv_at hl 2 rfl) ?_
                    refine lv_goto (tgt := 254) S.1 S.2.1 dX9_findDrift_247 (by decide) ?_
                    refine gput S hE M (C := RX9) (T := TX9) (N := 28) (ci := 9) (index := 122) (Gs' := [[(am 0, .inr (9, [.ref (am 1), .ref (am 2), .int (nI z.tn), .int z.mn, .int z.mk, .int z.mg, .int z.jp, .int (nI z.ct), .ref (am 3), .ref (am 4), .ref (am 5), .ref (am 6), .int (nI z.sp), .ref (am 7), .ref (am 8), .ref (am 9), .ref (am 10), .int (b2i z.on), .int z.ba, .int z.bg, .ref (am 11), .long (z.rise a b), .long x.2.2, .int z.co, .int z.po, .int z.gr, .ref (am 12), .int (nI z.wr)]))], [((am 1), .inl (xI E, 25, .inl z.sg))], [((am 2), .inl (xI E, 8, .inl z.tp))], [((am 3), .inl (xI E, 120, .inl z.fr))], [((am 4), .inl (xI E, 120, .inl z.wh))], [((am 5), .inl (xI E, 120, .inl z.sn))], [((am 6), .inl (xI E, 300, .inl z.ca))], [((am 7), .inl (xI E, 120, .inl z.hd))], [((am 8), .inl (xI E, 120, .inl z.ps))], [((am 9), .inl (xI E, 120, .inl z.tm))], [((am 10), .inl (xI E, 120, .inl z.mm))], [((am 11), .inl (xJ E, 120, .inr (.inl z.se)))], [((am 12), .inl (xI E, 400, .inl z.tx))]]) hwi tyX9 tyX9_ok nmX9 0 rfl rfl 21 (by decide) (by decide +kernel) rfl rfl rfl (Nat.le_of_ble_eq_true rfl) rfl dX9_findDrift_254 (fun H locs M => ?_)
                    refine lv_aload_n S.1 S.2.1 dX9_findDrift_257 rfl (lv_at hl 4 rfl) ?_
                    refine lv_iload S.1 S.2.1 dX9_findDrift_258 (lv_at hl 0 rfl) ?_
                    refine lv_if_eq (tgt := 268) S.1 S.2.1 dX9_findDrift_260 (by decide) (fun c_ => absurd c_ (by decide)) (fun _ => ?_)
                    refine lv_lload S.1 S.2.1 dX9_findDrift_263 (lv_at hl 1 rfl) ?_
                    refine lv_goto (tgt := 272) S.1 S.2.1 dX9_findDrift_265 (by decide) ?_
                    refine gput S hE M (C := RX9) (T := TX9) (N := 28) (ci := 9) (index := 126) (Gs' := [[(am 0, .inr (9, [.ref (am 1), .ref (am 2), .int (nI z.tn), .int z.mn, .int z.mk, .int z.mg, .int z.jp, .int (nI z.ct), .ref (am 3), .ref (am 4), .ref (am 5), .ref (am 6), .int (nI z.sp), .ref (am 7), .ref (am 8), .ref (am 9), .ref (am 10), .int (b2i z.on), .int z.ba, .int z.bg, .ref (am 11), .long (z.rise a b), .long (z.far a b), .int z.co, .int z.po, .int z.gr, .ref (am 12), .int (nI z.wr)]))], [((am 1), .inl (xI E, 25, .inl z.sg))], [((am 2), .inl (xI E, 8, .inl z.tp))], [((am 3), .inl (xI E, 120, .inl z.fr))], [((am 4), .inl (xI E, 120, .inl z.wh))], [((am 5), .inl (xI E, 120, .inl z.sn))], [((am 6), .inl (xI E, 300, .inl z.ca))], [((am 7), .inl (xI E, 120, .inl z.hd))], [((am 8), .inl (xI E, 120, .inl z.ps))], [((am 9), .inl (xI E, 120, .inl z.tm))], [((am 10), .inl (xI E, 120, .inl z.mm))], [((am 11), .inl (xJ E, 120, .inr (.inl z.se)))], [((am 12), .inl (xI E, 400, .inl z.tx))]]) hwi tyX9 tyX9_ok nmX9 0 rfl rfl 22 (by decide) (by decide +kernel) rfl rfl rfl (Nat.le_of_ble_eq_true rfl) rfl dX9_findDrift_272 (fun H locs M => ?_)
                    refine lv_iconst (v := 1) S.1 S.2.1 dX9_findDrift_275 (by decide) ?_
                    refine lv_istore_n (lv' := [(1, .int 1), (11, .int 1), (9, .long (z.far a b)), (7, .long (z.rise a b)), (6, .int 1), (0, .ref (am 0)), (2, .int z.least), (3, .int z.most), (4, .int (nI a)), (5, .int (nI b))]) S.1 S.2.1 dX9_findDrift_276 rfl hl (by decide) rfl (fun ls hl => ?_)
                    refine lv_iinc (v := nI (b + 1)) (lv' := [(5, .int (nI (b + 1))), (1, .int 1), (11, .int 1), (9, .long (z.far a b)), (7, .long (z.rise a b)), (6, .int 1), (0, .ref (am 0)), (2, .int z.least), (3, .int z.most), (4, .int (nI a))]) S.1 S.2.1 dX9_findDrift_277 hl (k := 9) rfl (nI_1 _) (by decide) rfl (fun ls hl => ?_)
                    refine lv_goto (tgt := 97) S.1 S.2.1 dX9_findDrift_280 (by decide) ?_
                    exact ih2 (b + 1) (true, z.rise a b, z.far a b) (by omega) (by have q := drs_ok (a := a) (b := b) hfr (by omega) (by omega) hX; rw [drs, if_neg c120, if_neg c135, if_neg c150, if_neg c173, if_pos c211] at q; exact q) (by rw [hJ, drb, drs, if_neg c120, if_neg c135, if_neg c150, if_neg c173, if_pos c211]) _ _ M ls (lv_sub hl [6, 1, 7, 8, 9, 0] rfl)
                  ·
                    refine lv_lload S.1 S.2.1 dX9_findDrift_214 (lv_at hl 1 rfl) ?_
                    refine lv_aload_n S.1 S.2.1 dX9_findDrift_216 rfl (lv_at hl 3 rfl) ?_
                    refine gget S hE M (C := RX9) (T := TX9) (N := 28) (ci := 9) (index := 126) hwi 0 rfl rfl 22 (by decide) (by decide +kernel) rfl dX9_findDrift_217 ?_
                    refine lv_lmul S.1 S.2.1 dX9_findDrift_220 ?_
                    refine lv_aload_n S.1 S.2.1 dX9_findDrift_221 rfl (lv_at hl 3 rfl) ?_
                    refine gget S hE M (C := RX9) (T := TX9) (N := 28) (ci := 9) (index := 122) hwi 0 rfl rfl 21 (by decide) (by decide +kernel) rfl dX9_findDrift_222 ?_
                    refine lv_lload S.1 S.2.1 dX9_findDrift_225 (lv_at hl 0 rfl) ?_
                    refine lv_lmul S.1 S.2.1 dX9_findDrift_227 ?_
                    refine W.lcmp S.1 S.2.1 dX9_findDrift_228 ?_
                    refine lv_if_ge (tgt := 236) S.1 S.2.1 dX9_findDrift_229 (by decide) (fun c229 => ?_) (fun c229 => ?_)
                    ·
                      have c229 : (x.2.1 * (z.far a b)) ≤ ((z.rise a b) * x.2.2) := (lg_cmp_ge _ _).mp c229
                      refine lv_iconst (v := 0) S.1 S.2.1 dX9_findDrift_236 (by decide) ?_
                      refine lv_istore (lv' := [(11, .int 0), (9, .long (z.far a b)), (7, .long (z.rise a b)), (6, .int 1), (0, .ref (am 0)), (1, .int (b2i x.1)), (2, .int z.least), (3, .int z.most), (4, .int (nI a)), (5, .int (nI b))]) S.1 S.2.1 dX9_findDrift_237 hl (by decide) rfl (fun ls hl => ?_)
                      refine lv_aload_n S.1 S.2.1 dX9_findDrift_239 rfl (lv_at hl 4 rfl) ?_
                      refine lv_iload S.1 S.2.1 dX9_findDrift_240 (lv_at hl 0 rfl) ?_
                      refine lv_if_eq (tgt := 250) S.1 S.2.1 dX9_findDrift_242 (by decide) (fun _ => ?_) (fun c_ => absurd (by decide) c_)
                      refine lv_aload_n S.1 S.2.1 dX9_findDrift_250 rfl (lv_at hl 4 rfl) ?_
                      refine gget S hE M (C := RX9) (T := TX9) (N := 28) (ci := 9) (index := 122) hwi 0 rfl rfl 21 (by decide) (by decide +kernel) rfl dX9_findDrift_251 ?_
                      refine gput S hE M (C := RX9) (T := TX9) (N := 28) (ci := 9) (index := 122) (Gs' := [[(am 0, .inr (9, [.ref (am 1), .ref (am 2), .int (nI z.tn), .int z.mn, .int z.mk, .int z.mg, .int z.jp, .int (nI z.ct), .ref (am 3), .ref (am 4), .ref (am 5), .ref (am 6), .int (nI z.sp), .ref (am 7), .ref (am 8), .ref (am 9), .ref (am 10), .int (b2i z.on), .int z.ba, .int z.bg, .ref (am 11), .long x.2.1, .long x.2.2, .int z.co, .int z.po, .int z.gr, .ref (am 12), .int (nI z.wr)]))], [((am 1), .inl (xI E, 25, .inl z.sg))], [((am 2), .inl (xI E, 8, .inl z.tp))], [((am 3), .inl (xI E, 120, .inl z.fr))], [((am 4), .inl (xI E, 120, .inl z.wh))], [((am 5), .inl (xI E, 120, .inl z.sn))], [((am 6), .inl (xI E, 300, .inl z.ca))], [((am 7), .inl (xI E, 120, .inl z.hd))], [((am 8), .inl (xI E, 120, .inl z.ps))], [((am 9), .inl (xI E, 120, .inl z.tm))], [((am 10), .inl (xI E, 120, .inl z.mm))], [((am 11), .inl (xJ E, 120, .inr (.inl z.se)))], [((am 12), .inl (xI E, 400, .inl z.tx))]]) hwi tyX9 tyX9_ok nmX9 0 rfl rfl 21 (by decide) (by decide +kernel) rfl rfl rfl (Nat.le_of_ble_eq_true rfl) rfl dX9_findDrift_254 (fun H locs M => ?_)
                      refine lv_aload_n S.1 S.2.1 dX9_findDrift_257 rfl (lv_at hl 4 rfl) ?_
                      refine lv_iload S.1 S.2.1 dX9_findDrift_258 (lv_at hl 0 rfl) ?_
                      refine lv_if_eq (tgt := 268) S.1 S.2.1 dX9_findDrift_260 (by decide) (fun _ => ?_) (fun c_ => absurd (by decide) c_)
                      refine lv_aload_n S.1 S.2.1 dX9_findDrift_268 rfl (lv_at hl 4 rfl) ?_
                      refine gget S hE M (C := RX9) (T := TX9) (N := 28) (ci := 9) (index := 126) hwi 0 rfl rfl 22 (by decide) (by decide +kernel) rfl dX9_findDrift_269 ?_
                      refine gput S hE M (C := RX9) (T := TX9) (N := 28) (ci := 9) (index := 126) (Gs' := [[(am 0, .inr (9, [.ref (am 1), .ref (am 2), .int (nI z.tn), .int z.mn, .int z.mk, .int z.mg, .int z.jp, .int (nI z.ct), .ref (am 3), .ref (am 4), .ref (am 5), .ref (am 6), .int (nI z.sp), .ref (am 7), .ref (am 8), .ref (am 9), .ref (am 10), .int (b2i z.on), .int z.ba, .int z.bg, .ref (am 11), .long x.2.1, .long x.2.2, .int z.co, .int z.po, .int z.gr, .ref (am 12), .int (nI z.wr)]))], [((am 1), .inl (xI E, 25, .inl z.sg))], [((am 2), .inl (xI E, 8, .inl z.tp))], [((am 3), .inl (xI E, 120, .inl z.fr))], [((am 4), .inl (xI E, 120, .inl z.wh))], [((am 5), .inl (xI E, 120, .inl z.sn))], [((am 6), .inl (xI E, 300, .inl z.ca))], [((am 7), .inl (xI E, 120, .inl z.hd))], [((am 8), .inl (xI E, 120, .inl z.ps))], [((am 9), .inl (xI E, 120, .inl z.tm))], [((am 10), .inl (xI E, 120, .inl z.mm))], [((am 11), .inl (xJ E, 120, .inr (.inl z.se)))], [((am 12), .inl (xI E, 400, .inl z.tx))]]) hwi tyX9 tyX9_ok nmX9 0 rfl rfl 22 (by decide) (by decide +kernel) rfl rfl rfl (Nat.le_of_ble_eq_true rfl) rfl dX9_findDrift_272 (fun H locs M => ?_)
                      refine lv_iconst (v := 1) S.1 S.2.1 dX9_findDrift_275 (by decide) ?_
                      refine lv_istore_n (lv' := [(1, .int 1), (11, .int 0), (9, .long (z.far a b)), (7, .long (z.rise a b)), (6, .int 1), (0, .ref (am 0)), (2, .int z.least), (3, .int z.most), (4, .int (nI a)), (5, .int (nI b))]) S.1 S.2.1 dX9_findDrift_276 rfl hl (by decide) rfl (fun ls hl => ?_)
                      refine lv_iinc (v := nI (b + 1)) (lv' := [(5, .int (nI (b + 1))), (1, .int 1), (11, .int 0), (9, .long (z.far a b)), (7, .long (z.rise a b)), (6, .int 1), (0, .ref (am 0)), (2, .int z.least), (3, .int z.most), (4, .int (nI a))]) S.1 S.2.1 dX9_findDrift_277 hl (k := 9) rfl (nI_1 _) (by decide) rfl (fun ls hl => ?_)
                      refine lv_goto (tgt := 97) S.1 S.2.1 dX9_findDrift_280 (by decide) ?_
                      exact ih2 (b + 1) (true, x.2.1, x.2.2) (by omega) (by have q := drs_ok (a := a) (b := b) hfr (by omega) (by omega) hX; rw [drs, if_neg c120, if_neg c135, if_neg c150, if_neg c173, if_neg c211, if_pos c229] at q; exact q) (by rw [hJ, drb, drs, if_neg c120, if_neg c135, if_neg c150, if_neg c173, if_neg c211, if_pos c229]) _ _ M ls (lv_sub hl [6, 1, 7, 8, 9, 0] rfl)
                    ·
                      have c229 : ¬ (x.2.1 * (z.far a b)) ≤ ((z.rise a b) * x.2.2) := fun q => c229 ((lg_cmp_ge _ _).mpr q)
                      refine lv_iconst (v := 1) S.1 S.2.1 dX9_findDrift_232 (by decide) ?_
                      refine lv_goto (tgt := 237) S.1 S.2.1 dX9_findDrift_233 (by decide) ?_
                      refine lv_istore (lv' := [(11, .int 1), (9, .long (z.far a b)), (7, .long (z.rise a b)), (6, .int 1), (0, .ref (am 0)), (1, .int (b2i x.1)), (2, .int z.least), (3, .int z.most), (4, .int (nI a)), (5, .int (nI b))]) S.1 S.2.1 dX9_findDrift_237 hl (by decide) rfl (fun ls hl => ?_)
                      refine lv_aload_n S.1 S.2.1 dX9_findDrift_239 rfl (lv_at hl 4 rfl) ?_
                      refine lv_iload S.1 S.2.1 dX9_findDrift_240 (lv_at hl 0 rfl) ?_
                      refine lv_if_eq (tgt := 250) S.1 S.2.1 dX9_findDrift_242 (by decide) (fun c_ => absurd c_ (by decide)) (fun _ => ?_)
                      refine lv_lload S.1 S.2.1 dX9_findDrift_245 (lv_at hl 2 rfl) ?_
                      refine lv_goto (tgt := 254) S.1 S.2.1 dX9_findDrift_247 (by decide) ?_
                      refine gput S hE M (C := RX9) (T := TX9) (N := 28) (ci := 9) (index := 122) (Gs' := [[(am 0, .inr (9, [.ref (am 1), .ref (am 2), .int (nI z.tn), .int z.mn, .int z.mk, .int z.mg, .int z.jp, .int (nI z.ct), .ref (am 3), .ref (am 4), .ref (am 5), .ref (am 6), .int (nI z.sp), .ref (am 7), .ref (am 8), .ref (am 9), .ref (am 10), .int (b2i z.on), .int z.ba, .int z.bg, .ref (am 11), .long (z.rise a b), .long x.2.2, .int z.co, .int z.po, .int z.gr, .ref (am 12), .int (nI z.wr)]))], [((am 1), .inl (xI E, 25, .inl z.sg))], [((am 2), .inl (xI E, 8, .inl z.tp))], [((am 3), .inl (xI E, 120, .inl z.fr))], [((am 4), .inl (xI E, 120, .inl z.wh))], [((am 5), .inl (xI E, 120, .inl z.sn))], [((am 6), .inl (xI E, 300, .inl z.ca))], [((am 7), .inl (xI E, 120, .inl z.hd))], [((am 8), .inl (xI E, 120, .inl z.ps))], [((am 9), .inl (xI E, 120, .inl z.tm))], [((am 10), .inl (xI E, 120, .inl z.mm))], [((am 11), .inl (xJ E, 120, .inr (.inl z.se)))], [((am 12), .inl (xI E, 400, .inl z.tx))]]) hwi tyX9 tyX9_ok nmX9 0 rfl rfl 21 (by decide) (by decide +kernel) rfl rfl rfl (Nat.le_of_ble_eq_true rfl) rfl dX9_findDrift_254 (fun H locs M => ?_)
                      refine lv_aload_n S.1 S.2.1 dX9_findDrift_257 rfl (lv_at hl 4 rfl) ?_
                      refine lv_iload S.1 S.2.1 dX9_findDrift_258 (lv_at hl 0 rfl) ?_
                      refine lv_if_eq (tgt := 268) S.1 S.2.1 dX9_findDrift_260 (by decide) (fun c_ => absurd c_ (by decide)) (fun _ => ?_)
                      refine lv_lload S.1 S.2.1 dX9_findDrift_263 (lv_at hl 1 rfl) ?_
                      refine lv_goto (tgt := 272) S.1 S.2.1 dX9_findDrift_265 (by decide) ?_
                      refine gput S hE M (C := RX9) (T := TX9) (N := 28) (ci := 9) (index := 126) (Gs' := [[(am 0, .inr (9, [.ref (am 1), .ref (am 2), .int (nI z.tn), .int z.mn, .int z.mk, .int z.mg, .int z.jp, .int (nI z.ct), .ref (am 3), .ref (am 4), .ref (am 5), .ref (am 6), .int (nI z.sp), .ref (am 7), .ref (am 8), .ref (am 9), .ref (am 10), .int (b2i z.on), .int z.ba, .int z.bg, .ref (am 11), .long (z.rise a b), .long (z.far a b), .int z.co, .int z.po, .int z.gr, .ref (am 12), .int (nI z.wr)]))], [((am 1), .inl (xI E, 25, .inl z.sg))], [((am 2), .inl (xI E, 8, .inl z.tp))], [((am 3), .inl (xI E, 120, .inl z.fr))], [((am 4), .inl (xI E, 120, .inl z.wh))], [((am 5), .inl (xI E, 120, .inl z.sn))], [((am 6), .inl (xI E, 300, .inl z.ca))], [((am 7), .inl (xI E, 120, .inl z.hd))], [((am 8), .inl (xI E, 120, .inl z.ps))], [((am 9), .inl (xI E, 120, .inl z.tm))], [((am 10), .inl (xI E, 120, .inl z.mm))], [((am 11), .inl (xJ E, 120, .inr (.inl z.se)))], [((am 12), .inl (xI E, 400, .inl z.tx))]]) hwi tyX9 tyX9_ok nmX9 0 rfl rfl 22 (by decide) (by decide +kernel) rfl rfl rfl (Nat.le_of_ble_eq_true rfl) rfl dX9_findDrift_272 (fun H locs M => ?_)
                      refine lv_iconst (v := 1) S.1 S.2.1 dX9_findDrift_275 (by decide) ?_
                      refine lv_istore_n (lv' := [(1, .int 1), (11, .int 1), (9, .long (z.far a b)), (7, .long (z.rise a b)), (6, .int 1), (0, .ref (am 0)), (2, .int z.least), (3, .int z.most), (4, .int (nI a)), (5, .int (nI b))]) S.1 S.2.1 dX9_findDrift_276 rfl hl (by decide) rfl (fun ls hl => ?_)
                      refine lv_iinc (v := nI (b + 1)) (lv' := [(5, .int (nI (b + 1))), (1, .int 1), (11, .int 1), (9, .long (z.far a b)), (7, .long (z.rise a b)), (6, .int 1), (0, .ref (am 0)), (2, .int z.least), (3, .int z.most), (4, .int (nI a))]) S.1 S.2.1 dX9_findDrift_277 hl (k := 9) rfl (nI_1 _) (by decide) rfl (fun ls hl => ?_)
                      refine lv_goto (tgt := 97) S.1 S.2.1 dX9_findDrift_280 (by decide) ?_
                      exact ih2 (b + 1) (true, z.rise a b, z.far a b) (by omega) (by have q := drs_ok (a := a) (b := b) hfr (by omega) (by omega) hX; rw [drs, if_neg c120, if_neg c135, if_neg c150, if_neg c173, if_neg c211, if_neg c229] at q; exact q) (by rw [hJ, drb, drs, if_neg c120, if_neg c135, if_neg c150, if_neg c173, if_neg c211, if_neg c229]) _ _ M ls (lv_sub hl [6, 1, 7, 8, 9, 0] rfl)
      refine lv_iload S.1 S.2.1 dX9_findDrift_85 (lv_at hl 4 rfl) ?_
      refine lv_aload_n S.1 S.2.1 dX9_findDrift_87 rfl (lv_at hl 0 rfl) ?_
      refine gget S hE M (C := RX9) (T := TX9) (N := 28) (ci := 9) (index := 78) hwi 0 rfl rfl 7 (by decide) (by decide +kernel) rfl dX9_findDrift_88 ?_
      refine lv_icmp_ge (tgt := 289) S.1 S.2.1 dX9_findDrift_91 (by decide) (fun c_ => absurd c_ (nI_ge (by omega) (by omega))) (fun _ => ?_)
      refine lv_iconst (v := 0) S.1 S.2.1 dX9_findDrift_94 (by decide) ?_
      refine lv_istore (lv' := [(5, .int 0), (0, .ref (am 0)), (1, .int (b2i y.1)), (2, .int z.least), (3, .int z.most), (4, .int (nI a))]) S.1 S.2.1 dX9_findDrift_95 hl (by decide) rfl (fun ls hl => ?_)
      exact hC z.ct 0 y (by omega) hY rfl _ _ M ls (lv_sub hl [1, 2, 3, 4, 5, 0] rfl)
  have hA : ∀ (n : Nat), ∀ (a : Nat) (l0 m0 : Int32), a + n = z.ct → z.least = lel z n a l0 → z.most = mol z n a m0 → ∀ (H : Heap) (locs : List Loc), gM E A s.heap [[(am 0, .inr (9, [.ref (am 1), .ref (am 2), .int (nI z.tn), .int z.mn, .int z.mk, .int z.mg, .int z.jp, .int (nI z.ct), .ref (am 3), .ref (am 4), .ref (am 5), .ref (am 6), .int (nI z.sp), .ref (am 7), .ref (am 8), .ref (am 9), .ref (am 10), .int (b2i z.on), .int z.ba, .int z.bg, .ref (am 11), .long 0, .long 1, .int z.co, .int z.po, .int z.gr, .ref (am 12), .int (nI z.wr)]))], [((am 1), .inl (xI E, 25, .inl z.sg))], [((am 2), .inl (xI E, 8, .inl z.tp))], [((am 3), .inl (xI E, 120, .inl z.fr))], [((am 4), .inl (xI E, 120, .inl z.wh))], [((am 5), .inl (xI E, 120, .inl z.sn))], [((am 6), .inl (xI E, 300, .inl z.ca))], [((am 7), .inl (xI E, 120, .inl z.hd))], [((am 8), .inl (xI E, 120, .inl z.ps))], [((am 9), .inl (xI E, 120, .inl z.tm))], [((am 10), .inl (xI E, 120, .inl z.mm))], [((am 11), .inl (xJ E, 120, .inr (.inl z.se)))], [((am 12), .inl (xI E, 400, .inl z.tx))]] H locs → ∀ ls : Array Slot, lv_has ls 12 [(0, .ref (am 0)), (1, .int 0), (2, .int l0), (3, .int m0), (4, .int (nI a))] → W vp l ve (headSpec wsX9_findDrift (xrm 2 48)).room s vm ([.ref (am 0)] : List Value).toArray below meth vc H locs 0 0 Q (F0 vm 21 ls []) := by
    intro n
    induction n with
    | zero =>
      intro a l0 m0 hi hle hmo H locs M ls hl
      refine lv_iload S.1 S.2.1 dX9_findDrift_21 (lv_at hl 4 rfl) ?_
      refine lv_aload_n S.1 S.2.1 dX9_findDrift_23 rfl (lv_at hl 0 rfl) ?_
      refine gget S hE M (C := RX9) (T := TX9) (N := 28) (ci := 9) (index := 78) hwi 0 rfl rfl 7 (by decide) (by decide +kernel) rfl dX9_findDrift_24 ?_
      refine lv_icmp_ge (tgt := 82) S.1 S.2.1 dX9_findDrift_27 (by decide) (fun _ => ?_) (fun c_ => absurd (nI_le (by omega) (by omega)) c_)
      have e1 : l0 = z.least := by rw [hle, lel]
      have e2 : m0 = z.most := by rw [hmo, mol]
      subst e1
      subst e2
      refine lv_iconst (v := 0) S.1 S.2.1 dX9_findDrift_82 (by decide) ?_
      refine lv_istore (lv' := [(4, .int 0), (0, .ref (am 0)), (1, .int 0), (2, .int z.least), (3, .int z.most)]) S.1 S.2.1 dX9_findDrift_83 hl (by decide) rfl (fun ls hl => ?_)
      exact hB z.ct 0 (false, 0, 1) (by omega) ⟨by decide, by decide, by decide, by decide⟩ rfl _ _ M ls (lv_sub hl [1, 2, 3, 4, 0] rfl)
    | succ n ih =>
      intro a l0 m0 hi hle hmo H locs M ls hl
      refine lv_iload S.1 S.2.1 dX9_findDrift_21 (lv_at hl 4 rfl) ?_
      refine lv_aload_n S.1 S.2.1 dX9_findDrift_23 rfl (lv_at hl 0 rfl) ?_
      refine gget S hE M (C := RX9) (T := TX9) (N := 28) (ci := 9) (index := 78) hwi 0 rfl rfl 7 (by decide) (by decide +kernel) rfl dX9_findDrift_24 ?_
      refine lv_icmp_ge (tgt := 82) S.1 S.2.1 dX9_findDrift_27 (by decide) (fun c_ => absurd c_ (nI_ge (by omega) (by omega))) (fun _ => ?_)
      refine lv_aload_n S.1 S.2.1 dX9_findDrift_30 rfl (lv_at hl 0 rfl) ?_
      refine gget S hE M (C := RX9) (T := TX9) (N := 28) (ci := 9) (index := 23) hwi 0 rfl rfl 8 (by decide) (by decide +kernel) rfl dX9_findDrift_31 ?_
      refine lv_iload S.1 S.2.1 dX9_findDrift_34 (lv_at hl 4 rfl) ?_
      refine giald S hE M 3 rfl (vp_in_nI (by omega) (by omega)) dX9_findDrift_36 ?_
      refine gtop (x' := z.fr a) (by rw [nI_clamp (by omega)]) ?_
      refine lv_iload_n S.1 S.2.1 dX9_findDrift_37 rfl (lv_at hl 2 rfl) ?_
      refine lv_icmp_ge (tgt := 51) S.1 S.2.1 dX9_findDrift_38 (by decide) (fun c38 => ?_) (fun c38 => ?_)
      ·
        refine lv_iload_n S.1 S.2.1 dX9_findDrift_51 rfl (lv_at hl 2 rfl) ?_
        refine lv_istore_n (lv' := [(2, .int l0), (0, .ref (am 0)), (1, .int 0), (3, .int m0), (4, .int (nI a))]) S.1 S.2.1 dX9_findDrift_52 rfl hl (by decide) rfl (fun ls hl => ?_)
        refine lv_aload_n S.1 S.2.1 dX9_findDrift_53 rfl (lv_at hl 1 rfl) ?_
        refine gget S hE M (C := RX9) (T := TX9) (N := 28) (ci := 9) (index := 23) hwi 0 rfl rfl 8 (by decide) (by decide +kernel) rfl dX9_findDrift_54 ?_
        refine lv_iload S.1 S.2.1 dX9_findDrift_57 (lv_at hl 4 rfl) ?_
        refine giald S hE M 3 rfl (vp_in_nI (by omega) (by omega)) dX9_findDrift_59 ?_
        refine gtop (x' := z.fr a) (by rw [nI_clamp (by omega)]) ?_
        refine lv_iload_n S.1 S.2.1 dX9_findDrift_60 rfl (lv_at hl 3 rfl) ?_
        refine lv_icmp_le (tgt := 74) S.1 S.2.1 dX9_findDrift_61 (by decide) (fun c61 => ?_) (fun c61 => ?_)
        ·
          refine lv_iload_n S.1 S.2.1 dX9_findDrift_74 rfl (lv_at hl 3 rfl) ?_
          refine lv_istore_n (lv' := [(3, .int m0), (2, .int l0), (0, .ref (am 0)), (1, .int 0), (4, .int (nI a))]) S.1 S.2.1 dX9_findDrift_75 rfl hl (by decide) rfl (fun ls hl => ?_)
          refine lv_iinc (v := nI (a + 1)) (lv' := [(4, .int (nI (a + 1))), (3, .int m0), (2, .int l0), (0, .ref (am 0)), (1, .int 0)]) S.1 S.2.1 dX9_findDrift_76 hl (k := 4) rfl (nI_1 _) (by decide) rfl (fun ls hl => ?_)
          refine lv_goto (tgt := 21) S.1 S.2.1 dX9_findDrift_79 (by decide) ?_
          exact ih (a + 1) _ _ (by omega) (by rw [hle, lel, if_pos c38]) (by rw [hmo, mol, if_pos c61]) _ _ M ls (lv_sub hl [3, 4, 2, 1, 0] rfl)
        ·
          refine lv_aload_n S.1 S.2.1 dX9_findDrift_64 rfl (lv_at hl 1 rfl) ?_
          refine gget S hE M (C := RX9) (T := TX9) (N := 28) (ci := 9) (index := 23) hwi 0 rfl rfl 8 (by decide) (by decide +kernel) rfl dX9_findDrift_65 ?_
          refine lv_iload S.1 S.2.1 dX9_findDrift_68 (lv_at hl 4 rfl) ?_
          refine giald S hE M 3 rfl (vp_in_nI (by omega) (by omega)) dX9_findDrift_70 ?_
          refine gtop (x' := z.fr a) (by rw [nI_clamp (by omega)]) ?_
          refine lv_goto (tgt := 75) S.1 S.2.1 dX9_findDrift_71 (by decide) ?_
          refine lv_istore_n (lv' := [(3, .int (z.fr a)), (2, .int l0), (0, .ref (am 0)), (1, .int 0), (4, .int (nI a))]) S.1 S.2.1 dX9_findDrift_75 rfl hl (by decide) rfl (fun ls hl => ?_)
          refine lv_iinc (v := nI (a + 1)) (lv' := [(4, .int (nI (a + 1))), (3, .int (z.fr a)), (2, .int l0), (0, .ref (am 0)), (1, .int 0)]) S.1 S.2.1 dX9_findDrift_76 hl (k := 4) rfl (nI_1 _) (by decide) rfl (fun ls hl => ?_)
          refine lv_goto (tgt := 21) S.1 S.2.1 dX9_findDrift_79 (by decide) ?_
          exact ih (a + 1) _ _ (by omega) (by rw [hle, lel, if_pos c38]) (by rw [hmo, mol, if_neg c61]) _ _ M ls (lv_sub hl [3, 4, 2, 1, 0] rfl)
      ·
        refine lv_aload_n S.1 S.2.1 dX9_findDrift_41 rfl (lv_at hl 0 rfl) ?_
        refine gget S hE M (C := RX9) (T := TX9) (N := 28) (ci := 9) (index := 23) hwi 0 rfl rfl 8 (by decide) (by decide +kernel) rfl dX9_findDrift_42 ?_
        refine lv_iload S.1 S.2.1 dX9_findDrift_45 (lv_at hl 4 rfl) ?_
        refine giald S hE M 3 rfl (vp_in_nI (by omega) (by omega)) dX9_findDrift_47 ?_
        refine gtop (x' := z.fr a) (by rw [nI_clamp (by omega)]) ?_
        refine lv_goto (tgt := 52) S.1 S.2.1 dX9_findDrift_48 (by decide) ?_
        refine lv_istore_n (lv' := [(2, .int (z.fr a)), (0, .ref (am 0)), (1, .int 0), (3, .int m0), (4, .int (nI a))]) S.1 S.2.1 dX9_findDrift_52 rfl hl (by decide) rfl (fun ls hl => ?_)
        refine lv_aload_n S.1 S.2.1 dX9_findDrift_53 rfl (lv_at hl 1 rfl) ?_
        refine gget S hE M (C := RX9) (T := TX9) (N := 28) (ci := 9) (index := 23) hwi 0 rfl rfl 8 (by decide) (by decide +kernel) rfl dX9_findDrift_54 ?_
        refine lv_iload S.1 S.2.1 dX9_findDrift_57 (lv_at hl 4 rfl) ?_
        refine giald S hE M 3 rfl (vp_in_nI (by omega) (by omega)) dX9_findDrift_59 ?_
        refine gtop (x' := z.fr a) (by rw [nI_clamp (by omega)]) ?_
        refine lv_iload_n S.1 S.2.1 dX9_findDrift_60 rfl (lv_at hl 3 rfl) ?_
        refine lv_icmp_le (tgt := 74) S.1 S.2.1 dX9_findDrift_61 (by decide) (fun c61 => ?_) (fun c61 => ?_)
        ·
          refine lv_iload_n S.1 S.2.1 dX9_findDrift_74 rfl (lv_at hl 3 rfl) ?_
          refine lv_istore_n (lv' := [(3, .int m0), (2, .int (z.fr a)), (0, .ref (am 0)), (1, .int 0), (4, .int (nI a))]) S.1 S.2.1 dX9_findDrift_75 rfl hl (by decide) rfl (fun ls hl => ?_)
          refine lv_iinc (v := nI (a + 1)) (lv' := [(4, .int (nI (a + 1))), (3, .int m0), (2, .int (z.fr a)), (0, .ref (am 0)), (1, .int 0)]) S.1 S.2.1 dX9_findDrift_76 hl (k := 4) rfl (nI_1 _) (by decide) rfl (fun ls hl => ?_)
          refine lv_goto (tgt := 21) S.1 S.2.1 dX9_findDrift_79 (by decide) ?_
          exact ih (a + 1) _ _ (by omega) (by rw [hle, lel, if_neg c38]) (by rw [hmo, mol, if_pos c61]) _ _ M ls (lv_sub hl [3, 4, 2, 1, 0] rfl)
        ·
          refine lv_aload_n S.1 S.2.1 dX9_findDrift_64 rfl (lv_at hl 1 rfl) ?_
          refine gget S hE M (C := RX9) (T := TX9) (N := 28) (ci := 9) (index := 23) hwi 0 rfl rfl 8 (by decide) (by decide +kernel) rfl dX9_findDrift_65 ?_
          refine lv_iload S.1 S.2.1 dX9_findDrift_68 (lv_at hl 4 rfl) ?_
          refine giald S hE M 3 rfl (vp_in_nI (by omega) (by omega)) dX9_findDrift_70 ?_
          refine gtop (x' := z.fr a) (by rw [nI_clamp (by omega)]) ?_
          refine lv_goto (tgt := 75) S.1 S.2.1 dX9_findDrift_71 (by decide) ?_
          refine lv_istore_n (lv' := [(3, .int (z.fr a)), (2, .int (z.fr a)), (0, .ref (am 0)), (1, .int 0), (4, .int (nI a))]) S.1 S.2.1 dX9_findDrift_75 rfl hl (by decide) rfl (fun ls hl => ?_)
          refine lv_iinc (v := nI (a + 1)) (lv' := [(4, .int (nI (a + 1))), (3, .int (z.fr a)), (2, .int (z.fr a)), (0, .ref (am 0)), (1, .int 0)]) S.1 S.2.1 dX9_findDrift_76 hl (k := 4) rfl (nI_1 _) (by decide) rfl (fun ls hl => ?_)
          refine lv_goto (tgt := 21) S.1 S.2.1 dX9_findDrift_79 (by decide) ?_
          exact ih (a + 1) _ _ (by omega) (by rw [hle, lel, if_neg c38]) (by rw [hmo, mol, if_neg c61]) _ _ M ls (lv_sub hl [3, 4, 2, 1, 0] rfl)
  refine lv_aload_n S.1 S.2.1 dX9_findDrift_0 rfl (lv_at hl 0 rfl) ?_
  refine lv_lconst (v := 0) S.1 S.2.1 dX9_findDrift_1 (by decide) ?_
  refine gput S hE M (C := RX9) (T := TX9) (N := 28) (ci := 9) (index := 122) (Gs' := [[(am 0, .inr (9, [.ref (am 1), .ref (am 2), .int (nI z.tn), .int z.mn, .int z.mk, .int z.mg, .int z.jp, .int (nI z.ct), .ref (am 3), .ref (am 4), .ref (am 5), .ref (am 6), .int (nI z.sp), .ref (am 7), .ref (am 8), .ref (am 9), .ref (am 10), .int (b2i z.on), .int z.ba, .int z.bg, .ref (am 11), .long 0, .long z.by_, .int z.co, .int z.po, .int z.gr, .ref (am 12), .int (nI z.wr)]))], [((am 1), .inl (xI E, 25, .inl z.sg))], [((am 2), .inl (xI E, 8, .inl z.tp))], [((am 3), .inl (xI E, 120, .inl z.fr))], [((am 4), .inl (xI E, 120, .inl z.wh))], [((am 5), .inl (xI E, 120, .inl z.sn))], [((am 6), .inl (xI E, 300, .inl z.ca))], [((am 7), .inl (xI E, 120, .inl z.hd))], [((am 8), .inl (xI E, 120, .inl z.ps))], [((am 9), .inl (xI E, 120, .inl z.tm))], [((am 10), .inl (xI E, 120, .inl z.mm))], [((am 11), .inl (xJ E, 120, .inr (.inl z.se)))], [((am 12), .inl (xI E, 400, .inl z.tx))]]) hwi tyX9 tyX9_ok nmX9 0 rfl rfl 21 (by decide) (by decide +kernel) rfl rfl rfl (Nat.le_of_ble_eq_true rfl) rfl dX9_findDrift_2 (fun H locs M => ?_)
  refine lv_aload_n S.1 S.2.1 dX9_findDrift_5 rfl (lv_at hl 0 rfl) ?_
  refine lv_lconst (v := 1) S.1 S.2.1 dX9_findDrift_6 (by decide) ?_
  refine gput S hE M (C := RX9) (T := TX9) (N := 28) (ci := 9) (index := 126) (Gs' := [[(am 0, .inr (9, [.ref (am 1), .ref (am 2), .int (nI z.tn), .int z.mn, .int z.mk, .int z.mg, .int z.jp, .int (nI z.ct), .ref (am 3), .ref (am 4), .ref (am 5), .ref (am 6), .int (nI z.sp), .ref (am 7), .ref (am 8), .ref (am 9), .ref (am 10), .int (b2i z.on), .int z.ba, .int z.bg, .ref (am 11), .long 0, .long 1, .int z.co, .int z.po, .int z.gr, .ref (am 12), .int (nI z.wr)]))], [((am 1), .inl (xI E, 25, .inl z.sg))], [((am 2), .inl (xI E, 8, .inl z.tp))], [((am 3), .inl (xI E, 120, .inl z.fr))], [((am 4), .inl (xI E, 120, .inl z.wh))], [((am 5), .inl (xI E, 120, .inl z.sn))], [((am 6), .inl (xI E, 300, .inl z.ca))], [((am 7), .inl (xI E, 120, .inl z.hd))], [((am 8), .inl (xI E, 120, .inl z.ps))], [((am 9), .inl (xI E, 120, .inl z.tm))], [((am 10), .inl (xI E, 120, .inl z.mm))], [((am 11), .inl (xJ E, 120, .inr (.inl z.se)))], [((am 12), .inl (xI E, 400, .inl z.tx))]]) hwi tyX9 tyX9_ok nmX9 0 rfl rfl 22 (by decide) (by decide +kernel) rfl rfl rfl (Nat.le_of_ble_eq_true rfl) rfl dX9_findDrift_7 (fun H locs M => ?_)
  refine lv_iconst (v := 0) S.1 S.2.1 dX9_findDrift_10 (by decide) ?_
  refine lv_istore_n (lv' := [(1, .int 0), (0, .ref (am 0))]) S.1 S.2.1 dX9_findDrift_11 rfl hl (by decide) rfl (fun ls hl => ?_)
  refine lv_sipush (v := 300) S.1 S.2.1 dX9_findDrift_12 (by decide) ?_
  refine lv_istore_n (lv' := [(2, .int 300), (1, .int 0), (0, .ref (am 0))]) S.1 S.2.1 dX9_findDrift_15 rfl hl (by decide) rfl (fun ls hl => ?_)
  refine lv_iconst (v := 0) S.1 S.2.1 dX9_findDrift_16 (by decide) ?_
  refine lv_istore_n (lv' := [(3, .int 0), (2, .int 300), (1, .int 0), (0, .ref (am 0))]) S.1 S.2.1 dX9_findDrift_17 rfl hl (by decide) rfl (fun ls hl => ?_)
  refine lv_iconst (v := 0) S.1 S.2.1 dX9_findDrift_18 (by decide) ?_
  refine lv_istore (lv' := [(4, .int 0), (3, .int 0), (2, .int 300), (1, .int 0), (0, .ref (am 0))]) S.1 S.2.1 dX9_findDrift_19 hl (by decide) rfl (fun ls hl => ?_)
  exact hA z.ct 0 300 0 (by omega) rfl rfl _ _ M ls (lv_sub hl [4, 3, 2, 1, 0] rfl)

set_option maxHeartbeats 4000000 in
set_option maxRecDepth 100000 in
theorem c_X9_leastBy (l : Launch) (E : xE) (am : Nat → Nat) (z : MdS) (k : Int32) (hc : z.ct ≤ 120) : mL l yX9_leastBy wsX9_leastBy (xrm 1 20) E [.ref (am 0), .int k] (modGs E am z) (z.lst k) (modGs E am z) := by
  intro sz
  refine Met.ofW (cc := cX9_leastBy) (maxL := 8) (ret := (some .long)) (by decide +kernel) rfl ?_
  intro vp ve s vm args below meth vc s₁ B hml hv
  obtain ⟨rfl, S, hr, hlk, hnm, A, hA, hE, M⟩ := genter B hml hv
  rw [hA]
  obtain ⟨ls, hfr, hl⟩ := gst (m := vm) (as := [.ref (am 0), .int k]) (n := 8) (Nat.le_of_ble_eq_true rfl)
  rw [hfr]
  clear hfr hA
  have hl : lv_has ls 8 [(0, .ref (am 0)), (1, .int k)] := hl
  have M : gM E A s.heap [[(am 0, .inr (9, [.ref (am 1), .ref (am 2), .int (nI z.tn), .int z.mn, .int z.mk, .int z.mg, .int z.jp, .int (nI z.ct), .ref (am 3), .ref (am 4), .ref (am 5), .ref (am 6), .int (nI z.sp), .ref (am 7), .ref (am 8), .ref (am 9), .ref (am 10), .int (b2i z.on), .int z.ba, .int z.bg, .ref (am 11), .long z.up, .long z.by_, .int z.co, .int z.po, .int z.gr, .ref (am 12), .int (nI z.wr)]))], [((am 1), .inl (xI E, 25, .inl z.sg))], [((am 2), .inl (xI E, 8, .inl z.tp))], [((am 3), .inl (xI E, 120, .inl z.fr))], [((am 4), .inl (xI E, 120, .inl z.wh))], [((am 5), .inl (xI E, 120, .inl z.sn))], [((am 6), .inl (xI E, 300, .inl z.ca))], [((am 7), .inl (xI E, 120, .inl z.hd))], [((am 8), .inl (xI E, 120, .inl z.ps))], [((am 9), .inl (xI E, 120, .inl z.tm))], [((am 10), .inl (xI E, 120, .inl z.mm))], [((am 11), .inl (xJ E, 120, .inr (.inl z.se)))], [((am 12), .inl (xI E, 400, .inl z.tx))]] s.heap [] := M
  have hwi : ∀ w ∈ u_ws RX9 TX9 28, w ∈ wsX9_leastBy := by decide +kernel
  have ho9 : z.old ≤ z.ct := Nat.sub_le _ _
  obtain ⟨Q, hQ⟩ : ∃ Q : State → Prop, MQ below (va_Ql (fun x (_ : Unit) => x = (z.lst k)) (fun _ => kQ E A (modGs E am z)) A) ([.ref (am 0), .int k] : List Value).toArray s 0 0 A = Q := ⟨_, rfl⟩
  rw [hQ]
  have hO : ∀ (n : Nat), ∀ (a : Nat) (b : Int64) (f : Bool), a + n = z.ct → z.old ≤ a → z.lst k = lsl z k n a b f → ∀ (H : Heap) (locs : List Loc), gM E A s.heap [[(am 0, .inr (9, [.ref (am 1), .ref (am 2), .int (nI z.tn), .int z.mn, .int z.mk, .int z.mg, .int z.jp, .int (nI z.ct), .ref (am 3), .ref (am 4), .ref (am 5), .ref (am 6), .int (nI z.sp), .ref (am 7), .ref (am 8), .ref (am 9), .ref (am 10), .int (b2i z.on), .int z.ba, .int z.bg, .ref (am 11), .long z.up, .long z.by_, .int z.co, .int z.po, .int z.gr, .ref (am 12), .int (nI z.wr)]))], [((am 1), .inl (xI E, 25, .inl z.sg))], [((am 2), .inl (xI E, 8, .inl z.tp))], [((am 3), .inl (xI E, 120, .inl z.fr))], [((am 4), .inl (xI E, 120, .inl z.wh))], [((am 5), .inl (xI E, 120, .inl z.sn))], [((am 6), .inl (xI E, 300, .inl z.ca))], [((am 7), .inl (xI E, 120, .inl z.hd))], [((am 8), .inl (xI E, 120, .inl z.ps))], [((am 9), .inl (xI E, 120, .inl z.tm))], [((am 10), .inl (xI E, 120, .inl z.mm))], [((am 11), .inl (xJ E, 120, .inr (.inl z.se)))], [((am 12), .inl (xI E, 400, .inl z.tx))]] H locs → ∀ ls : Array Slot, lv_has ls 8 [(0, .ref (am 0)), (1, .int k), (2, .long b), (4, .int (b2i f)), (5, .int (nI a))] → W vp l ve (headSpec wsX9_leastBy (xrm 1 20)).room s vm ([.ref (am 0), .int k] : List Value).toArray below meth vc H locs 0 0 Q (F0 vm 11 ls []) := by
    intro n
    induction n with
    | zero =>
      intro a b f hi ho hI H locs M ls hl
      refine lv_iload S.1 S.2.1 dX9_leastBy_11 (lv_at hl 4 rfl) ?_
      refine lv_aload_n S.1 S.2.1 dX9_leastBy_13 rfl (lv_at hl 0 rfl) ?_
      refine gget S hE M (C := RX9) (T := TX9) (N := 28) (ci := 9) (index := 78) hwi 0 rfl rfl 7 (by decide) (by decide +kernel) rfl dX9_leastBy_14 ?_
      refine lv_icmp_ge (tgt := 156) S.1 S.2.1 dX9_leastBy_17 (by decide) (fun _ => ?_) (fun c_ => absurd (nI_le (by omega) (by omega)) c_)
      refine lv_lload_n S.1 S.2.1 dX9_leastBy_156 rfl (lv_at hl 2 rfl) ?_
      rw [← hQ]
      exact glret S hr hlk M (by rw [hI, lsl]) (rfl) dX9_leastBy_157
    | succ n ih =>
      intro a b f hi ho hI H locs M ls hl
      have hN : ∀ (m : Nat), ∀ (q : Nat) (g : Int32), q + m = z.ct → z.above a = cgl z.se a m q g → ∀ (H : Heap) (locs : List Loc), gM E A s.heap [[(am 0, .inr (9, [.ref (am 1), .ref (am 2), .int (nI z.tn), .int z.mn, .int z.mk, .int z.mg, .int z.jp, .int (nI z.ct), .ref (am 3), .ref (am 4), .ref (am 5), .ref (am 6), .int (nI z.sp), .ref (am 7), .ref (am 8), .ref (am 9), .ref (am 10), .int (b2i z.on), .int z.ba, .int z.bg, .ref (am 11), .long z.up, .long z.by_, .int z.co, .int z.po, .int z.gr, .ref (am 12), .int (nI z.wr)]))], [((am 1), .inl (xI E, 25, .inl z.sg))], [((am 2), .inl (xI E, 8, .inl z.tp))], [((am 3), .inl (xI E, 120, .inl z.fr))], [((am 4), .inl (xI E, 120, .inl z.wh))], [((am 5), .inl (xI E, 120, .inl z.sn))], [((am 6), .inl (xI E, 300, .inl z.ca))], [((am 7), .inl (xI E, 120, .inl z.hd))], [((am 8), .inl (xI E, 120, .inl z.ps))], [((am 9), .inl (xI E, 120, .inl z.tm))], [((am 10), .inl (xI E, 120, .inl z.mm))], [((am 11), .inl (xJ E, 120, .inr (.inl z.se)))], [((am 12), .inl (xI E, 400, .inl z.tx))]] H locs → ∀ ls : Array Slot, lv_has ls 8 [(0, .ref (am 0)), (1, .int k), (2, .long b), (4, .int (b2i f)), (5, .int (nI a)), (6, .int g), (7, .int (nI q))] → W vp l ve (headSpec wsX9_leastBy (xrm 1 20)).room s vm ([.ref (am 0), .int k] : List Value).toArray below meth vc H locs 0 0 Q (F0 vm 29 ls []) := by
        intro m
        induction m with
        | zero =>
          intro q g hj hJ H locs M ls hl
          refine lv_iload S.1 S.2.1 dX9_leastBy_29 (lv_at hl 6 rfl) ?_
          refine lv_aload_n S.1 S.2.1 dX9_leastBy_31 rfl (lv_at hl 0 rfl) ?_
          refine gget S hE M (C := RX9) (T := TX9) (N := 28) (ci := 9) (index := 78) hwi 0 rfl rfl 7 (by decide) (by decide +kernel) rfl dX9_leastBy_32 ?_
          refine lv_icmp_ge (tgt := 72) S.1 S.2.1 dX9_leastBy_35 (by decide) (fun _ => ?_) (fun c_ => absurd (nI_le (by omega) (by omega)) c_)
          have eg : g = z.above a := by rw [hJ, cgl]
          subst eg
          refine lv_sipush (v := 256) S.1 S.2.1 dX9_leastBy_72 (by decide) ?_
          refine lv_iload S.1 S.2.1 dX9_leastBy_75 (lv_at hl 5 rfl) ?_
          refine lv_imul S.1 S.2.1 dX9_leastBy_77 ?_
          refine lv_iload_n S.1 S.2.1 dX9_leastBy_78 rfl (lv_at hl 1 rfl) ?_
          refine lv_aload_n S.1 S.2.1 dX9_leastBy_79 rfl (lv_at hl 0 rfl) ?_
          refine gget S hE M (C := RX9) (T := TX9) (N := 28) (ci := 9) (index := 78) hwi 0 rfl rfl 7 (by decide) (by decide +kernel) rfl dX9_leastBy_80 ?_
          refine lv_aload_n S.1 S.2.1 dX9_leastBy_83 rfl (lv_at hl 0 rfl) ?_
          refine gcalli (L := []) (Mid := modGs E am z) (Rr := []) (Mid' := modGs E am z) hE M rfl (rfl) (rfl) (fun hgH => va_runV (As := []) (rest := [.int (nI z.ct), .int k, .int (256 * (z.above a))]) S (c_X9_oldest l E am z   hc _) (cwV 0 S.2.2.2.2 gX9_leastBy_X9_oldest rfl rfl rfl kd_X9_oldest ⟨Nat.le_of_ble_eq_true rfl, Nat.le_of_ble_eq_true rfl⟩) (hgH.V hE (show vwCl[9]? = some (RX9, TX9, 28) from rfl) rfl) rfl rfl hl.1 rfl (lv_room (Nat.le_of_ble_eq_true rfl)) dX9_leastBy_84 ⟨Nat.zero_le _, Nat.zero_le _⟩) (fun H locs M => ?_)
          have M : gM E A s.heap [[(am 0, .inr (9, [.ref (am 1), .ref (am 2), .int (nI z.tn), .int z.mn, .int z.mk, .int z.mg, .int z.jp, .int (nI z.ct), .ref (am 3), .ref (am 4), .ref (am 5), .ref (am 6), .int (nI z.sp), .ref (am 7), .ref (am 8), .ref (am 9), .ref (am 10), .int (b2i z.on), .int z.ba, .int z.bg, .ref (am 11), .long z.up, .long z.by_, .int z.co, .int z.po, .int z.gr, .ref (am 12), .int (nI z.wr)]))], [((am 1), .inl (xI E, 25, .inl z.sg))], [((am 2), .inl (xI E, 8, .inl z.tp))], [((am 3), .inl (xI E, 120, .inl z.fr))], [((am 4), .inl (xI E, 120, .inl z.wh))], [((am 5), .inl (xI E, 120, .inl z.sn))], [((am 6), .inl (xI E, 300, .inl z.ca))], [((am 7), .inl (xI E, 120, .inl z.hd))], [((am 8), .inl (xI E, 120, .inl z.ps))], [((am 9), .inl (xI E, 120, .inl z.tm))], [((am 10), .inl (xI E, 120, .inl z.mm))], [((am 11), .inl (xJ E, 120, .inr (.inl z.se)))], [((am 12), .inl (xI E, 400, .inl z.tx))]] H locs := M
          refine lv_isub S.1 S.2.1 dX9_leastBy_87 ?_
          refine lv_imul S.1 S.2.1 dX9_leastBy_88 ?_
          refine lv_icmp_gt (tgt := 96) S.1 S.2.1 dX9_leastBy_89 (by decide) (fun c89 => ?_) (fun c89 => ?_)
          ·
            refine lv_iconst (v := 0) S.1 S.2.1 dX9_leastBy_96 (by decide) ?_
            refine lv_istore (lv' := [(7, .int 0), (0, .ref (am 0)), (1, .int k), (2, .long b), (4, .int (b2i f)), (5, .int (nI a)), (6, .int (z.above a))]) S.1 S.2.1 dX9_leastBy_97 hl (by decide) rfl (fun ls hl => ?_)
            refine lv_iload S.1 S.2.1 dX9_leastBy_99 (lv_at hl 0 rfl) ?_
            refine lv_if_eq (tgt := 131) S.1 S.2.1 dX9_leastBy_101 (by decide) (fun _ => ?_) (fun c_ => absurd (by decide) c_)
            refine lv_lload_n S.1 S.2.1 dX9_leastBy_131 rfl (lv_at hl 3 rfl) ?_
            refine lv_lstore_n (lv' := [(2, .long b), (7, .int 0), (0, .ref (am 0)), (1, .int k), (4, .int (b2i f)), (5, .int (nI a)), (6, .int (z.above a))]) S.1 S.2.1 dX9_leastBy_132 rfl hl (by decide) rfl (fun ls hl => ?_)
            refine lv_iload S.1 S.2.1 dX9_leastBy_133 (lv_at hl 4 rfl) ?_
            refine lv_if_ne (tgt := 143) S.1 S.2.1 dX9_leastBy_135 (by decide) (fun c135 => ?_) (fun c135 => ?_)
            ·
              refine lv_iconst (v := 1) S.1 S.2.1 dX9_leastBy_143 (by decide) ?_
              refine lv_goto (tgt := 148) S.1 S.2.1 dX9_leastBy_144 (by decide) ?_
              refine lv_istore (lv' := [(4, .int 1), (2, .long b), (7, .int 0), (0, .ref (am 0)), (1, .int k), (5, .int (nI a)), (6, .int (z.above a))]) S.1 S.2.1 dX9_leastBy_148 hl (by decide) rfl (fun ls hl => ?_)
              refine lv_iinc (v := nI (a + 1)) (lv' := [(5, .int (nI (a + 1))), (4, .int 1), (2, .long b), (7, .int 0), (0, .ref (am 0)), (1, .int k), (6, .int (z.above a))]) S.1 S.2.1 dX9_leastBy_150 hl (k := 5) rfl (nI_1 _) (by decide) rfl (fun ls hl => ?_)
              refine lv_goto (tgt := 11) S.1 S.2.1 dX9_leastBy_153 (by decide) ?_
              exact ih (a + 1) _ true (by omega) (by omega) (by rw [hI, lsl, if_pos c89, b2i_t c135]) _ _ M ls (lv_sub hl [4, 5, 2, 1, 0] rfl)
            ·
              refine lv_iload S.1 S.2.1 dX9_leastBy_138 (lv_at hl 1 rfl) ?_
              refine lv_if_eq (tgt := 147) S.1 S.2.1 dX9_leastBy_140 (by decide) (fun _ => ?_) (fun c_ => absurd (by decide) c_)
              refine lv_iconst (v := 0) S.1 S.2.1 dX9_leastBy_147 (by decide) ?_
              refine lv_istore (lv' := [(4, .int 0), (2, .long b), (7, .int 0), (0, .ref (am 0)), (1, .int k), (5, .int (nI a)), (6, .int (z.above a))]) S.1 S.2.1 dX9_leastBy_148 hl (by decide) rfl (fun ls hl => ?_)
              refine lv_iinc (v := nI (a + 1)) (lv' := [(5, .int (nI (a + 1))), (4, .int 0), (2, .long b), (7, .int 0), (0, .ref (am 0)), (1, .int k), (6, .int (z.above a))]) S.1 S.2.1 dX9_leastBy_150 hl (k := 5) rfl (nI_1 _) (by decide) rfl (fun ls hl => ?_)
              refine lv_goto (tgt := 11) S.1 S.2.1 dX9_leastBy_153 (by decide) ?_
              exact ih (a + 1) _ false (by omega) (by omega) (by rw [hI, lsl, if_pos c89, b2i_f c135]) _ _ M ls (lv_sub hl [4, 5, 2, 1, 0] rfl)
          ·
            refine lv_iconst (v := 1) S.1 S.2.1 dX9_leastBy_92 (by decide) ?_
            refine lv_goto (tgt := 97) S.1 S.2.1 dX9_leastBy_93 (by decide) ?_
            refine lv_istore (lv' := [(7, .int 1), (0, .ref (am 0)), (1, .int k), (2, .long b), (4, .int (b2i f)), (5, .int (nI a)), (6, .int (z.above a))]) S.1 S.2.1 dX9_leastBy_97 hl (by decide) rfl (fun ls hl => ?_)
            refine lv_iload S.1 S.2.1 dX9_leastBy_99 (lv_at hl 0 rfl) ?_
            refine lv_if_eq (tgt := 131) S.1 S.2.1 dX9_leastBy_101 (by decide) (fun c_ => absurd c_ (by decide)) (fun _ => ?_)
            refine lv_iload S.1 S.2.1 dX9_leastBy_104 (lv_at hl 4 rfl) ?_
            refine lv_if_eq (tgt := 121) S.1 S.2.1 dX9_leastBy_106 (by decide) (fun c106 => ?_) (fun c106 => ?_)
            ·
              refine lv_aload_n S.1 S.2.1 dX9_leastBy_121 rfl (lv_at hl 1 rfl) ?_
              refine gget S hE M (C := RX9) (T := TX9) (N := 28) (ci := 9) (index := 47) hwi 0 rfl rfl 20 (by decide) (by decide +kernel) rfl dX9_leastBy_122 ?_
              refine lv_iload S.1 S.2.1 dX9_leastBy_125 (lv_at hl 5 rfl) ?_
              refine glald S hE M 11 rfl (vp_in_nI (by omega) (by omega)) dX9_leastBy_127 ?_
              refine gtopl (x' := z.se a) (by rw [nI_clamp (by omega)]) ?_
              refine lv_goto (tgt := 132) S.1 S.2.1 dX9_leastBy_128 (by decide) ?_
              refine lv_lstore_n (lv' := [(2, .long (z.se a)), (7, .int 1), (0, .ref (am 0)), (1, .int k), (4, .int (b2i f)), (5, .int (nI a)), (6, .int (z.above a))]) S.1 S.2.1 dX9_leastBy_132 rfl hl (by decide) rfl (fun ls hl => ?_)
              refine lv_iload S.1 S.2.1 dX9_leastBy_133 (lv_at hl 4 rfl) ?_
              refine lv_if_ne (tgt := 143) S.1 S.2.1 dX9_leastBy_135 (by decide) (fun c_ => absurd (c106) c_) (fun _ => ?_)
              refine lv_iload S.1 S.2.1 dX9_leastBy_138 (lv_at hl 1 rfl) ?_
              refine lv_if_eq (tgt := 147) S.1 S.2.1 dX9_leastBy_140 (by decide) (fun c_ => absurd c_ (by decide)) (fun _ => ?_)
              refine lv_iconst (v := 1) S.1 S.2.1 dX9_leastBy_143 (by decide) ?_
              refine lv_goto (tgt := 148) S.1 S.2.1 dX9_leastBy_144 (by decide) ?_
              refine lv_istore (lv' := [(4, .int 1), (2, .long (z.se a)), (7, .int 1), (0, .ref (am 0)), (1, .int k), (5, .int (nI a)), (6, .int (z.above a))]) S.1 S.2.1 dX9_leastBy_148 hl (by decide) rfl (fun ls hl => ?_)
              refine lv_iinc (v := nI (a + 1)) (lv' := [(5, .int (nI (a + 1))), (4, .int 1), (2, .long (z.se a)), (7, .int 1), (0, .ref (am 0)), (1, .int k), (6, .int (z.above a))]) S.1 S.2.1 dX9_leastBy_150 hl (k := 5) rfl (nI_1 _) (by decide) rfl (fun ls hl => ?_)
              refine lv_goto (tgt := 11) S.1 S.2.1 dX9_leastBy_153 (by decide) ?_
              exact ih (a + 1) _ true (by omega) (by omega) (by rw [hI, lsl, if_neg c89, if_pos c106]) _ _ M ls (lv_sub hl [4, 5, 2, 1, 0] rfl)
            ·
              refine lv_aload_n S.1 S.2.1 dX9_leastBy_109 rfl (lv_at hl 1 rfl) ?_
              refine gget S hE M (C := RX9) (T := TX9) (N := 28) (ci := 9) (index := 47) hwi 0 rfl rfl 20 (by decide) (by decide +kernel) rfl dX9_leastBy_110 ?_
              refine lv_iload S.1 S.2.1 dX9_leastBy_113 (lv_at hl 5 rfl) ?_
              refine glald S hE M 11 rfl (vp_in_nI (by omega) (by omega)) dX9_leastBy_115 ?_
              refine gtopl (x' := z.se a) (by rw [nI_clamp (by omega)]) ?_
              refine lv_lload_n S.1 S.2.1 dX9_leastBy_116 rfl (lv_at hl 3 rfl) ?_
              refine W.lcmp S.1 S.2.1 dX9_leastBy_117 ?_
              refine lv_if_ge (tgt := 131) S.1 S.2.1 dX9_leastBy_118 (by decide) (fun c118 => ?_) (fun c118 => ?_)
              ·
                have c118 : b ≤ (z.se a) := (lg_cmp_ge _ _).mp c118
                refine lv_lload_n S.1 S.2.1 dX9_leastBy_131 rfl (lv_at hl 3 rfl) ?_
                refine lv_lstore_n (lv' := [(2, .long b), (7, .int 1), (0, .ref (am 0)), (1, .int k), (4, .int (b2i f)), (5, .int (nI a)), (6, .int (z.above a))]) S.1 S.2.1 dX9_leastBy_132 rfl hl (by decide) rfl (fun ls hl => ?_)
                refine lv_iload S.1 S.2.1 dX9_leastBy_133 (lv_at hl 4 rfl) ?_
                refine lv_if_ne (tgt := 143) S.1 S.2.1 dX9_leastBy_135 (by decide) (fun _ => ?_) (fun c_ => absurd c_ (c106))
                refine lv_iconst (v := 1) S.1 S.2.1 dX9_leastBy_143 (by decide) ?_
                refine lv_goto (tgt := 148) S.1 S.2.1 dX9_leastBy_144 (by decide) ?_
                refine lv_istore (lv' := [(4, .int 1), (2, .long b), (7, .int 1), (0, .ref (am 0)), (1, .int k), (5, .int (nI a)), (6, .int (z.above a))]) S.1 S.2.1 dX9_leastBy_148 hl (by decide) rfl (fun ls hl => ?_)
                refine lv_iinc (v := nI (a + 1)) (lv' := [(5, .int (nI (a + 1))), (4, .int 1), (2, .long b), (7, .int 1), (0, .ref (am 0)), (1, .int k), (6, .int (z.above a))]) S.1 S.2.1 dX9_leastBy_150 hl (k := 5) rfl (nI_1 _) (by decide) rfl (fun ls hl => ?_)
                refine lv_goto (tgt := 11) S.1 S.2.1 dX9_leastBy_153 (by decide) ?_
                exact ih (a + 1) _ true (by omega) (by omega) (by rw [hI, lsl, if_neg c89, if_neg c106, if_pos c118]) _ _ M ls (lv_sub hl [4, 5, 2, 1, 0] rfl)
              ·
                have c118 : ¬ b ≤ (z.se a) := fun q => c118 ((lg_cmp_ge _ _).mpr q)
                refine lv_aload_n S.1 S.2.1 dX9_leastBy_121 rfl (lv_at hl 1 rfl) ?_
                refine gget S hE M (C := RX9) (T := TX9) (N := 28) (ci := 9) (index := 47) hwi 0 rfl rfl 20 (by decide) (by decide +kernel) rfl dX9_leastBy_122 ?_
                refine lv_iload S.1 S.2.1 dX9_leastBy_125 (lv_at hl 5 rfl) ?_
                refine glald S hE M 11 rfl (vp_in_nI (by omega) (by omega)) dX9_leastBy_127 ?_
                refine gtopl (x' := z.se a) (by rw [nI_clamp (by omega)]) ?_
                refine lv_goto (tgt := 132) S.1 S.2.1 dX9_leastBy_128 (by decide) ?_
                refine lv_lstore_n (lv' := [(2, .long (z.se a)), (7, .int 1), (0, .ref (am 0)), (1, .int k), (4, .int (b2i f)), (5, .int (nI a)), (6, .int (z.above a))]) S.1 S.2.1 dX9_leastBy_132 rfl hl (by decide) rfl (fun ls hl => ?_)
                refine lv_iload S.1 S.2.1 dX9_leastBy_133 (lv_at hl 4 rfl) ?_
                refine lv_if_ne (tgt := 143) S.1 S.2.1 dX9_leastBy_135 (by decide) (fun _ => ?_) (fun c_ => absurd c_ (c106))
                refine lv_iconst (v := 1) S.1 S.2.1 dX9_leastBy_143 (by decide) ?_
                refine lv_goto (tgt := 148) S.1 S.2.1 dX9_leastBy_144 (by decide) ?_
                refine lv_istore (lv' := [(4, .int 1), (2, .long (z.se a)), (7, .int 1), (0, .ref (am 0)), (1, .int k), (5, .int (nI a)), (6, .int (z.above a))]) S.1 S.2.1 dX9_leastBy_148 hl (by decide) rfl (fun ls hl => ?_)
                refine lv_iinc (v := nI (a + 1)) (lv' := [(5, .int (nI (a + 1))), (4, .int 1), (2, .long (z.se a)), (7, .int 1), (0, .ref (am 0)), (1, .int k), (6, .int (z.above a))]) S.1 S.2.1 dX9_leastBy_150 hl (k := 5) rfl (nI_1 _) (by decide) rfl (fun ls hl => ?_)
                refine lv_goto (tgt := 11) S.1 S.2.1 dX9_leastBy_153 (by decide) ?_
                exact ih (a + 1) _ true (by omega) (by omega) (by rw [hI, lsl, if_neg c89, if_neg c106, if_neg c118]) _ _ M ls (lv_sub hl [4, 5, 2, 1, 0] rfl)
        | succ m ih2 =>
          intro q g hj hJ H locs M ls hl
          refine lv_iload S.1 S.2.1 dX9_leastBy_29 (lv_at hl 6 rfl) ?_
          refine lv_aload_n S.1 S.2.1 dX9_leastBy_31 rfl (lv_at hl 0 rfl) ?_
          refine gget S hE M (C := RX9) (T := TX9) (N := 28) (ci := 9) (index := 78) hwi 0 rfl rfl 7 (by decide) (by decide +kernel) rfl dX9_leastBy_32 ?_
          refine lv_icmp_ge (tgt := 72) S.1 S.2.1 dX9_leastBy_35 (by decide) (fun c_ => absurd c_ (nI_ge (by omega) (by omega))) (fun _ => ?_)
          refine lv_iload S.1 S.2.1 dX9_leastBy_38 (lv_at hl 5 rfl) ?_
          refine lv_aload_n S.1 S.2.1 dX9_leastBy_40 rfl (lv_at hl 0 rfl) ?_
          refine gget S hE M (C := RX9) (T := TX9) (N := 28) (ci := 9) (index := 47) hwi 0 rfl rfl 20 (by decide) (by decide +kernel) rfl dX9_leastBy_41 ?_
          refine lv_iload S.1 S.2.1 dX9_leastBy_44 (lv_at hl 6 rfl) ?_
          refine glald S hE M 11 rfl (vp_in_nI (by omega) (by omega)) dX9_leastBy_46 ?_
          refine gtopl (x' := z.se q) (by rw [nI_clamp (by omega)]) ?_
          refine lv_aload_n S.1 S.2.1 dX9_leastBy_47 rfl (lv_at hl 0 rfl) ?_
          refine gget S hE M (C := RX9) (T := TX9) (N := 28) (ci := 9) (index := 47) hwi 0 rfl rfl 20 (by decide) (by decide +kernel) rfl dX9_leastBy_48 ?_
          refine lv_iload S.1 S.2.1 dX9_leastBy_51 (lv_at hl 4 rfl) ?_
          refine glald S hE M 11 rfl (vp_in_nI (by omega) (by omega)) dX9_leastBy_53 ?_
          refine gtopl (x' := z.se a) (by rw [nI_clamp (by omega)]) ?_
          refine W.lcmp S.1 S.2.1 dX9_leastBy_54 ?_
          refine lv_if_le (tgt := 62) S.1 S.2.1 dX9_leastBy_55 (by decide) (fun c55 => ?_) (fun c55 => ?_)
          ·
            have c55 : (z.se q) ≤ (z.se a) := (lg_cmp_le _ _).mp c55
            refine lv_iconst (v := 0) S.1 S.2.1 dX9_leastBy_62 (by decide) ?_
            refine lv_iadd S.1 S.2.1 dX9_leastBy_63 ?_
            refine lv_istore (lv' := [(6, .int (g + 0)), (0, .ref (am 0)), (1, .int k), (2, .long b), (4, .int (b2i f)), (5, .int (nI a)), (7, .int (nI q))]) S.1 S.2.1 dX9_leastBy_64 hl (by decide) rfl (fun ls hl => ?_)
            refine lv_iinc (v := nI (q + 1)) (lv' := [(7, .int (nI (q + 1))), (6, .int (g + 0)), (0, .ref (am 0)), (1, .int k), (2, .long b), (4, .int (b2i f)), (5, .int (nI a))]) S.1 S.2.1 dX9_leastBy_66 hl (k := 6) rfl (nI_1 _) (by decide) rfl (fun ls hl => ?_)
            refine lv_goto (tgt := 29) S.1 S.2.1 dX9_leastBy_69 (by decide) ?_
            exact ih2 (q + 1) _ (by omega) (by rw [hJ, cgl, if_pos c55]) _ _ M ls (lv_sub hl [2, 3, 4, 5, 6, 1, 0] rfl)
          ·
            have c55 : ¬ (z.se q) ≤ (z.se a) := fun q => c55 ((lg_cmp_le _ _).mpr q)
            refine lv_iconst (v := 1) S.1 S.2.1 dX9_leastBy_58 (by decide) ?_
            refine lv_goto (tgt := 63) S.1 S.2.1 dX9_leastBy_59 (by decide) ?_
            refine lv_iadd S.1 S.2.1 dX9_leastBy_63 ?_
            refine lv_istore (lv' := [(6, .int (g + 1)), (0, .ref (am 0)), (1, .int k), (2, .long b), (4, .int (b2i f)), (5, .int (nI a)), (7, .int (nI q))]) S.1 S.2.1 dX9_leastBy_64 hl (by decide) rfl (fun ls hl => ?_)
            refine lv_iinc (v := nI (q + 1)) (lv' := [(7, .int (nI (q + 1))), (6, .int (g + 1)), (0, .ref (am 0)), (1, .int k), (2, .long b), (4, .int (b2i f)), (5, .int (nI a))]) S.1 S.2.1 dX9_leastBy_66 hl (k := 6) rfl (nI_1 _) (by decide) rfl (fun ls hl => ?_)
            refine lv_goto (tgt := 29) S.1 S.2.1 dX9_leastBy_69 (by decide) ?_
            exact ih2 (q + 1) _ (by omega) (by rw [hJ, cgl, if_neg c55]) _ _ M ls (lv_sub hl [2, 3, 4, 5, 6, 1, 0] rfl)
      refine lv_iload S.1 S.2.1 dX9_leastBy_11 (lv_at hl 4 rfl) ?_
      refine lv_aload_n S.1 S.2.1 dX9_leastBy_13 rfl (lv_at hl 0 rfl) ?_
      refine gget S hE M (C := RX9) (T := TX9) (N := 28) (ci := 9) (index := 78) hwi 0 rfl rfl 7 (by decide) (by decide +kernel) rfl dX9_leastBy_14 ?_
      refine lv_icmp_ge (tgt := 156) S.1 S.2.1 dX9_leastBy_17 (by decide) (fun c_ => absurd c_ (nI_ge (by omega) (by omega))) (fun _ => ?_)
      refine lv_iconst (v := 0) S.1 S.2.1 dX9_leastBy_20 (by decide) ?_
      refine lv_istore (lv' := [(6, .int 0), (0, .ref (am 0)), (1, .int k), (2, .long b), (4, .int (b2i f)), (5, .int (nI a))]) S.1 S.2.1 dX9_leastBy_21 hl (by decide) rfl (fun ls hl => ?_)
      refine lv_aload_n S.1 S.2.1 dX9_leastBy_23 rfl (lv_at hl 1 rfl) ?_
      refine gcalli (L := []) (Mid := modGs E am z) (Rr := []) (Mid' := modGs E am z) hE M rfl (rfl) (rfl) (fun hgH => va_runV (As := []) (rest := []) S (c_X9_oldest l E am z   hc _) (cwV 0 S.2.2.2.2 gX9_leastBy_X9_oldest rfl rfl rfl kd_X9_oldest ⟨Nat.le_of_ble_eq_true rfl, Nat.le_of_ble_eq_true rfl⟩) (hgH.V hE (show vwCl[9]? = some (RX9, TX9, 28) from rfl) rfl) rfl rfl hl.1 rfl (lv_room (Nat.le_of_ble_eq_true rfl)) dX9_leastBy_24 ⟨Nat.zero_le _, Nat.zero_le _⟩) (fun H locs M => ?_)
      have M : gM E A s.heap [[(am 0, .inr (9, [.ref (am 1), .ref (am 2), .int (nI z.tn), .int z.mn, .int z.mk, .int z.mg, .int z.jp, .int (nI z.ct), .ref (am 3), .ref (am 4), .ref (am 5), .ref (am 6), .int (nI z.sp), .ref (am 7), .ref (am 8), .ref (am 9), .ref (am 10), .int (b2i z.on), .int z.ba, .int z.bg, .ref (am 11), .long z.up, .long z.by_, .int z.co, .int z.po, .int z.gr, .ref (am 12), .int (nI z.wr)]))], [((am 1), .inl (xI E, 25, .inl z.sg))], [((am 2), .inl (xI E, 8, .inl z.tp))], [((am 3), .inl (xI E, 120, .inl z.fr))], [((am 4), .inl (xI E, 120, .inl z.wh))], [((am 5), .inl (xI E, 120, .inl z.sn))], [((am 6), .inl (xI E, 300, .inl z.ca))], [((am 7), .inl (xI E, 120, .inl z.hd))], [((am 8), .inl (xI E, 120, .inl z.ps))], [((am 9), .inl (xI E, 120, .inl z.tm))], [((am 10), .inl (xI E, 120, .inl z.mm))], [((am 11), .inl (xJ E, 120, .inr (.inl z.se)))], [((am 12), .inl (xI E, 400, .inl z.tx))]] H locs := M
      refine lv_istore (lv' := [(7, .int (nI z.old)), (6, .int 0), (0, .ref (am 0)), (1, .int k), (2, .long b), (4, .int (b2i f)), (5, .int (nI a))]) S.1 S.2.1 dX9_leastBy_27 hl (by decide) rfl (fun ls hl => ?_)
      exact hN (z.ct - z.old) z.old 0 (by omega) rfl _ _ M ls (lv_sub hl [2, 3, 4, 5, 6, 1, 0] rfl)
  refine lv_lconst (v := 0) S.1 S.2.1 dX9_leastBy_0 (by decide) ?_
  refine lv_lstore_n (lv' := [(2, .long 0), (0, .ref (am 0)), (1, .int k)]) S.1 S.2.1 dX9_leastBy_1 rfl hl (by decide) rfl (fun ls hl => ?_)
  refine lv_iconst (v := 0) S.1 S.2.1 dX9_leastBy_2 (by decide) ?_
  refine lv_istore (lv' := [(4, .int 0), (2, .long 0), (0, .ref (am 0)), (1, .int k)]) S.1 S.2.1 dX9_leastBy_3 hl (by decide) rfl (fun ls hl => ?_)
  refine lv_aload_n S.1 S.2.1 dX9_leastBy_5 rfl (lv_at hl 2 rfl) ?_
  refine gcalli (L := []) (Mid := modGs E am z) (Rr := []) (Mid' := modGs E am z) hE M rfl (rfl) (rfl) (fun hgH => va_runV (As := []) (rest := []) S (c_X9_oldest l E am z   hc _) (cwV 0 S.2.2.2.2 gX9_leastBy_X9_oldest rfl rfl rfl kd_X9_oldest ⟨Nat.le_of_ble_eq_true rfl, Nat.le_of_ble_eq_true rfl⟩) (hgH.V hE (show vwCl[9]? = some (RX9, TX9, 28) from rfl) rfl) rfl rfl hl.1 rfl (lv_room (Nat.le_of_ble_eq_true rfl)) dX9_leastBy_6 ⟨Nat.zero_le _, Nat.zero_le _⟩) (fun H locs M => ?_)
  have M : gM E A s.heap [[(am 0, .inr (9, [.ref (am 1), .ref (am 2), .int (nI z.tn), .int z.mn, .int z.mk, .int z.mg, .int z.jp, .int (nI z.ct), .ref (am 3), .ref (am 4), .ref (am 5), .ref (am 6), .int (nI z.sp), .ref (am 7), .ref (am 8), .ref (am 9), .ref (am 10), .int (b2i z.on), .int z.ba, .int z.bg, .ref (am 11), .long z.up, .long z.by_, .int z.co, .int z.po, .int z.gr, .ref (am 12), .int (nI z.wr)]))], [((am 1), .inl (xI E, 25, .inl z.sg))], [((am 2), .inl (xI E, 8, .inl z.tp))], [((am 3), .inl (xI E, 120, .inl z.fr))], [((am 4), .inl (xI E, 120, .inl z.wh))], [((am 5), .inl (xI E, 120, .inl z.sn))], [((am 6), .inl (xI E, 300, .inl z.ca))], [((am 7), .inl (xI E, 120, .inl z.hd))], [((am 8), .inl (xI E, 120, .inl z.ps))], [((am 9), .inl (xI E, 120, .inl z.tm))], [((am 10), .inl (xI E, 120, .inl z.mm))], [((am 11), .inl (xJ E, 120, .inr (.inl z.se)))], [((am 12), .inl (xI E, 400, .inl z.tx))]] H locs := M
  refine lv_istore (lv' := [(5, .int (nI z.old)), (4, .int 0), (2, .long 0), (0, .ref (am 0)), (1, .int k)]) S.1 S.2.1 dX9_leastBy_9 hl (by decide) rfl (fun ls hl => ?_)
  exact hO (z.ct - z.old) z.old 0 false (by omega) (Nat.le_refl _) rfl _ _ M ls (lv_sub hl [3, 4, 2, 1, 0] rfl)

set_option maxHeartbeats 4000000 in
set_option maxRecDepth 100000 in
theorem c_X9_latelyMost (l : Launch) (E : xE) (am : Nat → Nat) (z : MdS) (hc : z.ct ≤ 120) (hp : 0 < z.ct) : mL l yX9_latelyMost wsX9_latelyMost (xrm 1 20) E [.ref (am 0)] (modGs E am z) z.lat (modGs E am z) := by
  intro sz
  refine Met.ofW (cc := cX9_latelyMost) (maxL := 4) (ret := (some .long)) (by decide +kernel) rfl ?_
  intro vp ve s vm args below meth vc s₁ B hml hv
  obtain ⟨rfl, S, hr, hlk, hnm, A, hA, hE, M⟩ := genter B hml hv
  rw [hA]
  obtain ⟨ls, hfr, hl⟩ := gst (m := vm) (as := [.ref (am 0)]) (n := 4) (Nat.le_of_ble_eq_true rfl)
  rw [hfr]
  clear hfr hA
  have hl : lv_has ls 4 [(0, .ref (am 0))] := hl
  have M : gM E A s.heap [[(am 0, .inr (9, [.ref (am 1), .ref (am 2), .int (nI z.tn), .int z.mn, .int z.mk, .int z.mg, .int z.jp, .int (nI z.ct), .ref (am 3), .ref (am 4), .ref (am 5), .ref (am 6), .int (nI z.sp), .ref (am 7), .ref (am 8), .ref (am 9), .ref (am 10), .int (b2i z.on), .int z.ba, .int z.bg, .ref (am 11), .long z.up, .long z.by_, .int z.co, .int z.po, .int z.gr, .ref (am 12), .int (nI z.wr)]))], [((am 1), .inl (xI E, 25, .inl z.sg))], [((am 2), .inl (xI E, 8, .inl z.tp))], [((am 3), .inl (xI E, 120, .inl z.fr))], [((am 4), .inl (xI E, 120, .inl z.wh))], [((am 5), .inl (xI E, 120, .inl z.sn))], [((am 6), .inl (xI E, 300, .inl z.ca))], [((am 7), .inl (xI E, 120, .inl z.hd))], [((am 8), .inl (xI E, 120, .inl z.ps))], [((am 9), .inl (xI E, 120, .inl z.tm))], [((am 10), .inl (xI E, 120, .inl z.mm))], [((am 11), .inl (xJ E, 120, .inr (.inl z.se)))], [((am 12), .inl (xI E, 400, .inl z.tx))]] s.heap [] := M
  have hwi : ∀ w ∈ u_ws RX9 TX9 28, w ∈ wsX9_latelyMost := by decide +kernel
  have ho9 : z.old ≤ 120 := Nat.le_trans (Nat.sub_le _ _) hc
  obtain ⟨Q, hQ⟩ : ∃ Q : State → Prop, MQ below (va_Ql (fun x (_ : Unit) => x = z.lat) (fun _ => kQ E A (modGs E am z)) A) ([.ref (am 0)] : List Value).toArray s 0 0 A = Q := ⟨_, rfl⟩
  rw [hQ]
  have hL : ∀ (n : Nat), ∀ (j : Nat) (m : Int64), j + 3 = z.ct + n → j ≤ z.ct → z.lat = ltl z n j m → ∀ (H : Heap) (locs : List Loc), gM E A s.heap [[(am 0, .inr (9, [.ref (am 1), .ref (am 2), .int (nI z.tn), .int z.mn, .int z.mk, .int z.mg, .int z.jp, .int (nI z.ct), .ref (am 3), .ref (am 4), .ref (am 5), .ref (am 6), .int (nI z.sp), .ref (am 7), .ref (am 8), .ref (am 9), .ref (am 10), .int (b2i z.on), .int z.ba, .int z.bg, .ref (am 11), .long z.up, .long z.by_, .int z.co, .int z.po, .int z.gr, .ref (am 12), .int (nI z.wr)]))], [((am 1), .inl (xI E, 25, .inl z.sg))], [((am 2), .inl (xI E, 8, .inl z.tp))], [((am 3), .inl (xI E, 120, .inl z.fr))], [((am 4), .inl (xI E, 120, .inl z.wh))], [((am 5), .inl (xI E, 120, .inl z.sn))], [((am 6), .inl (xI E, 300, .inl z.ca))], [((am 7), .inl (xI E, 120, .inl z.hd))], [((am 8), .inl (xI E, 120, .inl z.ps))], [((am 9), .inl (xI E, 120, .inl z.tm))], [((am 10), .inl (xI E, 120, .inl z.mm))], [((am 11), .inl (xJ E, 120, .inr (.inl z.se)))], [((am 12), .inl (xI E, 400, .inl z.tx))]] H locs → ∀ ls : Array Slot, lv_has ls 4 [(0, .ref (am 0)), (1, .long m), (3, .int (nI j - 1))] → W vp l ve (headSpec wsX9_latelyMost (xrm 1 20)).room s vm ([.ref (am 0)] : List Value).toArray below meth vc H locs 0 0 Q (F0 vm 19 ls []) := by
    intro n
    induction n with
    | zero =>
      intro j m hj hk hI H locs M ls hl
      refine lv_iload_n S.1 S.2.1 dX9_latelyMost_19 rfl (lv_at hl 2 rfl) ?_
      refine lv_aload_n S.1 S.2.1 dX9_latelyMost_20 rfl (lv_at hl 0 rfl) ?_
      refine gcalli (L := []) (Mid := modGs E am z) (Rr := []) (Mid' := modGs E am z) hE M rfl (rfl) (rfl) (fun hgH => va_runV (As := []) (rest := [.int (nI j - 1)]) S (c_X9_oldest l E am z   hc _) (cwV 0 S.2.2.2.2 gX9_latelyMost_X9_oldest rfl rfl rfl kd_X9_oldest ⟨Nat.le_of_ble_eq_true rfl, Nat.le_of_ble_eq_true rfl⟩) (hgH.V hE (show vwCl[9]? = some (RX9, TX9, 28) from rfl) rfl) rfl rfl hl.1 rfl (lv_room (Nat.le_of_ble_eq_true rfl)) dX9_latelyMost_21 ⟨Nat.zero_le _, Nat.zero_le _⟩) (fun H locs M => ?_)
      have M : gM E A s.heap [[(am 0, .inr (9, [.ref (am 1), .ref (am 2), .int (nI z.tn), .int z.mn, .int z.mk, .int z.mg, .int z.jp, .int (nI z.ct), .ref (am 3), .ref (am 4), .ref (am 5), .ref (am 6), .int (nI z.sp), .ref (am 7), .ref (am 8), .ref (am 9), .ref (am 10), .int (b2i z.on), .int z.ba, .int z.bg, .ref (am 11), .long z.up, .long z.by_, .int z.co, .int z.po, .int z.gr, .ref (am 12), .int (nI z.wr)]))], [((am 1), .inl (xI E, 25, .inl z.sg))], [((am 2), .inl (xI E, 8, .inl z.tp))], [((am 3), .inl (xI E, 120, .inl z.fr))], [((am 4), .inl (xI E, 120, .inl z.wh))], [((am 5), .inl (xI E, 120, .inl z.sn))], [((am 6), .inl (xI E, 300, .inl z.ca))], [((am 7), .inl (xI E, 120, .inl z.hd))], [((am 8), .inl (xI E, 120, .inl z.ps))], [((am 9), .inl (xI E, 120, .inl z.tm))], [((am 10), .inl (xI E, 120, .inl z.mm))], [((am 11), .inl (xJ E, 120, .inr (.inl z.se)))], [((am 12), .inl (xI E, 400, .inl z.tx))]] H locs := M
      refine lv_icmp_lt (tgt := 65) S.1 S.2.1 dX9_latelyMost_24 (by decide) (fun c24 => ?_) (fun c24 => ?_)
      ·
        refine lv_lload_n S.1 S.2.1 dX9_latelyMost_65 rfl (lv_at hl 1 rfl) ?_
        rw [← hQ]
        exact glret S hr hlk M (by rw [hI, ltl]) (rfl) dX9_latelyMost_66
      ·
        have hj0 := lat_pos ho9 c24
        refine lv_iload_n S.1 S.2.1 dX9_latelyMost_27 rfl (lv_at hl 2 rfl) ?_
        refine lv_aload_n S.1 S.2.1 dX9_latelyMost_28 rfl (lv_at hl 0 rfl) ?_
        refine gget S hE M (C := RX9) (T := TX9) (N := 28) (ci := 9) (index := 78) hwi 0 rfl rfl 7 (by decide) (by decide +kernel) rfl dX9_latelyMost_29 ?_
        refine lv_iconst (v := 4) S.1 S.2.1 dX9_latelyMost_32 (by decide) ?_
        refine lv_isub S.1 S.2.1 dX9_latelyMost_33 ?_
        refine lv_icmp_le (tgt := 65) S.1 S.2.1 dX9_latelyMost_34 (by decide) (fun _ => ?_) (fun c_ => absurd (lat_end (by omega) hc) c_)
        refine lv_lload_n S.1 S.2.1 dX9_latelyMost_65 rfl (lv_at hl 1 rfl) ?_
        rw [← hQ]
        exact glret S hr hlk M (by rw [hI, ltl]) (rfl) dX9_latelyMost_66
    | succ n ih =>
      intro j m hj hk hI H locs M ls hl
      refine lv_iload_n S.1 S.2.1 dX9_latelyMost_19 rfl (lv_at hl 2 rfl) ?_
      refine lv_aload_n S.1 S.2.1 dX9_latelyMost_20 rfl (lv_at hl 0 rfl) ?_
      refine gcalli (L := []) (Mid := modGs E am z) (Rr := []) (Mid' := modGs E am z) hE M rfl (rfl) (rfl) (fun hgH => va_runV (As := []) (rest := [.int (nI j - 1)]) S (c_X9_oldest l E am z   hc _) (cwV 0 S.2.2.2.2 gX9_latelyMost_X9_oldest rfl rfl rfl kd_X9_oldest ⟨Nat.le_of_ble_eq_true rfl, Nat.le_of_ble_eq_true rfl⟩) (hgH.V hE (show vwCl[9]? = some (RX9, TX9, 28) from rfl) rfl) rfl rfl hl.1 rfl (lv_room (Nat.le_of_ble_eq_true rfl)) dX9_latelyMost_21 ⟨Nat.zero_le _, Nat.zero_le _⟩) (fun H locs M => ?_)
      have M : gM E A s.heap [[(am 0, .inr (9, [.ref (am 1), .ref (am 2), .int (nI z.tn), .int z.mn, .int z.mk, .int z.mg, .int z.jp, .int (nI z.ct), .ref (am 3), .ref (am 4), .ref (am 5), .ref (am 6), .int (nI z.sp), .ref (am 7), .ref (am 8), .ref (am 9), .ref (am 10), .int (b2i z.on), .int z.ba, .int z.bg, .ref (am 11), .long z.up, .long z.by_, .int z.co, .int z.po, .int z.gr, .ref (am 12), .int (nI z.wr)]))], [((am 1), .inl (xI E, 25, .inl z.sg))], [((am 2), .inl (xI E, 8, .inl z.tp))], [((am 3), .inl (xI E, 120, .inl z.fr))], [((am 4), .inl (xI E, 120, .inl z.wh))], [((am 5), .inl (xI E, 120, .inl z.sn))], [((am 6), .inl (xI E, 300, .inl z.ca))], [((am 7), .inl (xI E, 120, .inl z.hd))], [((am 8), .inl (xI E, 120, .inl z.ps))], [((am 9), .inl (xI E, 120, .inl z.tm))], [((am 10), .inl (xI E, 120, .inl z.mm))], [((am 11), .inl (xJ E, 120, .inr (.inl z.se)))], [((am 12), .inl (xI E, 400, .inl z.tx))]] H locs := M
      refine lv_icmp_lt (tgt := 65) S.1 S.2.1 dX9_latelyMost_24 (by decide) (fun c24 => ?_) (fun c24 => ?_)
      ·
        refine lv_lload_n S.1 S.2.1 dX9_latelyMost_65 rfl (lv_at hl 1 rfl) ?_
        rw [← hQ]
        exact glret S hr hlk M (by rw [hI, ltl, if_pos c24]) (rfl) dX9_latelyMost_66
      ·
        have hj0 := lat_pos ho9 c24
        refine lv_iload_n S.1 S.2.1 dX9_latelyMost_27 rfl (lv_at hl 2 rfl) ?_
        refine lv_aload_n S.1 S.2.1 dX9_latelyMost_28 rfl (lv_at hl 0 rfl) ?_
        refine gget S hE M (C := RX9) (T := TX9) (N := 28) (ci := 9) (index := 78) hwi 0 rfl rfl 7 (by decide) (by decide +kernel) rfl dX9_latelyMost_29 ?_
        refine lv_iconst (v := 4) S.1 S.2.1 dX9_latelyMost_32 (by decide) ?_
        refine lv_isub S.1 S.2.1 dX9_latelyMost_33 ?_
        refine lv_icmp_le (tgt := 65) S.1 S.2.1 dX9_latelyMost_34 (by decide) (fun c34 => ?_) (fun c34 => ?_)
        ·
          refine lv_lload_n S.1 S.2.1 dX9_latelyMost_65 rfl (lv_at hl 1 rfl) ?_
          rw [← hQ]
          exact glret S hr hlk M (by rw [hI, ltl, if_neg c24, if_pos c34]) (rfl) dX9_latelyMost_66
        ·
          refine lv_aload_n S.1 S.2.1 dX9_latelyMost_37 rfl (lv_at hl 0 rfl) ?_
          refine gget S hE M (C := RX9) (T := TX9) (N := 28) (ci := 9) (index := 47) hwi 0 rfl rfl 20 (by decide) (by decide +kernel) rfl dX9_latelyMost_38 ?_
          refine lv_iload_n S.1 S.2.1 dX9_latelyMost_41 rfl (lv_at hl 2 rfl) ?_
          refine gtop (x' := nI (j - 1)) (nI_dec hj0) ?_
          refine glald S hE M 11 rfl (vp_in_nI (by omega) (by omega)) dX9_latelyMost_42 ?_
          refine gtopl (x' := z.se (j - 1)) (by rw [nI_clamp (by omega)]) ?_
          refine lv_lload_n S.1 S.2.1 dX9_latelyMost_43 rfl (lv_at hl 1 rfl) ?_
          refine W.lcmp S.1 S.2.1 dX9_latelyMost_44 ?_
          refine lv_if_le (tgt := 57) S.1 S.2.1 dX9_latelyMost_45 (by decide) (fun c45 => ?_) (fun c45 => ?_)
          ·
            have c45 : (z.se (j - 1)) ≤ m := (lg_cmp_le _ _).mp c45
            refine lv_lload_n S.1 S.2.1 dX9_latelyMost_57 rfl (lv_at hl 1 rfl) ?_
            refine lv_lstore_n (lv' := [(1, .long m), (0, .ref (am 0)), (3, .int (nI j - 1))]) S.1 S.2.1 dX9_latelyMost_58 rfl hl (by decide) rfl (fun ls hl => ?_)
            refine lv_iinc (v := nI (j - 1) - 1) (lv' := [(3, .int (nI (j - 1) - 1)), (1, .long m), (0, .ref (am 0))]) S.1 S.2.1 dX9_latelyMost_59 hl (k := 2) rfl (dec2 hj0) (by decide) rfl (fun ls hl => ?_)
            refine lv_goto (tgt := 19) S.1 S.2.1 dX9_latelyMost_62 (by decide) ?_
            exact ih (j - 1) _ (by omega) (by omega) (by rw [hI, ltl, if_neg c24, if_neg c34, if_pos c45]) _ _ M ls (lv_sub hl [2, 1, 0] rfl)
          ·
            have c45 : ¬ (z.se (j - 1)) ≤ m := fun q => c45 ((lg_cmp_le _ _).mpr q)
            refine lv_aload_n S.1 S.2.1 dX9_latelyMost_48 rfl (lv_at hl 0 rfl) ?_
            refine gget S hE M (C := RX9) (T := TX9) (N := 28) (ci := 9) (index := 47) hwi 0 rfl rfl 20 (by decide) (by decide +kernel) rfl dX9_latelyMost_49 ?_
            refine lv_iload_n S.1 S.2.1 dX9_latelyMost_52 rfl (lv_at hl 2 rfl) ?_
            refine gtop (x' := nI (j - 1)) (nI_dec hj0) ?_
            refine glald S hE M 11 rfl (vp_in_nI (by omega) (by omega)) dX9_latelyMost_53 ?_
            refine gtopl (x' := z.se (j - 1)) (by rw [nI_clamp (by omega)]) ?_
            refine lv_goto (tgt := 58) S.1 S.2.1 dX9_latelyMost_54 (by decide) ?_
            refine lv_lstore_n (lv' := [(1, .long (z.se (j - 1))), (0, .ref (am 0)), (3, .int (nI j - 1))]) S.1 S.2.1 dX9_latelyMost_58 rfl hl (by decide) rfl (fun ls hl => ?_)
            refine lv_iinc (v := nI (j - 1) - 1) (lv' := [(3, .int (nI (j - 1) - 1)), (1, .long (z.se (j - 1))), (0, .ref (am 0))]) S.1 S.2.1 dX9_latelyMost_59 hl (k := 2) rfl (dec2 hj0) (by decide) rfl (fun ls hl => ?_)
            refine lv_goto (tgt := 19) S.1 S.2.1 dX9_latelyMost_62 (by decide) ?_
            exact ih (j - 1) _ (by omega) (by omega) (by rw [hI, ltl, if_neg c24, if_neg c34, if_neg c45]) _ _ M ls (lv_sub hl [2, 1, 0] rfl)
  refine lv_aload_n S.1 S.2.1 dX9_latelyMost_0 rfl (lv_at hl 0 rfl) ?_
  refine gget S hE M (C := RX9) (T := TX9) (N := 28) (ci := 9) (index := 47) hwi 0 rfl rfl 20 (by decide) (by decide +kernel) rfl dX9_latelyMost_1 ?_
  refine lv_aload_n S.1 S.2.1 dX9_latelyMost_4 rfl (lv_at hl 0 rfl) ?_
  refine gget S hE M (C := RX9) (T := TX9) (N := 28) (ci := 9) (index := 78) hwi 0 rfl rfl 7 (by decide) (by decide +kernel) rfl dX9_latelyMost_5 ?_
  refine lv_iconst (v := 1) S.1 S.2.1 dX9_latelyMost_8 (by decide) ?_
  refine lv_isub S.1 S.2.1 dX9_latelyMost_9 ?_
  refine gtop (x' := nI (z.ct - 1)) (nI_dec hp) ?_
  refine glald S hE M 11 rfl (vp_in_nI (by omega) (by omega)) dX9_latelyMost_10 ?_
  refine gtopl (x' := z.se (z.ct - 1)) (by rw [nI_clamp (by omega)]) ?_
  refine lv_lstore_n (lv' := [(1, .long (z.se (z.ct - 1))), (0, .ref (am 0))]) S.1 S.2.1 dX9_latelyMost_11 rfl hl (by decide) rfl (fun ls hl => ?_)
  refine lv_aload_n S.1 S.2.1 dX9_latelyMost_12 rfl (lv_at hl 1 rfl) ?_
  refine gget S hE M (C := RX9) (T := TX9) (N := 28) (ci := 9) (index := 78) hwi 0 rfl rfl 7 (by decide) (by decide +kernel) rfl dX9_latelyMost_13 ?_
  refine lv_iconst (v := 1) S.1 S.2.1 dX9_latelyMost_16 (by decide) ?_
  refine lv_isub S.1 S.2.1 dX9_latelyMost_17 ?_
  refine lv_istore_n (lv' := [(3, .int ((nI z.ct) - 1)), (1, .long (z.se (z.ct - 1))), (0, .ref (am 0))]) S.1 S.2.1 dX9_latelyMost_18 rfl hl (by decide) rfl (fun ls hl => ?_)
  exact hL 3 z.ct _ (by omega) (by omega) rfl _ _ M ls (lv_sub hl [2, 1, 0] rfl)

set_option maxHeartbeats 4000000 in
set_option maxRecDepth 100000 in
theorem c_X9_farBy (l : Launch) (E : xE) (am : Nat → Nat) (z : MdS) (k : Int32) (hc : z.ct ≤ 120) (hp : 0 < z.ct) : mL l yX9_farBy wsX9_farBy (xrm 1 23) E [.ref (am 0), .int k] (modGs E am z) (z.farBy k) (modGs E am z) := by
  intro sz
  refine Met.ofW (cc := cX9_farBy) (maxL := 11) (ret := (some .long)) (by decide +kernel) rfl ?_
  intro vp ve s vm args below meth vc s₁ B hml hv
  obtain ⟨rfl, S, hr, hlk, hnm, A, hA, hE, M⟩ := genter B hml hv
  rw [hA]
  obtain ⟨ls, hfr, hl⟩ := gst (m := vm) (as := [.ref (am 0), .int k]) (n := 11) (Nat.le_of_ble_eq_true rfl)
  rw [hfr]
  clear hfr hA
  have hl : lv_has ls 11 [(0, .ref (am 0)), (1, .int k)] := hl
  have M : gM E A s.heap [[(am 0, .inr (9, [.ref (am 1), .ref (am 2), .int (nI z.tn), .int z.mn, .int z.mk, .int z.mg, .int z.jp, .int (nI z.ct), .ref (am 3), .ref (am 4), .ref (am 5), .ref (am 6), .int (nI z.sp), .ref (am 7), .ref (am 8), .ref (am 9), .ref (am 10), .int (b2i z.on), .int z.ba, .int z.bg, .ref (am 11), .long z.up, .long z.by_, .int z.co, .int z.po, .int z.gr, .ref (am 12), .int (nI z.wr)]))], [((am 1), .inl (xI E, 25, .inl z.sg))], [((am 2), .inl (xI E, 8, .inl z.tp))], [((am 3), .inl (xI E, 120, .inl z.fr))], [((am 4), .inl (xI E, 120, .inl z.wh))], [((am 5), .inl (xI E, 120, .inl z.sn))], [((am 6), .inl (xI E, 300, .inl z.ca))], [((am 7), .inl (xI E, 120, .inl z.hd))], [((am 8), .inl (xI E, 120, .inl z.ps))], [((am 9), .inl (xI E, 120, .inl z.tm))], [((am 10), .inl (xI E, 120, .inl z.mm))], [((am 11), .inl (xJ E, 120, .inr (.inl z.se)))], [((am 12), .inl (xI E, 400, .inl z.tx))]] s.heap [] := M
  have hwi : ∀ w ∈ u_ws RX9 TX9 28, w ∈ wsX9_farBy := by decide +kernel
  have ho9 : z.old ≤ z.ct := Nat.sub_le _ _
  obtain ⟨Q, hQ⟩ : ∃ Q : State → Prop, MQ below (va_Ql (fun x (_ : Unit) => x = (z.farBy k)) (fun _ => kQ E A (modGs E am z)) A) ([.ref (am 0), .int k] : List Value).toArray s 0 0 A = Q := ⟨_, rfl⟩
  rw [hQ]
  have hB : ∀ (n : Nat), ∀ (i : Nat) (a : Int64), i + n = z.ct → suml z.fars (z.ct - z.old) z.old 0 = suml z.fars n i a → ∀ (H : Heap) (locs : List Loc), gM E A s.heap [[(am 0, .inr (9, [.ref (am 1), .ref (am 2), .int (nI z.tn), .int z.mn, .int z.mk, .int z.mg, .int z.jp, .int (nI z.ct), .ref (am 3), .ref (am 4), .ref (am 5), .ref (am 6), .int (nI z.sp), .ref (am 7), .ref (am 8), .ref (am 9), .ref (am 10), .int (b2i z.on), .int z.ba, .int z.bg, .ref (am 11), .long z.up, .long z.by_, .int z.co, .int z.po, .int z.gr, .ref (am 12), .int (nI z.wr)]))], [((am 1), .inl (xI E, 25, .inl z.sg))], [((am 2), .inl (xI E, 8, .inl z.tp))], [((am 3), .inl (xI E, 120, .inl z.fr))], [((am 4), .inl (xI E, 120, .inl z.wh))], [((am 5), .inl (xI E, 120, .inl z.sn))], [((am 6), .inl (xI E, 300, .inl z.ca))], [((am 7), .inl (xI E, 120, .inl z.hd))], [((am 8), .inl (xI E, 120, .inl z.ps))], [((am 9), .inl (xI E, 120, .inl z.tm))], [((am 10), .inl (xI E, 120, .inl z.mm))], [((am 11), .inl (xJ E, 120, .inr (.inl z.se)))], [((am 12), .inl (xI E, 400, .inl z.tx))]] H locs → ∀ ls : Array Slot, lv_has ls 11 [(0, .ref (am 0)), (1, .int k), (2, .long z.cnt), (6, .long a), (8, .long z.mean), (10, .int (nI i))] → W vp l ve (headSpec wsX9_farBy (xrm 1 23)).room s vm ([.ref (am 0), .int k] : List Value).toArray below meth vc H locs 0 0 Q (F0 vm 64 ls []) := by
    intro n
    induction n with
    | zero =>
      intro i a hi hI H locs M ls hl
      refine lv_iload S.1 S.2.1 dX9_farBy_64 (lv_at hl 5 rfl) ?_
      refine lv_aload_n S.1 S.2.1 dX9_farBy_66 rfl (lv_at hl 0 rfl) ?_
      refine gget S hE M (C := RX9) (T := TX9) (N := 28) (ci := 9) (index := 78) hwi 0 rfl rfl 7 (by decide) (by decide +kernel) rfl dX9_farBy_67 ?_
      refine lv_icmp_ge (tgt := 120) S.1 S.2.1 dX9_farBy_70 (by decide) (fun _ => ?_) (fun c_ => absurd (nI_le (by omega) (by omega)) c_)
      refine lv_lload S.1 S.2.1 dX9_farBy_120 (lv_at hl 4 rfl) ?_
      refine lv_iload_n S.1 S.2.1 dX9_farBy_122 rfl (lv_at hl 1 rfl) ?_
      refine lv_i2l S.1 S.2.1 dX9_farBy_123 rfl ?_
      refine lv_lload S.1 S.2.1 dX9_farBy_124 (lv_at hl 3 rfl) ?_
      refine lv_lload_n S.1 S.2.1 dX9_farBy_126 rfl (lv_at hl 2 rfl) ?_
      refine gcalll (L := []) (Mid := []) (Rr := [[(am 0, .inr (9, [.ref (am 1), .ref (am 2), .int (nI z.tn), .int z.mn, .int z.mk, .int z.mg, .int z.jp, .int (nI z.ct), .ref (am 3), .ref (am 4), .ref (am 5), .ref (am 6), .int (nI z.sp), .ref (am 7), .ref (am 8), .ref (am 9), .ref (am 10), .int (b2i z.on), .int z.ba, .int z.bg, .ref (am 11), .long z.up, .long z.by_, .int z.co, .int z.po, .int z.gr, .ref (am 12), .int (nI z.wr)]))], [((am 1), .inl (xI E, 25, .inl z.sg))], [((am 2), .inl (xI E, 8, .inl z.tp))], [((am 3), .inl (xI E, 120, .inl z.fr))], [((am 4), .inl (xI E, 120, .inl z.wh))], [((am 5), .inl (xI E, 120, .inl z.sn))], [((am 6), .inl (xI E, 300, .inl z.ca))], [((am 7), .inl (xI E, 120, .inl z.hd))], [((am 8), .inl (xI E, 120, .inl z.ps))], [((am 9), .inl (xI E, 120, .inl z.tm))], [((am 10), .inl (xI E, 120, .inl z.mm))], [((am 11), .inl (xJ E, 120, .inr (.inl z.se)))], [((am 12), .inl (xI E, 400, .inl z.tx))]]) (Mid' := []) hE M rfl (rfl) (rfl) (fun hgH => va_runS (As := [.long a, .long z.cnt]) (rest := [.long k.toInt64, .long z.mean]) S (c_X9_down l E a z.cnt (MdS.cnt_ne hc hp) _) (va_cwS 2 S.2.2.2.2 gX9_farBy_X9_down rfl rfl rfl kd_X9_down.2 ⟨Nat.le_of_ble_eq_true rfl, Nat.le_of_ble_eq_true rfl⟩) hgH.S rfl rfl hl.1 rfl (lv_room (Nat.le_of_ble_eq_true rfl)) dX9_farBy_127 ⟨Nat.zero_le _, Nat.zero_le _⟩) (fun H locs M => ?_)
      have M : gM E A s.heap [[(am 0, .inr (9, [.ref (am 1), .ref (am 2), .int (nI z.tn), .int z.mn, .int z.mk, .int z.mg, .int z.jp, .int (nI z.ct), .ref (am 3), .ref (am 4), .ref (am 5), .ref (am 6), .int (nI z.sp), .ref (am 7), .ref (am 8), .ref (am 9), .ref (am 10), .int (b2i z.on), .int z.ba, .int z.bg, .ref (am 11), .long z.up, .long z.by_, .int z.co, .int z.po, .int z.gr, .ref (am 12), .int (nI z.wr)]))], [((am 1), .inl (xI E, 25, .inl z.sg))], [((am 2), .inl (xI E, 8, .inl z.tp))], [((am 3), .inl (xI E, 120, .inl z.fr))], [((am 4), .inl (xI E, 120, .inl z.wh))], [((am 5), .inl (xI E, 120, .inl z.sn))], [((am 6), .inl (xI E, 300, .inl z.ca))], [((am 7), .inl (xI E, 120, .inl z.hd))], [((am 8), .inl (xI E, 120, .inl z.ps))], [((am 9), .inl (xI E, 120, .inl z.tm))], [((am 10), .inl (xI E, 120, .inl z.mm))], [((am 11), .inl (xJ E, 120, .inr (.inl z.se)))], [((am 12), .inl (xI E, 400, .inl z.tx))]] H locs := M
      refine lv_lmul S.1 S.2.1 dX9_farBy_130 ?_
      refine lv_ladd S.1 S.2.1 dX9_farBy_131 ?_
      rw [← hQ]
      exact glret S hr hlk M (by unfold MdS.farBy; rw [hI, suml]) (rfl) dX9_farBy_132
    | succ n ih =>
      intro i a hi hI H locs M ls hl
      refine lv_iload S.1 S.2.1 dX9_farBy_64 (lv_at hl 5 rfl) ?_
      refine lv_aload_n S.1 S.2.1 dX9_farBy_66 rfl (lv_at hl 0 rfl) ?_
      refine gget S hE M (C := RX9) (T := TX9) (N := 28) (ci := 9) (index := 78) hwi 0 rfl rfl 7 (by decide) (by decide +kernel) rfl dX9_farBy_67 ?_
      refine lv_icmp_ge (tgt := 120) S.1 S.2.1 dX9_farBy_70 (by decide) (fun c_ => absurd c_ (nI_ge (by omega) (by omega))) (fun _ => ?_)
      refine lv_lload S.1 S.2.1 dX9_farBy_73 (lv_at hl 3 rfl) ?_
      refine lv_aload_n S.1 S.2.1 dX9_farBy_75 rfl (lv_at hl 0 rfl) ?_
      refine gget S hE M (C := RX9) (T := TX9) (N := 28) (ci := 9) (index := 47) hwi 0 rfl rfl 20 (by decide) (by decide +kernel) rfl dX9_farBy_76 ?_
      refine lv_iload S.1 S.2.1 dX9_farBy_79 (lv_at hl 5 rfl) ?_
      refine glald S hE M 11 rfl (vp_in_nI (by omega) (by omega)) dX9_farBy_81 ?_
      refine gtopl (x' := z.se i) (by rw [nI_clamp (by omega)]) ?_
      refine lv_lload S.1 S.2.1 dX9_farBy_82 (lv_at hl 4 rfl) ?_
      refine W.lcmp S.1 S.2.1 dX9_farBy_84 ?_
      refine lv_if_ge (tgt := 101) S.1 S.2.1 dX9_farBy_85 (by decide) (fun c85 => ?_) (fun c85 => ?_)
      ·
        have c85 : z.mean ≤ (z.se i) := (lg_cmp_ge _ _).mp c85
        refine lv_aload_n S.1 S.2.1 dX9_farBy_101 rfl (lv_at hl 0 rfl) ?_
        refine gget S hE M (C := RX9) (T := TX9) (N := 28) (ci := 9) (index := 47) hwi 0 rfl rfl 20 (by decide) (by decide +kernel) rfl dX9_farBy_102 ?_
        refine lv_iload S.1 S.2.1 dX9_farBy_105 (lv_at hl 5 rfl) ?_
        refine glald S hE M 11 rfl (vp_in_nI (by omega) (by omega)) dX9_farBy_107 ?_
        refine gtopl (x' := z.se i) (by rw [nI_clamp (by omega)]) ?_
        refine lv_lload S.1 S.2.1 dX9_farBy_108 (lv_at hl 4 rfl) ?_
        refine lv_lsub S.1 S.2.1 dX9_farBy_110 ?_
        refine lv_ladd S.1 S.2.1 dX9_farBy_111 ?_
        refine lv_lstore (lv' := [(6, .long (a + ((z.se i) - z.mean))), (0, .ref (am 0)), (1, .int k), (2, .long z.cnt), (8, .long z.mean), (10, .int (nI i))]) S.1 S.2.1 dX9_farBy_112 hl (by decide) rfl (fun ls hl => ?_)
        refine lv_iinc (v := nI (i + 1)) (lv' := [(10, .int (nI (i + 1))), (6, .long (a + ((z.se i) - z.mean))), (0, .ref (am 0)), (1, .int k), (2, .long z.cnt), (8, .long z.mean)]) S.1 S.2.1 dX9_farBy_114 hl (k := 5) rfl (nI_1 _) (by decide) rfl (fun ls hl => ?_)
        refine lv_goto (tgt := 64) S.1 S.2.1 dX9_farBy_117 (by decide) ?_
        exact ih (i + 1) _ (by omega) (by rw [hI, suml, MdS.fars, if_pos c85]) _ _ M ls (lv_sub hl [2, 3, 4, 1, 5, 0] rfl)
      ·
        have c85 : ¬ z.mean ≤ (z.se i) := fun q => c85 ((lg_cmp_ge _ _).mpr q)
        refine lv_lload S.1 S.2.1 dX9_farBy_88 (lv_at hl 4 rfl) ?_
        refine lv_aload_n S.1 S.2.1 dX9_farBy_90 rfl (lv_at hl 0 rfl) ?_
        refine gget S hE M (C := RX9) (T := TX9) (N := 28) (ci := 9) (index := 47) hwi 0 rfl rfl 20 (by decide) (by decide +kernel) rfl dX9_farBy_91 ?_
        refine lv_iload S.1 S.2.1 dX9_farBy_94 (lv_at hl 5 rfl) ?_
        refine glald S hE M 11 rfl (vp_in_nI (by omega) (by omega)) dX9_farBy_96 ?_
        refine gtopl (x' := z.se i) (by rw [nI_clamp (by omega)]) ?_
        refine lv_lsub S.1 S.2.1 dX9_farBy_97 ?_
        refine lv_goto (tgt := 111) S.1 S.2.1 dX9_farBy_98 (by decide) ?_
        refine lv_ladd S.1 S.2.1 dX9_farBy_111 ?_
        refine lv_lstore (lv' := [(6, .long (a + (z.mean - (z.se i)))), (0, .ref (am 0)), (1, .int k), (2, .long z.cnt), (8, .long z.mean), (10, .int (nI i))]) S.1 S.2.1 dX9_farBy_112 hl (by decide) rfl (fun ls hl => ?_)
        refine lv_iinc (v := nI (i + 1)) (lv' := [(10, .int (nI (i + 1))), (6, .long (a + (z.mean - (z.se i)))), (0, .ref (am 0)), (1, .int k), (2, .long z.cnt), (8, .long z.mean)]) S.1 S.2.1 dX9_farBy_114 hl (k := 5) rfl (nI_1 _) (by decide) rfl (fun ls hl => ?_)
        refine lv_goto (tgt := 64) S.1 S.2.1 dX9_farBy_117 (by decide) ?_
        exact ih (i + 1) _ (by omega) (by rw [hI, suml, MdS.fars, if_neg c85]) _ _ M ls (lv_sub hl [2, 3, 4, 1, 5, 0] rfl)
  have hA : ∀ (n : Nat), ∀ (i : Nat) (a : Int64), i + n = z.ct → suml z.se (z.ct - z.old) z.old 0 = suml z.se n i a → ∀ (H : Heap) (locs : List Loc), gM E A s.heap [[(am 0, .inr (9, [.ref (am 1), .ref (am 2), .int (nI z.tn), .int z.mn, .int z.mk, .int z.mg, .int z.jp, .int (nI z.ct), .ref (am 3), .ref (am 4), .ref (am 5), .ref (am 6), .int (nI z.sp), .ref (am 7), .ref (am 8), .ref (am 9), .ref (am 10), .int (b2i z.on), .int z.ba, .int z.bg, .ref (am 11), .long z.up, .long z.by_, .int z.co, .int z.po, .int z.gr, .ref (am 12), .int (nI z.wr)]))], [((am 1), .inl (xI E, 25, .inl z.sg))], [((am 2), .inl (xI E, 8, .inl z.tp))], [((am 3), .inl (xI E, 120, .inl z.fr))], [((am 4), .inl (xI E, 120, .inl z.wh))], [((am 5), .inl (xI E, 120, .inl z.sn))], [((am 6), .inl (xI E, 300, .inl z.ca))], [((am 7), .inl (xI E, 120, .inl z.hd))], [((am 8), .inl (xI E, 120, .inl z.ps))], [((am 9), .inl (xI E, 120, .inl z.tm))], [((am 10), .inl (xI E, 120, .inl z.mm))], [((am 11), .inl (xJ E, 120, .inr (.inl z.se)))], [((am 12), .inl (xI E, 400, .inl z.tx))]] H locs → ∀ ls : Array Slot, lv_has ls 11 [(0, .ref (am 0)), (1, .int k), (2, .long z.cnt), (4, .long a), (6, .long 0), (8, .int (nI i))] → W vp l ve (headSpec wsX9_farBy (xrm 1 23)).room s vm ([.ref (am 0), .int k] : List Value).toArray below meth vc H locs 0 0 Q (F0 vm 23 ls []) := by
    intro n
    induction n with
    | zero =>
      intro i a hi hI H locs M ls hl
      refine lv_iload S.1 S.2.1 dX9_farBy_23 (lv_at hl 5 rfl) ?_
      refine lv_aload_n S.1 S.2.1 dX9_farBy_25 rfl (lv_at hl 0 rfl) ?_
      refine gget S hE M (C := RX9) (T := TX9) (N := 28) (ci := 9) (index := 78) hwi 0 rfl rfl 7 (by decide) (by decide +kernel) rfl dX9_farBy_26 ?_
      refine lv_icmp_ge (tgt := 50) S.1 S.2.1 dX9_farBy_29 (by decide) (fun _ => ?_) (fun c_ => absurd (nI_le (by omega) (by omega)) c_)
      refine lv_lload S.1 S.2.1 dX9_farBy_50 (lv_at hl 3 rfl) ?_
      refine lv_lload_n S.1 S.2.1 dX9_farBy_52 rfl (lv_at hl 2 rfl) ?_
      refine gcalll (L := []) (Mid := []) (Rr := [[(am 0, .inr (9, [.ref (am 1), .ref (am 2), .int (nI z.tn), .int z.mn, .int z.mk, .int z.mg, .int z.jp, .int (nI z.ct), .ref (am 3), .ref (am 4), .ref (am 5), .ref (am 6), .int (nI z.sp), .ref (am 7), .ref (am 8), .ref (am 9), .ref (am 10), .int (b2i z.on), .int z.ba, .int z.bg, .ref (am 11), .long z.up, .long z.by_, .int z.co, .int z.po, .int z.gr, .ref (am 12), .int (nI z.wr)]))], [((am 1), .inl (xI E, 25, .inl z.sg))], [((am 2), .inl (xI E, 8, .inl z.tp))], [((am 3), .inl (xI E, 120, .inl z.fr))], [((am 4), .inl (xI E, 120, .inl z.wh))], [((am 5), .inl (xI E, 120, .inl z.sn))], [((am 6), .inl (xI E, 300, .inl z.ca))], [((am 7), .inl (xI E, 120, .inl z.hd))], [((am 8), .inl (xI E, 120, .inl z.ps))], [((am 9), .inl (xI E, 120, .inl z.tm))], [((am 10), .inl (xI E, 120, .inl z.mm))], [((am 11), .inl (xJ E, 120, .inr (.inl z.se)))], [((am 12), .inl (xI E, 400, .inl z.tx))]]) (Mid' := []) hE M rfl (rfl) (rfl) (fun hgH => va_runS (As := [.long a, .long z.cnt]) (rest := []) S (c_X9_down l E a z.cnt (MdS.cnt_ne hc hp) _) (va_cwS 2 S.2.2.2.2 gX9_farBy_X9_down rfl rfl rfl kd_X9_down.2 ⟨Nat.le_of_ble_eq_true rfl, Nat.le_of_ble_eq_true rfl⟩) hgH.S rfl rfl hl.1 rfl (lv_room (Nat.le_of_ble_eq_true rfl)) dX9_farBy_53 ⟨Nat.zero_le _, Nat.zero_le _⟩) (fun H locs M => ?_)
      have M : gM E A s.heap [[(am 0, .inr (9, [.ref (am 1), .ref (am 2), .int (nI z.tn), .int z.mn, .int z.mk, .int z.mg, .int z.jp, .int (nI z.ct), .ref (am 3), .ref (am 4), .ref (am 5), .ref (am 6), .int (nI z.sp), .ref (am 7), .ref (am 8), .ref (am 9), .ref (am 10), .int (b2i z.on), .int z.ba, .int z.bg, .ref (am 11), .long z.up, .long z.by_, .int z.co, .int z.po, .int z.gr, .ref (am 12), .int (nI z.wr)]))], [((am 1), .inl (xI E, 25, .inl z.sg))], [((am 2), .inl (xI E, 8, .inl z.tp))], [((am 3), .inl (xI E, 120, .inl z.fr))], [((am 4), .inl (xI E, 120, .inl z.wh))], [((am 5), .inl (xI E, 120, .inl z.sn))], [((am 6), .inl (xI E, 300, .inl z.ca))], [((am 7), .inl (xI E, 120, .inl z.hd))], [((am 8), .inl (xI E, 120, .inl z.ps))], [((am 9), .inl (xI E, 120, .inl z.tm))], [((am 10), .inl (xI E, 120, .inl z.mm))], [((am 11), .inl (xJ E, 120, .inr (.inl z.se)))], [((am 12), .inl (xI E, 400, .inl z.tx))]] H locs := M
      refine gtopl (x' := z.mean) (by unfold MdS.mean; rw [hI, suml]) ?_
      refine lv_lstore (lv' := [(8, .long z.mean), (0, .ref (am 0)), (1, .int k), (2, .long z.cnt), (4, .long a), (6, .long 0)]) S.1 S.2.1 dX9_farBy_56 hl (by decide) rfl (fun ls hl => ?_)
      refine lv_aload_n S.1 S.2.1 dX9_farBy_58 rfl (lv_at hl 1 rfl) ?_
      refine gcalli (L := []) (Mid := modGs E am z) (Rr := []) (Mid' := modGs E am z) hE M rfl (rfl) (rfl) (fun hgH => va_runV (As := []) (rest := []) S (c_X9_oldest l E am z   hc _) (cwV 0 S.2.2.2.2 gX9_farBy_X9_oldest rfl rfl rfl kd_X9_oldest ⟨Nat.le_of_ble_eq_true rfl, Nat.le_of_ble_eq_true rfl⟩) (hgH.V hE (show vwCl[9]? = some (RX9, TX9, 28) from rfl) rfl) rfl rfl hl.1 rfl (lv_room (Nat.le_of_ble_eq_true rfl)) dX9_farBy_59 ⟨Nat.zero_le _, Nat.zero_le _⟩) (fun H locs M => ?_)
      have M : gM E A s.heap [[(am 0, .inr (9, [.ref (am 1), .ref (am 2), .int (nI z.tn), .int z.mn, .int z.mk, .int z.mg, .int z.jp, .int (nI z.ct), .ref (am 3), .ref (am 4), .ref (am 5), .ref (am 6), .int (nI z.sp), .ref (am 7), .ref (am 8), .ref (am 9), .ref (am 10), .int (b2i z.on), .int z.ba, .int z.bg, .ref (am 11), .long z.up, .long z.by_, .int z.co, .int z.po, .int z.gr, .ref (am 12), .int (nI z.wr)]))], [((am 1), .inl (xI E, 25, .inl z.sg))], [((am 2), .inl (xI E, 8, .inl z.tp))], [((am 3), .inl (xI E, 120, .inl z.fr))], [((am 4), .inl (xI E, 120, .inl z.wh))], [((am 5), .inl (xI E, 120, .inl z.sn))], [((am 6), .inl (xI E, 300, .inl z.ca))], [((am 7), .inl (xI E, 120, .inl z.hd))], [((am 8), .inl (xI E, 120, .inl z.ps))], [((am 9), .inl (xI E, 120, .inl z.tm))], [((am 10), .inl (xI E, 120, .inl z.mm))], [((am 11), .inl (xJ E, 120, .inr (.inl z.se)))], [((am 12), .inl (xI E, 400, .inl z.tx))]] H locs := M
      refine lv_istore (lv' := [(10, .int (nI z.old)), (8, .long z.mean), (0, .ref (am 0)), (1, .int k), (2, .long z.cnt), (4, .long a), (6, .long 0)]) S.1 S.2.1 dX9_farBy_62 hl (by decide) rfl (fun ls hl => ?_)
      exact hB (z.ct - z.old) z.old 0 (by omega) rfl _ _ M ls (lv_sub hl [2, 3, 4, 6, 1, 0] rfl)
    | succ n ih =>
      intro i a hi hI H locs M ls hl
      refine lv_iload S.1 S.2.1 dX9_farBy_23 (lv_at hl 5 rfl) ?_
      refine lv_aload_n S.1 S.2.1 dX9_farBy_25 rfl (lv_at hl 0 rfl) ?_
      refine gget S hE M (C := RX9) (T := TX9) (N := 28) (ci := 9) (index := 78) hwi 0 rfl rfl 7 (by decide) (by decide +kernel) rfl dX9_farBy_26 ?_
      refine lv_icmp_ge (tgt := 50) S.1 S.2.1 dX9_farBy_29 (by decide) (fun c_ => absurd c_ (nI_ge (by omega) (by omega))) (fun _ => ?_)
      refine lv_lload S.1 S.2.1 dX9_farBy_32 (lv_at hl 3 rfl) ?_
      refine lv_aload_n S.1 S.2.1 dX9_farBy_34 rfl (lv_at hl 0 rfl) ?_
      refine gget S hE M (C := RX9) (T := TX9) (N := 28) (ci := 9) (index := 47) hwi 0 rfl rfl 20 (by decide) (by decide +kernel) rfl dX9_farBy_35 ?_
      refine lv_iload S.1 S.2.1 dX9_farBy_38 (lv_at hl 5 rfl) ?_
      refine glald S hE M 11 rfl (vp_in_nI (by omega) (by omega)) dX9_farBy_40 ?_
      refine gtopl (x' := z.se i) (by rw [nI_clamp (by omega)]) ?_
      refine lv_ladd S.1 S.2.1 dX9_farBy_41 ?_
      refine lv_lstore (lv' := [(4, .long (a + (z.se i))), (0, .ref (am 0)), (1, .int k), (2, .long z.cnt), (6, .long 0), (8, .int (nI i))]) S.1 S.2.1 dX9_farBy_42 hl (by decide) rfl (fun ls hl => ?_)
      refine lv_iinc (v := nI (i + 1)) (lv' := [(8, .int (nI (i + 1))), (4, .long (a + (z.se i))), (0, .ref (am 0)), (1, .int k), (2, .long z.cnt), (6, .long 0)]) S.1 S.2.1 dX9_farBy_44 hl (k := 5) rfl (nI_1 _) (by decide) rfl (fun ls hl => ?_)
      refine lv_goto (tgt := 23) S.1 S.2.1 dX9_farBy_47 (by decide) ?_
      exact ih (i + 1) _ (by omega) (by rw [hI, suml]) _ _ M ls (lv_sub hl [2, 3, 4, 1, 5, 0] rfl)
  refine lv_aload_n S.1 S.2.1 dX9_farBy_0 rfl (lv_at hl 0 rfl) ?_
  refine gget S hE M (C := RX9) (T := TX9) (N := 28) (ci := 9) (index := 78) hwi 0 rfl rfl 7 (by decide) (by decide +kernel) rfl dX9_farBy_1 ?_
  refine lv_aload_n S.1 S.2.1 dX9_farBy_4 rfl (lv_at hl 0 rfl) ?_
  refine gcalli (L := []) (Mid := modGs E am z) (Rr := []) (Mid' := modGs E am z) hE M rfl (rfl) (rfl) (fun hgH => va_runV (As := []) (rest := [.int (nI z.ct)]) S (c_X9_oldest l E am z   hc _) (cwV 0 S.2.2.2.2 gX9_farBy_X9_oldest rfl rfl rfl kd_X9_oldest ⟨Nat.le_of_ble_eq_true rfl, Nat.le_of_ble_eq_true rfl⟩) (hgH.V hE (show vwCl[9]? = some (RX9, TX9, 28) from rfl) rfl) rfl rfl hl.1 rfl (lv_room (Nat.le_of_ble_eq_true rfl)) dX9_farBy_5 ⟨Nat.zero_le _, Nat.zero_le _⟩) (fun H locs M => ?_)
  have M : gM E A s.heap [[(am 0, .inr (9, [.ref (am 1), .ref (am 2), .int (nI z.tn), .int z.mn, .int z.mk, .int z.mg, .int z.jp, .int (nI z.ct), .ref (am 3), .ref (am 4), .ref (am 5), .ref (am 6), .int (nI z.sp), .ref (am 7), .ref (am 8), .ref (am 9), .ref (am 10), .int (b2i z.on), .int z.ba, .int z.bg, .ref (am 11), .long z.up, .long z.by_, .int z.co, .int z.po, .int z.gr, .ref (am 12), .int (nI z.wr)]))], [((am 1), .inl (xI E, 25, .inl z.sg))], [((am 2), .inl (xI E, 8, .inl z.tp))], [((am 3), .inl (xI E, 120, .inl z.fr))], [((am 4), .inl (xI E, 120, .inl z.wh))], [((am 5), .inl (xI E, 120, .inl z.sn))], [((am 6), .inl (xI E, 300, .inl z.ca))], [((am 7), .inl (xI E, 120, .inl z.hd))], [((am 8), .inl (xI E, 120, .inl z.ps))], [((am 9), .inl (xI E, 120, .inl z.tm))], [((am 10), .inl (xI E, 120, .inl z.mm))], [((am 11), .inl (xJ E, 120, .inr (.inl z.se)))], [((am 12), .inl (xI E, 400, .inl z.tx))]] H locs := M
  refine lv_isub S.1 S.2.1 dX9_farBy_8 ?_
  refine lv_i2l S.1 S.2.1 dX9_farBy_9 rfl ?_
  refine gtopl (x' := z.cnt) (rfl) ?_
  refine lv_lstore_n (lv' := [(2, .long z.cnt), (0, .ref (am 0)), (1, .int k)]) S.1 S.2.1 dX9_farBy_10 rfl hl (by decide) rfl (fun ls hl => ?_)
  refine lv_lconst (v := 0) S.1 S.2.1 dX9_farBy_11 (by decide) ?_
  refine lv_lstore (lv' := [(4, .long 0), (2, .long z.cnt), (0, .ref (am 0)), (1, .int k)]) S.1 S.2.1 dX9_farBy_12 hl (by decide) rfl (fun ls hl => ?_)
  refine lv_lconst (v := 0) S.1 S.2.1 dX9_farBy_14 (by decide) ?_
  refine lv_lstore (lv' := [(6, .long 0), (4, .long 0), (2, .long z.cnt), (0, .ref (am 0)), (1, .int k)]) S.1 S.2.1 dX9_farBy_15 hl (by decide) rfl (fun ls hl => ?_)
  refine lv_aload_n S.1 S.2.1 dX9_farBy_17 rfl (lv_at hl 3 rfl) ?_
  refine gcalli (L := []) (Mid := modGs E am z) (Rr := []) (Mid' := modGs E am z) hE M rfl (rfl) (rfl) (fun hgH => va_runV (As := []) (rest := []) S (c_X9_oldest l E am z   hc _) (cwV 0 S.2.2.2.2 gX9_farBy_X9_oldest rfl rfl rfl kd_X9_oldest ⟨Nat.le_of_ble_eq_true rfl, Nat.le_of_ble_eq_true rfl⟩) (hgH.V hE (show vwCl[9]? = some (RX9, TX9, 28) from rfl) rfl) rfl rfl hl.1 rfl (lv_room (Nat.le_of_ble_eq_true rfl)) dX9_farBy_18 ⟨Nat.zero_le _, Nat.zero_le _⟩) (fun H locs M => ?_)
  have M : gM E A s.heap [[(am 0, .inr (9, [.ref (am 1), .ref (am 2), .int (nI z.tn), .int z.mn, .int z.mk, .int z.mg, .int z.jp, .int (nI z.ct), .ref (am 3), .ref (am 4), .ref (am 5), .ref (am 6), .int (nI z.sp), .ref (am 7), .ref (am 8), .ref (am 9), .ref (am 10), .int (b2i z.on), .int z.ba, .int z.bg, .ref (am 11), .long z.up, .long z.by_, .int z.co, .int z.po, .int z.gr, .ref (am 12), .int (nI z.wr)]))], [((am 1), .inl (xI E, 25, .inl z.sg))], [((am 2), .inl (xI E, 8, .inl z.tp))], [((am 3), .inl (xI E, 120, .inl z.fr))], [((am 4), .inl (xI E, 120, .inl z.wh))], [((am 5), .inl (xI E, 120, .inl z.sn))], [((am 6), .inl (xI E, 300, .inl z.ca))], [((am 7), .inl (xI E, 120, .inl z.hd))], [((am 8), .inl (xI E, 120, .inl z.ps))], [((am 9), .inl (xI E, 120, .inl z.tm))], [((am 10), .inl (xI E, 120, .inl z.mm))], [((am 11), .inl (xJ E, 120, .inr (.inl z.se)))], [((am 12), .inl (xI E, 400, .inl z.tx))]] H locs := M
  refine lv_istore (lv' := [(8, .int (nI z.old)), (6, .long 0), (4, .long 0), (2, .long z.cnt), (0, .ref (am 0)), (1, .int k)]) S.1 S.2.1 dX9_farBy_21 hl (by decide) rfl (fun ls hl => ?_)
  exact hA (z.ct - z.old) z.old 0 (by omega) rfl _ _ M ls (lv_sub hl [4, 5, 3, 2, 1, 0] rfl)

set_option maxHeartbeats 4000000 in
set_option maxRecDepth 100000 in
theorem c_X9_wishFor (l : Launch) (E : xE) (am : Nat → Nat) (z : MdS) (h : Int32) (hc : z.ct ≤ 120) (hfr : ∀ a, a < z.ct → ∃ m, m < 300 ∧ z.fr a = nI m) (hp : 0 < z.ct) : mI l yX9_wishFor wsX9_wishFor (xrm 3 79) E [.ref (am 0), .int h] (modGs E am z) ((z.wsh h).wRR) (modGs E am (z.wsh h)) := by
  intro sz
  refine Met.ofW (cc := cX9_wishFor) (maxL := 5) (ret := (some .int)) (by decide +kernel) rfl ?_
  intro vp ve s vm args below meth vc s₁ B hml hv
  obtain ⟨rfl, S, hr, hlk, hnm, A, hA, hE, M⟩ := genter B hml hv
  rw [hA]
  obtain ⟨ls, hfr, hl⟩ := gst (m := vm) (as := [.ref (am 0), .int h]) (n := 5) (Nat.le_of_ble_eq_true rfl)
  rw [hfr]
  clear hfr hA
  have hl : lv_has ls 5 [(0, .ref (am 0)), (1, .int h)] := hl
  have M : gM E A s.heap [[(am 0, .inr (9, [.ref (am 1), .ref (am 2), .int (nI z.tn), .int z.mn, .int z.mk, .int z.mg, .int z.jp, .int (nI z.ct), .ref (am 3), .ref (am 4), .ref (am 5), .ref (am 6), .int (nI z.sp), .ref (am 7), .ref (am 8), .ref (am 9), .ref (am 10), .int (b2i z.on), .int z.ba, .int z.bg, .ref (am 11), .long z.up, .long z.by_, .int z.co, .int z.po, .int z.gr, .ref (am 12), .int (nI z.wr)]))], [((am 1), .inl (xI E, 25, .inl z.sg))], [((am 2), .inl (xI E, 8, .inl z.tp))], [((am 3), .inl (xI E, 120, .inl z.fr))], [((am 4), .inl (xI E, 120, .inl z.wh))], [((am 5), .inl (xI E, 120, .inl z.sn))], [((am 6), .inl (xI E, 300, .inl z.ca))], [((am 7), .inl (xI E, 120, .inl z.hd))], [((am 8), .inl (xI E, 120, .inl z.ps))], [((am 9), .inl (xI E, 120, .inl z.tm))], [((am 10), .inl (xI E, 120, .inl z.mm))], [((am 11), .inl (xJ E, 120, .inr (.inl z.se)))], [((am 12), .inl (xI E, 400, .inl z.tx))]] s.heap [] := M
  have hwi : ∀ w ∈ u_ws RX9 TX9 28, w ∈ wsX9_wishFor := by decide +kernel
  have hc2 : (z.wsh h).ct ≤ 120 := by rw [wsh_ct]; exact hc
  have hp2 : 0 < (z.wsh h).ct := by rw [wsh_ct]; exact hp
  obtain ⟨Q, hQ⟩ : ∃ Q : State → Prop, MQ below (va_Qi (fun x (_ : Unit) => x = ((z.wsh h).wRR)) (fun _ => kQ E A (modGs E am (z.wsh h))) A) ([.ref (am 0), .int h] : List Value).toArray s 0 0 A = Q := ⟨_, rfl⟩
  rw [hQ]
  have hL : ∀ (n : Nat), ∀ (a : Nat) (w : MdS) (f : Nat → Int64), w = z.wd → (w.mn = 3 → ¬ w.by_ = 0) → w.ct ≤ 120 → a + n = w.ct → sel w h (w.ct - w.old) w.old w.se = sel w h n a f → ∀ (H : Heap) (locs : List Loc), gM E A s.heap [[(am 0, .inr (9, [.ref (am 1), .ref (am 2), .int (nI w.tn), .int w.mn, .int w.mk, .int w.mg, .int w.jp, .int (nI w.ct), .ref (am 3), .ref (am 4), .ref (am 5), .ref (am 6), .int (nI w.sp), .ref (am 7), .ref (am 8), .ref (am 9), .ref (am 10), .int (b2i w.on), .int w.ba, .int w.bg, .ref (am 11), .long w.up, .long w.by_, .int w.co, .int w.po, .int w.gr, .ref (am 12), .int (nI w.wr)]))], [((am 1), .inl (xI E, 25, .inl w.sg))], [((am 2), .inl (xI E, 8, .inl w.tp))], [((am 3), .inl (xI E, 120, .inl w.fr))], [((am 4), .inl (xI E, 120, .inl w.wh))], [((am 5), .inl (xI E, 120, .inl w.sn))], [((am 6), .inl (xI E, 300, .inl w.ca))], [((am 7), .inl (xI E, 120, .inl w.hd))], [((am 8), .inl (xI E, 120, .inl w.ps))], [((am 9), .inl (xI E, 120, .inl w.tm))], [((am 10), .inl (xI E, 120, .inl w.mm))], [((am 11), .inl (xJ E, 120, .inr (.inl f)))], [((am 12), .inl (xI E, 400, .inl w.tx))]] H locs → ∀ ls : Array Slot, lv_has ls 5 [(0, .ref (am 0)), (1, .int h), (2, .int (nI a))] → W vp l ve (headSpec wsX9_wishFor (xrm 3 79)).room s vm ([.ref (am 0), .int h] : List Value).toArray below meth vc H locs 0 0 Q (F0 vm 17 ls []) := by
    intro n
    induction n with
    | zero =>
      intro a w f hw hwb hcw hi hI H locs M ls hl
      refine lv_iload_n S.1 S.2.1 dX9_wishFor_17 rfl (lv_at hl 2 rfl) ?_
      refine lv_aload_n S.1 S.2.1 dX9_wishFor_18 rfl (lv_at hl 0 rfl) ?_
      refine gget S hE M (C := RX9) (T := TX9) (N := 28) (ci := 9) (index := 78) hwi 0 rfl rfl 7 (by decide) (by decide +kernel) rfl dX9_wishFor_19 ?_
      refine lv_icmp_ge (tgt := 81) S.1 S.2.1 dX9_wishFor_22 (by decide) (fun _ => ?_) (fun c_ => absurd (nI_le (by omega) (by omega)) c_)
      have ey : z.wsh h = ((w.sg, w.tp, w.tn, w.mn, w.mk, w.mg, w.jp, w.ct, w.fr, w.wh, w.sn, w.ca, w.sp, w.hd, w.ps, w.tm, w.mm, w.on, w.ba, w.bg, f, w.up, w.by_, w.co, w.po, w.gr, w.tx, w.wr) : MdS) := by unfold MdS.wsh; rw [← hw]; unfold MdS.wsw; rw [hI, sel] <;> rfl
      have M : gM E A s.heap [[(am 0, .inr (9, [.ref (am 1), .ref (am 2), .int (nI (z.wsh h).tn), .int ((z.wsh h).mn), .int ((z.wsh h).mk), .int ((z.wsh h).mg), .int ((z.wsh h).jp), .int (nI (z.wsh h).ct), .ref (am 3), .ref (am 4), .ref (am 5), .ref (am 6), .int (nI (z.wsh h).sp), .ref (am 7), .ref (am 8), .ref (am 9), .ref (am 10), .int (b2i (z.wsh h).on), .int ((z.wsh h).ba), .int ((z.wsh h).bg), .ref (am 11), .long ((z.wsh h).up), .long ((z.wsh h).by_), .int ((z.wsh h).co), .int ((z.wsh h).po), .int ((z.wsh h).gr), .ref (am 12), .int (nI (z.wsh h).wr)]))], [((am 1), .inl (xI E, 25, .inl ((z.wsh h).sg)))], [((am 2), .inl (xI E, 8, .inl ((z.wsh h).tp)))], [((am 3), .inl (xI E, 120, .inl ((z.wsh h).fr)))], [((am 4), .inl (xI E, 120, .inl ((z.wsh h).wh)))], [((am 5), .inl (xI E, 120, .inl ((z.wsh h).sn)))], [((am 6), .inl (xI E, 300, .inl ((z.wsh h).ca)))], [((am 7), .inl (xI E, 120, .inl ((z.wsh h).hd)))], [((am 8), .inl (xI E, 120, .inl ((z.wsh h).ps)))], [((am 9), .inl (xI E, 120, .inl ((z.wsh h).tm)))], [((am 10), .inl (xI E, 120, .inl ((z.wsh h).mm)))], [((am 11), .inl (xJ E, 120, .inr (.inl ((z.wsh h).se))))], [((am 12), .inl (xI E, 400, .inl ((z.wsh h).tx)))]] H locs := by rw [ey]; exact M
      refine lv_aload_n S.1 S.2.1 dX9_wishFor_81 rfl (lv_at hl 0 rfl) ?_
      refine gget S hE M (C := RX9) (T := TX9) (N := 28) (ci := 9) (index := 69) hwi 0 rfl rfl 3 (by decide) (by decide +kernel) rfl dX9_wishFor_82 ?_
      refine lv_if_ne (tgt := 93) S.1 S.2.1 dX9_wishFor_85 (by decide) (fun c85 => ?_) (fun c85 => ?_)
      ·
        refine lv_aload_n S.1 S.2.1 dX9_wishFor_93 rfl (lv_at hl 0 rfl) ?_
        refine gget S hE M (C := RX9) (T := TX9) (N := 28) (ci := 9) (index := 69) hwi 0 rfl rfl 3 (by decide) (by decide +kernel) rfl dX9_wishFor_94 ?_
        refine lv_iconst (v := 4) S.1 S.2.1 dX9_wishFor_97 (by decide) ?_
        refine lv_icmp_ne (tgt := 111) S.1 S.2.1 dX9_wishFor_98 (by decide) (fun c98 => ?_) (fun c98 => ?_)
        ·
          refine lv_aload_n S.1 S.2.1 dX9_wishFor_111 rfl (lv_at hl 0 rfl) ?_
          refine gget S hE M (C := RX9) (T := TX9) (N := 28) (ci := 9) (index := 69) hwi 0 rfl rfl 3 (by decide) (by decide +kernel) rfl dX9_wishFor_112 ?_
          refine lv_iconst (v := 2) S.1 S.2.1 dX9_wishFor_115 (by decide) ?_
          refine lv_icmp_ne (tgt := 133) S.1 S.2.1 dX9_wishFor_116 (by decide) (fun c116 => ?_) (fun c116 => ?_)
          ·
            refine lv_aload_n S.1 S.2.1 dX9_wishFor_133 rfl (lv_at hl 0 rfl) ?_
            refine lv_aload_n S.1 S.2.1 dX9_wishFor_134 rfl (lv_at hl 0 rfl) ?_
            refine gget S hE M (C := RX9) (T := TX9) (N := 28) (ci := 9) (index := 16) hwi 0 rfl rfl 4 (by decide) (by decide +kernel) rfl dX9_wishFor_135 ?_
            refine gcalll (L := []) (Mid := modGs E am (z.wsh h)) (Rr := []) (Mid' := modGs E am (z.wsh h)) hE M rfl (rfl) (rfl) (fun hgH => va_runV (As := [.int ((z.wsh h).mk)]) (rest := []) S (c_X9_leastBy l E am (z.wsh h) ((z.wsh h).mk)  hc2 _) (cwV 1 S.2.2.2.2 gX9_wishFor_X9_leastBy rfl rfl rfl kd_X9_leastBy ⟨Nat.le_of_ble_eq_true rfl, Nat.le_of_ble_eq_true rfl⟩) (hgH.V hE (show vwCl[9]? = some (RX9, TX9, 28) from rfl) rfl) rfl rfl hl.1 rfl (lv_room (Nat.le_of_ble_eq_true rfl)) dX9_wishFor_138 ⟨Nat.zero_le _, Nat.zero_le _⟩) (fun H locs M => ?_)
            have M : gM E A s.heap [[(am 0, .inr (9, [.ref (am 1), .ref (am 2), .int (nI (z.wsh h).tn), .int ((z.wsh h).mn), .int ((z.wsh h).mk), .int ((z.wsh h).mg), .int ((z.wsh h).jp), .int (nI (z.wsh h).ct), .ref (am 3), .ref (am 4), .ref (am 5), .ref (am 6), .int (nI (z.wsh h).sp), .ref (am 7), .ref (am 8), .ref (am 9), .ref (am 10), .int (b2i (z.wsh h).on), .int ((z.wsh h).ba), .int ((z.wsh h).bg), .ref (am 11), .long ((z.wsh h).up), .long ((z.wsh h).by_), .int ((z.wsh h).co), .int ((z.wsh h).po), .int ((z.wsh h).gr), .ref (am 12), .int (nI (z.wsh h).wr)]))], [((am 1), .inl (xI E, 25, .inl ((z.wsh h).sg)))], [((am 2), .inl (xI E, 8, .inl ((z.wsh h).tp)))], [((am 3), .inl (xI E, 120, .inl ((z.wsh h).fr)))], [((am 4), .inl (xI E, 120, .inl ((z.wsh h).wh)))], [((am 5), .inl (xI E, 120, .inl ((z.wsh h).sn)))], [((am 6), .inl (xI E, 300, .inl ((z.wsh h).ca)))], [((am 7), .inl (xI E, 120, .inl ((z.wsh h).hd)))], [((am 8), .inl (xI E, 120, .inl ((z.wsh h).ps)))], [((am 9), .inl (xI E, 120, .inl ((z.wsh h).tm)))], [((am 10), .inl (xI E, 120, .inl ((z.wsh h).mm)))], [((am 11), .inl (xJ E, 120, .inr (.inl ((z.wsh h).se))))], [((am 12), .inl (xI E, 400, .inl ((z.wsh h).tx)))]] H locs := M
            refine lv_l2i S.1 S.2.1 dX9_wishFor_141 rfl ?_
            rw [← hQ]
            exact giret S hr hlk M (by unfold MdS.wRR; rw [if_neg c85, if_neg c98, if_neg c116]) (rfl) dX9_wishFor_142
          ·
            refine lv_aload_n S.1 S.2.1 dX9_wishFor_119 rfl (lv_at hl 0 rfl) ?_
            refine gget S hE M (C := RX9) (T := TX9) (N := 28) (ci := 9) (index := 99) hwi 0 rfl rfl 17 (by decide) (by decide +kernel) rfl dX9_wishFor_120 ?_
            refine lv_if_eq (tgt := 133) S.1 S.2.1 dX9_wishFor_123 (by decide) (fun c123 => ?_) (fun c123 => ?_)
            ·
              refine lv_aload_n S.1 S.2.1 dX9_wishFor_133 rfl (lv_at hl 0 rfl) ?_
              refine lv_aload_n S.1 S.2.1 dX9_wishFor_134 rfl (lv_at hl 0 rfl) ?_
              refine gget S hE M (C := RX9) (T := TX9) (N := 28) (ci := 9) (index := 16) hwi 0 rfl rfl 4 (by decide) (by decide +kernel) rfl dX9_wishFor_135 ?_
              refine gcalll (L := []) (Mid := modGs E am (z.wsh h)) (Rr := []) (Mid' := modGs E am (z.wsh h)) hE M rfl (rfl) (rfl) (fun hgH => va_runV (As := [.int ((z.wsh h).mk)]) (rest := []) S (c_X9_leastBy l E am (z.wsh h) ((z.wsh h).mk)  hc2 _) (cwV 1 S.2.2.2.2 gX9_wishFor_X9_leastBy rfl rfl rfl kd_X9_leastBy ⟨Nat.le_of_ble_eq_true rfl, Nat.le_of_ble_eq_true rfl⟩) (hgH.V hE (show vwCl[9]? = some (RX9, TX9, 28) from rfl) rfl) rfl rfl hl.1 rfl (lv_room (Nat.le_of_ble_eq_true rfl)) dX9_wishFor_138 ⟨Nat.zero_le _, Nat.zero_le _⟩) (fun H locs M => ?_)
              have M : gM E A s.heap [[(am 0, .inr (9, [.ref (am 1), .ref (am 2), .int (nI (z.wsh h).tn), .int ((z.wsh h).mn), .int ((z.wsh h).mk), .int ((z.wsh h).mg), .int ((z.wsh h).jp), .int (nI (z.wsh h).ct), .ref (am 3), .ref (am 4), .ref (am 5), .ref (am 6), .int (nI (z.wsh h).sp), .ref (am 7), .ref (am 8), .ref (am 9), .ref (am 10), .int (b2i (z.wsh h).on), .int ((z.wsh h).ba), .int ((z.wsh h).bg), .ref (am 11), .long ((z.wsh h).up), .long ((z.wsh h).by_), .int ((z.wsh h).co), .int ((z.wsh h).po), .int ((z.wsh h).gr), .ref (am 12), .int (nI (z.wsh h).wr)]))], [((am 1), .inl (xI E, 25, .inl ((z.wsh h).sg)))], [((am 2), .inl (xI E, 8, .inl ((z.wsh h).tp)))], [((am 3), .inl (xI E, 120, .inl ((z.wsh h).fr)))], [((am 4), .inl (xI E, 120, .inl ((z.wsh h).wh)))], [((am 5), .inl (xI E, 120, .inl ((z.wsh h).sn)))], [((am 6), .inl (xI E, 300, .inl ((z.wsh h).ca)))], [((am 7), .inl (xI E, 120, .inl ((z.wsh h).hd)))], [((am 8), .inl (xI E, 120, .inl ((z.wsh h).ps)))], [((am 9), .inl (xI E, 120, .inl ((z.wsh h).tm)))], [((am 10), .inl (xI E, 120, .inl ((z.wsh h).mm)))], [((am 11), .inl (xJ E, 120, .inr (.inl ((z.wsh h).se))))], [((am 12), .inl (xI E, 400, .inl ((z.wsh h).tx)))]] H locs := M
              refine lv_l2i S.1 S.2.1 dX9_wishFor_141 rfl ?_
              rw [← hQ]
              exact giret S hr hlk M (by unfold MdS.wRR; rw [if_neg c85, if_neg c98, if_pos c116, if_pos c123]) (rfl) dX9_wishFor_142
            ·
              refine lv_aload_n S.1 S.2.1 dX9_wishFor_126 rfl (lv_at hl 0 rfl) ?_
              refine gcalll (L := []) (Mid := modGs E am (z.wsh h)) (Rr := []) (Mid' := modGs E am (z.wsh h)) hE M rfl (rfl) (rfl) (fun hgH => va_runV (As := []) (rest := []) S (c_X9_latelyMost l E am (z.wsh h)   hc2 hp2 _) (cwV 0 S.2.2.2.2 gX9_wishFor_X9_latelyMost rfl rfl rfl kd_X9_latelyMost ⟨Nat.le_of_ble_eq_true rfl, Nat.le_of_ble_eq_true rfl⟩) (hgH.V hE (show vwCl[9]? = some (RX9, TX9, 28) from rfl) rfl) rfl rfl hl.1 rfl (lv_room (Nat.le_of_ble_eq_true rfl)) dX9_wishFor_127 ⟨Nat.zero_le _, Nat.zero_le _⟩) (fun H locs M => ?_)
              have M : gM E A s.heap [[(am 0, .inr (9, [.ref (am 1), .ref (am 2), .int (nI (z.wsh h).tn), .int ((z.wsh h).mn), .int ((z.wsh h).mk), .int ((z.wsh h).mg), .int ((z.wsh h).jp), .int (nI (z.wsh h).ct), .ref (am 3), .ref (am 4), .ref (am 5), .ref (am 6), .int (nI (z.wsh h).sp), .ref (am 7), .ref (am 8), .ref (am 9), .ref (am 10), .int (b2i (z.wsh h).on), .int ((z.wsh h).ba), .int ((z.wsh h).bg), .ref (am 11), .long ((z.wsh h).up), .long ((z.wsh h).by_), .int ((z.wsh h).co), .int ((z.wsh h).po), .int ((z.wsh h).gr), .ref (am 12), .int (nI (z.wsh h).wr)]))], [((am 1), .inl (xI E, 25, .inl ((z.wsh h).sg)))], [((am 2), .inl (xI E, 8, .inl ((z.wsh h).tp)))], [((am 3), .inl (xI E, 120, .inl ((z.wsh h).fr)))], [((am 4), .inl (xI E, 120, .inl ((z.wsh h).wh)))], [((am 5), .inl (xI E, 120, .inl ((z.wsh h).sn)))], [((am 6), .inl (xI E, 300, .inl ((z.wsh h).ca)))], [((am 7), .inl (xI E, 120, .inl ((z.wsh h).hd)))], [((am 8), .inl (xI E, 120, .inl ((z.wsh h).ps)))], [((am 9), .inl (xI E, 120, .inl ((z.wsh h).tm)))], [((am 10), .inl (xI E, 120, .inl ((z.wsh h).mm)))], [((am 11), .inl (xJ E, 120, .inr (.inl ((z.wsh h).se))))], [((am 12), .inl (xI E, 400, .inl ((z.wsh h).tx)))]] H locs := M
              refine lv_goto (tgt := 141) S.1 S.2.1 dX9_wishFor_130 (by decide) ?_
              refine lv_l2i S.1 S.2.1 dX9_wishFor_141 rfl ?_
              rw [← hQ]
              exact giret S hr hlk M (by unfold MdS.wRR; rw [if_neg c85, if_neg c98, if_pos c116, if_neg c123]) (rfl) dX9_wishFor_142
        ·
          refine lv_aload_n S.1 S.2.1 dX9_wishFor_101 rfl (lv_at hl 0 rfl) ?_
          refine lv_aload_n S.1 S.2.1 dX9_wishFor_102 rfl (lv_at hl 0 rfl) ?_
          refine gget S hE M (C := RX9) (T := TX9) (N := 28) (ci := 9) (index := 16) hwi 0 rfl rfl 4 (by decide) (by decide +kernel) rfl dX9_wishFor_103 ?_
          refine gcalll (L := []) (Mid := modGs E am (z.wsh h)) (Rr := []) (Mid' := modGs E am (z.wsh h)) hE M rfl (rfl) (rfl) (fun hgH => va_runV (As := [.int ((z.wsh h).mk)]) (rest := []) S (c_X9_farBy l E am (z.wsh h) ((z.wsh h).mk)  hc2 hp2 _) (cwV 1 S.2.2.2.2 gX9_wishFor_X9_farBy rfl rfl rfl kd_X9_farBy ⟨Nat.le_of_ble_eq_true rfl, Nat.le_of_ble_eq_true rfl⟩) (hgH.V hE (show vwCl[9]? = some (RX9, TX9, 28) from rfl) rfl) rfl rfl hl.1 rfl (lv_room (Nat.le_of_ble_eq_true rfl)) dX9_wishFor_106 ⟨Nat.zero_le _, Nat.zero_le _⟩) (fun H locs M => ?_)
          have M : gM E A s.heap [[(am 0, .inr (9, [.ref (am 1), .ref (am 2), .int (nI (z.wsh h).tn), .int ((z.wsh h).mn), .int ((z.wsh h).mk), .int ((z.wsh h).mg), .int ((z.wsh h).jp), .int (nI (z.wsh h).ct), .ref (am 3), .ref (am 4), .ref (am 5), .ref (am 6), .int (nI (z.wsh h).sp), .ref (am 7), .ref (am 8), .ref (am 9), .ref (am 10), .int (b2i (z.wsh h).on), .int ((z.wsh h).ba), .int ((z.wsh h).bg), .ref (am 11), .long ((z.wsh h).up), .long ((z.wsh h).by_), .int ((z.wsh h).co), .int ((z.wsh h).po), .int ((z.wsh h).gr), .ref (am 12), .int (nI (z.wsh h).wr)]))], [((am 1), .inl (xI E, 25, .inl ((z.wsh h).sg)))], [((am 2), .inl (xI E, 8, .inl ((z.wsh h).tp)))], [((am 3), .inl (xI E, 120, .inl ((z.wsh h).fr)))], [((am 4), .inl (xI E, 120, .inl ((z.wsh h).wh)))], [((am 5), .inl (xI E, 120, .inl ((z.wsh h).sn)))], [((am 6), .inl (xI E, 300, .inl ((z.wsh h).ca)))], [((am 7), .inl (xI E, 120, .inl ((z.wsh h).hd)))], [((am 8), .inl (xI E, 120, .inl ((z.wsh h).ps)))], [((am 9), .inl (xI E, 120, .inl ((z.wsh h).tm)))], [((am 10), .inl (xI E, 120, .inl ((z.wsh h).mm)))], [((am 11), .inl (xJ E, 120, .inr (.inl ((z.wsh h).se))))], [((am 12), .inl (xI E, 400, .inl ((z.wsh h).tx)))]] H locs := M
          refine lv_l2i S.1 S.2.1 dX9_wishFor_109 rfl ?_
          rw [← hQ]
          exact giret S hr hlk M (by unfold MdS.wRR; rw [if_neg c85, if_pos c98]) (rfl) dX9_wishFor_110
      ·
        refine lv_aload_n S.1 S.2.1 dX9_wishFor_88 rfl (lv_at hl 0 rfl) ?_
        refine gget S hE M (C := RX9) (T := TX9) (N := 28) (ci := 9) (index := 16) hwi 0 rfl rfl 4 (by decide) (by decide +kernel) rfl dX9_wishFor_89 ?_
        rw [← hQ]
        exact giret S hr hlk M (by unfold MdS.wRR; rw [if_pos c85]) (rfl) dX9_wishFor_92
    | succ n ih =>
      intro a w f hw hwb hcw hi hI H locs M ls hl
      refine lv_iload_n S.1 S.2.1 dX9_wishFor_17 rfl (lv_at hl 2 rfl) ?_
      refine lv_aload_n S.1 S.2.1 dX9_wishFor_18 rfl (lv_at hl 0 rfl) ?_
      refine gget S hE M (C := RX9) (T := TX9) (N := 28) (ci := 9) (index := 78) hwi 0 rfl rfl 7 (by decide) (by decide +kernel) rfl dX9_wishFor_19 ?_
      refine lv_icmp_ge (tgt := 81) S.1 S.2.1 dX9_wishFor_22 (by decide) (fun c_ => absurd c_ (nI_ge (by omega) (by omega))) (fun _ => ?_)
      refine lv_aload_n S.1 S.2.1 dX9_wishFor_25 rfl (lv_at hl 0 rfl) ?_
      refine gget S hE M (C := RX9) (T := TX9) (N := 28) (ci := 9) (index := 69) hwi 0 rfl rfl 3 (by decide) (by decide +kernel) rfl dX9_wishFor_26 ?_
      refine lv_iconst (v := 3) S.1 S.2.1 dX9_wishFor_29 (by decide) ?_
      refine lv_icmp_ne (tgt := 59) S.1 S.2.1 dX9_wishFor_30 (by decide) (fun c30 => ?_) (fun c30 => ?_)
      ·
        refine lv_lconst (v := 0) S.1 S.2.1 dX9_wishFor_59 (by decide) ?_
        refine lv_lstore_n (lv' := [(3, .long 0), (0, .ref (am 0)), (1, .int h), (2, .int (nI a))]) S.1 S.2.1 dX9_wishFor_60 rfl hl (by decide) rfl (fun ls hl => ?_)
        refine lv_aload_n S.1 S.2.1 dX9_wishFor_61 rfl (lv_at hl 1 rfl) ?_
        refine gget S hE M (C := RX9) (T := TX9) (N := 28) (ci := 9) (index := 47) hwi 0 rfl rfl 20 (by decide) (by decide +kernel) rfl dX9_wishFor_62 ?_
        refine lv_iload_n S.1 S.2.1 dX9_wishFor_65 rfl (lv_at hl 3 rfl) ?_
        refine lv_aload_n S.1 S.2.1 dX9_wishFor_66 rfl (lv_at hl 1 rfl) ?_
        refine lv_iload_n S.1 S.2.1 dX9_wishFor_67 rfl (lv_at hl 3 rfl) ?_
        refine gcalli (L := []) (Mid := modGs E am ((w.sg, w.tp, w.tn, w.mn, w.mk, w.mg, w.jp, w.ct, w.fr, w.wh, w.sn, w.ca, w.sp, w.hd, w.ps, w.tm, w.mm, w.on, w.ba, w.bg, f, w.up, w.by_, w.co, w.po, w.gr, w.tx, w.wr) : MdS)) (Rr := []) (Mid' := modGs E am ((w.sg, w.tp, w.tn, w.mn, w.mk, w.mg, w.jp, w.ct, w.fr, w.wh, w.sn, w.ca, w.sp, w.hd, w.ps, w.tm, w.mm, w.on, w.ba, w.bg, f, w.up, w.by_, w.co, w.po, w.gr, w.tx, w.wr) : MdS)) hE M rfl (rfl) (rfl) (fun hgH => va_runV (As := [.int (nI a)]) (rest := [.int (nI a), .ref (am 11)]) S (c_X9_delay l E am ((w.sg, w.tp, w.tn, w.mn, w.mk, w.mg, w.jp, w.ct, w.fr, w.wh, w.sn, w.ca, w.sp, w.hd, w.ps, w.tm, w.mm, w.on, w.ba, w.bg, f, w.up, w.by_, w.co, w.po, w.gr, w.tx, w.wr) : MdS) a  (by omega) _) (cwV 1 S.2.2.2.2 gX9_wishFor_X9_delay rfl rfl rfl kd_X9_delay ⟨Nat.le_of_ble_eq_true rfl, Nat.le_of_ble_eq_true rfl⟩) (hgH.V hE (show vwCl[9]? = some (RX9, TX9, 28) from rfl) rfl) rfl rfl hl.1 rfl (lv_room (Nat.le_of_ble_eq_true rfl)) dX9_wishFor_68 ⟨Nat.zero_le _, Nat.zero_le _⟩) (fun H locs M => ?_)
        have M : gM E A s.heap [[(am 0, .inr (9, [.ref (am 1), .ref (am 2), .int (nI w.tn), .int w.mn, .int w.mk, .int w.mg, .int w.jp, .int (nI w.ct), .ref (am 3), .ref (am 4), .ref (am 5), .ref (am 6), .int (nI w.sp), .ref (am 7), .ref (am 8), .ref (am 9), .ref (am 10), .int (b2i w.on), .int w.ba, .int w.bg, .ref (am 11), .long w.up, .long w.by_, .int w.co, .int w.po, .int w.gr, .ref (am 12), .int (nI w.wr)]))], [((am 1), .inl (xI E, 25, .inl w.sg))], [((am 2), .inl (xI E, 8, .inl w.tp))], [((am 3), .inl (xI E, 120, .inl w.fr))], [((am 4), .inl (xI E, 120, .inl w.wh))], [((am 5), .inl (xI E, 120, .inl w.sn))], [((am 6), .inl (xI E, 300, .inl w.ca))], [((am 7), .inl (xI E, 120, .inl w.hd))], [((am 8), .inl (xI E, 120, .inl w.ps))], [((am 9), .inl (xI E, 120, .inl w.tm))], [((am 10), .inl (xI E, 120, .inl w.mm))], [((am 11), .inl (xJ E, 120, .inr (.inl f)))], [((am 12), .inl (xI E, 400, .inl w.tx))]] H locs := M
        refine gtop (x' := w.dl a) (rfl) ?_
        refine lv_i2l S.1 S.2.1 dX9_wishFor_71 rfl ?_
        refine lv_lload_n S.1 S.2.1 dX9_wishFor_72 rfl (lv_at hl 0 rfl) ?_
        refine lv_ladd S.1 S.2.1 dX9_wishFor_73 ?_
        refine glast S hE M (Gs' := [[(am 0, .inr (9, [.ref (am 1), .ref (am 2), .int (nI w.tn), .int w.mn, .int w.mk, .int w.mg, .int w.jp, .int (nI w.ct), .ref (am 3), .ref (am 4), .ref (am 5), .ref (am 6), .int (nI w.sp), .ref (am 7), .ref (am 8), .ref (am 9), .ref (am 10), .int (b2i w.on), .int w.ba, .int w.bg, .ref (am 11), .long w.up, .long w.by_, .int w.co, .int w.po, .int w.gr, .ref (am 12), .int (nI w.wr)]))], [((am 1), .inl (xI E, 25, .inl w.sg))], [((am 2), .inl (xI E, 8, .inl w.tp))], [((am 3), .inl (xI E, 120, .inl w.fr))], [((am 4), .inl (xI E, 120, .inl w.wh))], [((am 5), .inl (xI E, 120, .inl w.sn))], [((am 6), .inl (xI E, 300, .inl w.ca))], [((am 7), .inl (xI E, 120, .inl w.hd))], [((am 8), .inl (xI E, 120, .inl w.ps))], [((am 9), .inl (xI E, 120, .inl w.tm))], [((am 10), .inl (xI E, 120, .inl w.mm))], [((am 11), .inl (xJ E, 120, .inr (.inl (vp_updL f a (((w.dl a).toInt64) + 0)))))], [((am 12), .inl (xI E, 400, .inl w.tx))]]) 11 rfl (vp_in_nI (by omega) (by omega)) (by rw [nI_clamp (by omega)]; rfl) dX9_wishFor_74 (fun H locs M => ?_)
        refine lv_iinc (v := nI (a + 1)) (lv' := [(2, .int (nI (a + 1))), (3, .long 0), (0, .ref (am 0)), (1, .int h)]) S.1 S.2.1 dX9_wishFor_75 hl (k := 3) rfl (nI_1 _) (by decide) rfl (fun ls hl => ?_)
        refine lv_goto (tgt := 17) S.1 S.2.1 dX9_wishFor_78 (by decide) ?_
        exact ih (a + 1) w _ hw hwb hcw (by omega) (by rw [hI, sel, alg, if_neg c30]) _ _ M ls (lv_sub hl [2, 3, 0] rfl)
      ·
        refine lv_aload_n S.1 S.2.1 dX9_wishFor_33 rfl (lv_at hl 0 rfl) ?_
        refine gget S hE M (C := RX9) (T := TX9) (N := 28) (ci := 9) (index := 122) hwi 0 rfl rfl 21 (by decide) (by decide +kernel) rfl dX9_wishFor_34 ?_
        refine lv_iload_n S.1 S.2.1 dX9_wishFor_37 rfl (lv_at hl 1 rfl) ?_
        refine lv_aload_n S.1 S.2.1 dX9_wishFor_38 rfl (lv_at hl 0 rfl) ?_
        refine gget S hE M (C := RX9) (T := TX9) (N := 28) (ci := 9) (index := 23) hwi 0 rfl rfl 8 (by decide) (by decide +kernel) rfl dX9_wishFor_39 ?_
        refine lv_iload_n S.1 S.2.1 dX9_wishFor_42 rfl (lv_at hl 2 rfl) ?_
        refine giald S hE M 3 rfl (vp_in_nI (by omega) (by omega)) dX9_wishFor_43 ?_
        refine gtop (x' := w.fr a) (by rw [nI_clamp (by omega)]) ?_
        refine lv_isub S.1 S.2.1 dX9_wishFor_44 ?_
        refine lv_i2l S.1 S.2.1 dX9_wishFor_45 rfl ?_
        refine lv_lmul S.1 S.2.1 dX9_wishFor_46 ?_
        refine lv_lneg S.1 S.2.1 dX9_wishFor_47 ?_
        refine lv_aload_n S.1 S.2.1 dX9_wishFor_48 rfl (lv_at hl 0 rfl) ?_
        refine gget S hE M (C := RX9) (T := TX9) (N := 28) (ci := 9) (index := 126) hwi 0 rfl rfl 22 (by decide) (by decide +kernel) rfl dX9_wishFor_49 ?_
        refine gcalll (L := []) (Mid := []) (Rr := [[(am 0, .inr (9, [.ref (am 1), .ref (am 2), .int (nI w.tn), .int w.mn, .int w.mk, .int w.mg, .int w.jp, .int (nI w.ct), .ref (am 3), .ref (am 4), .ref (am 5), .ref (am 6), .int (nI w.sp), .ref (am 7), .ref (am 8), .ref (am 9), .ref (am 10), .int (b2i w.on), .int w.ba, .int w.bg, .ref (am 11), .long w.up, .long w.by_, .int w.co, .int w.po, .int w.gr, .ref (am 12), .int (nI w.wr)]))], [((am 1), .inl (xI E, 25, .inl w.sg))], [((am 2), .inl (xI E, 8, .inl w.tp))], [((am 3), .inl (xI E, 120, .inl w.fr))], [((am 4), .inl (xI E, 120, .inl w.wh))], [((am 5), .inl (xI E, 120, .inl w.sn))], [((am 6), .inl (xI E, 300, .inl w.ca))], [((am 7), .inl (xI E, 120, .inl w.hd))], [((am 8), .inl (xI E, 120, .inl w.ps))], [((am 9), .inl (xI E, 120, .inl w.tm))], [((am 10), .inl (xI E, 120, .inl w.mm))], [((am 11), .inl (xJ E, 120, .inr (.inl f)))], [((am 12), .inl (xI E, 400, .inl w.tx))]]) (Mid' := []) hE M rfl (rfl) (rfl) (fun hgH => va_runS (As := [.long (-(w.up * ((h - (w.fr a)).toInt64))), .long w.by_]) (rest := []) S (c_X9_down l E (-(w.up * ((h - (w.fr a)).toInt64))) w.by_ (hwb c30) _) (va_cwS 2 S.2.2.2.2 gX9_wishFor_X9_down rfl rfl rfl kd_X9_down.2 ⟨Nat.le_of_ble_eq_true rfl, Nat.le_of_ble_eq_true rfl⟩) hgH.S rfl rfl hl.1 rfl (lv_room (Nat.le_of_ble_eq_true rfl)) dX9_wishFor_52 ⟨Nat.zero_le _, Nat.zero_le _⟩) (fun H locs M => ?_)
        have M : gM E A s.heap [[(am 0, .inr (9, [.ref (am 1), .ref (am 2), .int (nI w.tn), .int w.mn, .int w.mk, .int w.mg, .int w.jp, .int (nI w.ct), .ref (am 3), .ref (am 4), .ref (am 5), .ref (am 6), .int (nI w.sp), .ref (am 7), .ref (am 8), .ref (am 9), .ref (am 10), .int (b2i w.on), .int w.ba, .int w.bg, .ref (am 11), .long w.up, .long w.by_, .int w.co, .int w.po, .int w.gr, .ref (am 12), .int (nI w.wr)]))], [((am 1), .inl (xI E, 25, .inl w.sg))], [((am 2), .inl (xI E, 8, .inl w.tp))], [((am 3), .inl (xI E, 120, .inl w.fr))], [((am 4), .inl (xI E, 120, .inl w.wh))], [((am 5), .inl (xI E, 120, .inl w.sn))], [((am 6), .inl (xI E, 300, .inl w.ca))], [((am 7), .inl (xI E, 120, .inl w.hd))], [((am 8), .inl (xI E, 120, .inl w.ps))], [((am 9), .inl (xI E, 120, .inl w.tm))], [((am 10), .inl (xI E, 120, .inl w.mm))], [((am 11), .inl (xJ E, 120, .inr (.inl f)))], [((am 12), .inl (xI E, 400, .inl w.tx))]] H locs := M
        refine lv_lneg S.1 S.2.1 dX9_wishFor_55 ?_
        refine lv_goto (tgt := 60) S.1 S.2.1 dX9_wishFor_56 (by decide) ?_
        refine lv_lstore_n (lv' := [(3, .long (-(dwn (-(w.up * ((h - (w.fr a)).toInt64))) w.by_))), (0, .ref (am 0)), (1, .int h), (2, .int (nI a))]) S.1 S.2.1 dX9_wishFor_60 rfl hl (by decide) rfl (fun ls hl => ?_)
        refine lv_aload_n S.1 S.2.1 dX9_wishFor_61 rfl (lv_at hl 1 rfl) ?_
        refine gget S hE M (C := RX9) (T := TX9) (N := 28) (ci := 9) (index := 47) hwi 0 rfl rfl 20 (by decide) (by decide +kernel) rfl dX9_wishFor_62 ?_
        refine lv_iload_n S.1 S.2.1 dX9_wishFor_65 rfl (lv_at hl 3 rfl) ?_
        refine lv_aload_n S.1 S.2.1 dX9_wishFor_66 rfl (lv_at hl 1 rfl) ?_
        refine lv_iload_n S.1 S.2.1 dX9_wishFor_67 rfl (lv_at hl 3 rfl) ?_
        refine gcalli (L := []) (Mid := modGs E am ((w.sg, w.tp, w.tn, w.mn, w.mk, w.mg, w.jp, w.ct, w.fr, w.wh, w.sn, w.ca, w.sp, w.hd, w.ps, w.tm, w.mm, w.on, w.ba, w.bg, f, w.up, w.by_, w.co, w.po, w.gr, w.tx, w.wr) : MdS)) (Rr := []) (Mid' := modGs E am ((w.sg, w.tp, w.tn, w.mn, w.mk, w.mg, w.jp, w.ct, w.fr, w.wh, w.sn, w.ca, w.sp, w.hd, w.ps, w.tm, w.mm, w.on, w.ba, w.bg, f, w.up, w.by_, w.co, w.po, w.gr, w.tx, w.wr) : MdS)) hE M rfl (rfl) (rfl) (fun hgH => va_runV (As := [.int (nI a)]) (rest := [.int (nI a), .ref (am 11)]) S (c_X9_delay l E am ((w.sg, w.tp, w.tn, w.mn, w.mk, w.mg, w.jp, w.ct, w.fr, w.wh, w.sn, w.ca, w.sp, w.hd, w.ps, w.tm, w.mm, w.on, w.ba, w.bg, f, w.up, w.by_, w.co, w.po, w.gr, w.tx, w.wr) : MdS) a  (by omega) _) (cwV 1 S.2.2.2.2 gX9_wishFor_X9_delay rfl rfl rfl kd_X9_delay ⟨Nat.le_of_ble_eq_true rfl, Nat.le_of_ble_eq_true rfl⟩) (hgH.V hE (show vwCl[9]? = some (RX9, TX9, 28) from rfl) rfl) rfl rfl hl.1 rfl (lv_room (Nat.le_of_ble_eq_true rfl)) dX9_wishFor_68 ⟨Nat.zero_le _, Nat.zero_le _⟩) (fun H locs M => ?_)
        have M : gM E A s.heap [[(am 0, .inr (9, [.ref (am 1), .ref (am 2), .int (nI w.tn), .int w.mn, .int w.mk, .int w.mg, .int w.jp, .int (nI w.ct), .ref (am 3), .ref (am 4), .ref (am 5), .ref (am 6), .int (nI w.sp), .ref (am 7), .ref (am 8), .ref (am 9), .ref (am 10), .int (b2i w.on), .int w.ba, .int w.bg, .ref (am 11), .long w.up, .long w.by_, .int w.co, .int w.po, .int w.gr, .ref (am 12), .int (nI w.wr)]))], [((am 1), .inl (xI E, 25, .inl w.sg))], [((am 2), .inl (xI E, 8, .inl w.tp))], [((am 3), .inl (xI E, 120, .inl w.fr))], [((am 4), .inl (xI E, 120, .inl w.wh))], [((am 5), .inl (xI E, 120, .inl w.sn))], [((am 6), .inl (xI E, 300, .inl w.ca))], [((am 7), .inl (xI E, 120, .inl w.hd))], [((am 8), .inl (xI E, 120, .inl w.ps))], [((am 9), .inl (xI E, 120, .inl w.tm))], [((am 10), .inl (xI E, 120, .inl w.mm))], [((am 11), .inl (xJ E, 120, .inr (.inl f)))], [((am 12), .inl (xI E, 400, .inl w.tx))]] H locs := M
        refine gtop (x' := w.dl a) (rfl) ?_
        refine lv_i2l S.1 S.2.1 dX9_wishFor_71 rfl ?_
        refine lv_lload_n S.1 S.2.1 dX9_wishFor_72 rfl (lv_at hl 0 rfl) ?_
        refine lv_ladd S.1 S.2.1 dX9_wishFor_73 ?_
        refine glast S hE M (Gs' := [[(am 0, .inr (9, [.ref (am 1), .ref (am 2), .int (nI w.tn), .int w.mn, .int w.mk, .int w.mg, .int w.jp, .int (nI w.ct), .ref (am 3), .ref (am 4), .ref (am 5), .ref (am 6), .int (nI w.sp), .ref (am 7), .ref (am 8), .ref (am 9), .ref (am 10), .int (b2i w.on), .int w.ba, .int w.bg, .ref (am 11), .long w.up, .long w.by_, .int w.co, .int w.po, .int w.gr, .ref (am 12), .int (nI w.wr)]))], [((am 1), .inl (xI E, 25, .inl w.sg))], [((am 2), .inl (xI E, 8, .inl w.tp))], [((am 3), .inl (xI E, 120, .inl w.fr))], [((am 4), .inl (xI E, 120, .inl w.wh))], [((am 5), .inl (xI E, 120, .inl w.sn))], [((am 6), .inl (xI E, 300, .inl w.ca))], [((am 7), .inl (xI E, 120, .inl w.hd))], [((am 8), .inl (xI E, 120, .inl w.ps))], [((am 9), .inl (xI E, 120, .inl w.tm))], [((am 10), .inl (xI E, 120, .inl w.mm))], [((am 11), .inl (xJ E, 120, .inr (.inl (vp_updL f a (((w.dl a).toInt64) + (-(dwn (-(w.up * ((h - (w.fr a)).toInt64))) w.by_)))))))], [((am 12), .inl (xI E, 400, .inl w.tx))]]) 11 rfl (vp_in_nI (by omega) (by omega)) (by rw [nI_clamp (by omega)]; rfl) dX9_wishFor_74 (fun H locs M => ?_)
        refine lv_iinc (v := nI (a + 1)) (lv' := [(2, .int (nI (a + 1))), (3, .long (-(dwn (-(w.up * ((h - (w.fr a)).toInt64))) w.by_))), (0, .ref (am 0)), (1, .int h)]) S.1 S.2.1 dX9_wishFor_75 hl (k := 3) rfl (nI_1 _) (by decide) rfl (fun ls hl => ?_)
        refine lv_goto (tgt := 17) S.1 S.2.1 dX9_wishFor_78 (by decide) ?_
        exact ih (a + 1) w _ hw hwb hcw (by omega) (by rw [hI, sel, alg, if_pos c30]) _ _ M ls (lv_sub hl [2, 3, 0] rfl)
  refine lv_aload_n S.1 S.2.1 dX9_wishFor_0 rfl (lv_at hl 0 rfl) ?_
  refine gget S hE M (C := RX9) (T := TX9) (N := 28) (ci := 9) (index := 69) hwi 0 rfl rfl 3 (by decide) (by decide +kernel) rfl dX9_wishFor_1 ?_
  refine lv_iconst (v := 3) S.1 S.2.1 dX9_wishFor_4 (by decide) ?_
  refine lv_icmp_ne (tgt := 12) S.1 S.2.1 dX9_wishFor_5 (by decide) (fun c5 => ?_) (fun c5 => ?_)
  ·
    refine lv_aload_n S.1 S.2.1 dX9_wishFor_12 rfl (lv_at hl 0 rfl) ?_
    refine gcalli (L := []) (Mid := modGs E am z) (Rr := []) (Mid' := modGs E am z) hE M rfl (rfl) (rfl) (fun hgH => va_runV (As := []) (rest := []) S (c_X9_oldest l E am z   hc _) (cwV 0 S.2.2.2.2 gX9_wishFor_X9_oldest rfl rfl rfl kd_X9_oldest ⟨Nat.le_of_ble_eq_true rfl, Nat.le_of_ble_eq_true rfl⟩) (hgH.V hE (show vwCl[9]? = some (RX9, TX9, 28) from rfl) rfl) rfl rfl hl.1 rfl (lv_room (Nat.le_of_ble_eq_true rfl)) dX9_wishFor_13 ⟨Nat.zero_le _, Nat.zero_le _⟩) (fun H locs M => ?_)
    have M : gM E A s.heap [[(am 0, .inr (9, [.ref (am 1), .ref (am 2), .int (nI z.tn), .int z.mn, .int z.mk, .int z.mg, .int z.jp, .int (nI z.ct), .ref (am 3), .ref (am 4), .ref (am 5), .ref (am 6), .int (nI z.sp), .ref (am 7), .ref (am 8), .ref (am 9), .ref (am 10), .int (b2i z.on), .int z.ba, .int z.bg, .ref (am 11), .long z.up, .long z.by_, .int z.co, .int z.po, .int z.gr, .ref (am 12), .int (nI z.wr)]))], [((am 1), .inl (xI E, 25, .inl z.sg))], [((am 2), .inl (xI E, 8, .inl z.tp))], [((am 3), .inl (xI E, 120, .inl z.fr))], [((am 4), .inl (xI E, 120, .inl z.wh))], [((am 5), .inl (xI E, 120, .inl z.sn))], [((am 6), .inl (xI E, 300, .inl z.ca))], [((am 7), .inl (xI E, 120, .inl z.hd))], [((am 8), .inl (xI E, 120, .inl z.ps))], [((am 9), .inl (xI E, 120, .inl z.tm))], [((am 10), .inl (xI E, 120, .inl z.mm))], [((am 11), .inl (xJ E, 120, .inr (.inl z.se)))], [((am 12), .inl (xI E, 400, .inl z.tx))]] H locs := M
    refine lv_istore_n (lv' := [(2, .int (nI z.old)), (0, .ref (am 0)), (1, .int h)]) S.1 S.2.1 dX9_wishFor_16 rfl hl (by decide) rfl (fun ls hl => ?_)
    exact hL (z.ct - z.old) z.old z _ (by unfold MdS.wd; rw [if_neg c5]) (fun q => absurd q c5) hc (show z.old + (z.ct - z.old) = z.ct from Nat.add_sub_cancel' (Nat.sub_le _ _)) rfl _ _ M ls (lv_sub hl [1, 2, 0] rfl)
  ·
    refine lv_aload_n S.1 S.2.1 dX9_wishFor_8 rfl (lv_at hl 0 rfl) ?_
    refine gcallv (L := []) (Mid := modGs E am z) (Rr := []) (Mid' := modGs E am z.fdr) hE M rfl (rfl) (rfl) (fun hgH => va_runV (As := []) (rest := []) S (c_X9_findDrift l E am z   hc hfr _) (cwV 0 S.2.2.2.2 gX9_wishFor_X9_findDrift rfl rfl rfl kd_X9_findDrift ⟨Nat.le_of_ble_eq_true rfl, Nat.le_of_ble_eq_true rfl⟩) (hgH.V hE (show vwCl[9]? = some (RX9, TX9, 28) from rfl) rfl) rfl rfl hl.1 rfl (lv_room (Nat.le_of_ble_eq_true rfl)) dX9_wishFor_9 ⟨Nat.zero_le _, Nat.zero_le _⟩) (fun H locs M => ?_)
    have M : gM E A s.heap [[(am 0, .inr (9, [.ref (am 1), .ref (am 2), .int (nI z.fdr.tn), .int z.fdr.mn, .int z.fdr.mk, .int z.fdr.mg, .int z.fdr.jp, .int (nI z.fdr.ct), .ref (am 3), .ref (am 4), .ref (am 5), .ref (am 6), .int (nI z.fdr.sp), .ref (am 7), .ref (am 8), .ref (am 9), .ref (am 10), .int (b2i z.fdr.on), .int z.fdr.ba, .int z.fdr.bg, .ref (am 11), .long z.fdr.up, .long z.fdr.by_, .int z.fdr.co, .int z.fdr.po, .int z.fdr.gr, .ref (am 12), .int (nI z.fdr.wr)]))], [((am 1), .inl (xI E, 25, .inl z.fdr.sg))], [((am 2), .inl (xI E, 8, .inl z.fdr.tp))], [((am 3), .inl (xI E, 120, .inl z.fdr.fr))], [((am 4), .inl (xI E, 120, .inl z.fdr.wh))], [((am 5), .inl (xI E, 120, .inl z.fdr.sn))], [((am 6), .inl (xI E, 300, .inl z.fdr.ca))], [((am 7), .inl (xI E, 120, .inl z.fdr.hd))], [((am 8), .inl (xI E, 120, .inl z.fdr.ps))], [((am 9), .inl (xI E, 120, .inl z.fdr.tm))], [((am 10), .inl (xI E, 120, .inl z.fdr.mm))], [((am 11), .inl (xJ E, 120, .inr (.inl z.fdr.se)))], [((am 12), .inl (xI E, 400, .inl z.fdr.tx))]] H locs := M
    refine lv_aload_n S.1 S.2.1 dX9_wishFor_12 rfl (lv_at hl 0 rfl) ?_
    refine gcalli (L := []) (Mid := modGs E am z.fdr) (Rr := []) (Mid' := modGs E am z.fdr) hE M rfl (rfl) (rfl) (fun hgH => va_runV (As := []) (rest := []) S (c_X9_oldest l E am z.fdr   hc _) (cwV 0 S.2.2.2.2 gX9_wishFor_X9_oldest rfl rfl rfl kd_X9_oldest ⟨Nat.le_of_ble_eq_true rfl, Nat.le_of_ble_eq_true rfl⟩) (hgH.V hE (show vwCl[9]? = some (RX9, TX9, 28) from rfl) rfl) rfl rfl hl.1 rfl (lv_room (Nat.le_of_ble_eq_true rfl)) dX9_wishFor_13 ⟨Nat.zero_le _, Nat.zero_le _⟩) (fun H locs M => ?_)
    have M : gM E A s.heap [[(am 0, .inr (9, [.ref (am 1), .ref (am 2), .int (nI z.fdr.tn), .int z.fdr.mn, .int z.fdr.mk, .int z.fdr.mg, .int z.fdr.jp, .int (nI z.fdr.ct), .ref (am 3), .ref (am 4), .ref (am 5), .ref (am 6), .int (nI z.fdr.sp), .ref (am 7), .ref (am 8), .ref (am 9), .ref (am 10), .int (b2i z.fdr.on), .int z.fdr.ba, .int z.fdr.bg, .ref (am 11), .long z.fdr.up, .long z.fdr.by_, .int z.fdr.co, .int z.fdr.po, .int z.fdr.gr, .ref (am 12), .int (nI z.fdr.wr)]))], [((am 1), .inl (xI E, 25, .inl z.fdr.sg))], [((am 2), .inl (xI E, 8, .inl z.fdr.tp))], [((am 3), .inl (xI E, 120, .inl z.fdr.fr))], [((am 4), .inl (xI E, 120, .inl z.fdr.wh))], [((am 5), .inl (xI E, 120, .inl z.fdr.sn))], [((am 6), .inl (xI E, 300, .inl z.fdr.ca))], [((am 7), .inl (xI E, 120, .inl z.fdr.hd))], [((am 8), .inl (xI E, 120, .inl z.fdr.ps))], [((am 9), .inl (xI E, 120, .inl z.fdr.tm))], [((am 10), .inl (xI E, 120, .inl z.fdr.mm))], [((am 11), .inl (xJ E, 120, .inr (.inl z.fdr.se)))], [((am 12), .inl (xI E, 400, .inl z.fdr.tx))]] H locs := M
    refine lv_istore_n (lv' := [(2, .int (nI z.fdr.old)), (0, .ref (am 0)), (1, .int h)]) S.1 S.2.1 dX9_wishFor_16 rfl hl (by decide) rfl (fun ls hl => ?_)
    exact hL (z.ct - z.old) z.old z.fdr _ (by unfold MdS.wd; rw [if_pos c5]) (fun _ => fdr_by (dr_ok hfr)) hc (show z.old + (z.ct - z.old) = z.ct from Nat.add_sub_cancel' (Nat.sub_le _ _)) rfl _ _ M ls (lv_sub hl [1, 2, 0] rfl)

set_option maxHeartbeats 4000000 in
set_option maxRecDepth 100000 in
theorem c_X9_beside (l : Launch) (E : xE) (am : Nat → Nat) (z : MdS) (h : Int32) (b : Bool) (hs : z.sp ≤ 120) : mI l yX9_beside wsX9_beside (xrm 0 0) E [.ref (am 0), .int h, .int (b2i b)] (modGs E am z) (z.beside h b) (modGs E am z) := by
  intro sz
  refine Met.ofW (cc := cX9_beside) (maxL := 7) (ret := (some .int)) (by decide +kernel) rfl ?_
  intro vp ve s vm args below meth vc s₁ B hml hv
  obtain ⟨rfl, S, hr, hlk, hnm, A, hA, hE, M⟩ := genter B hml hv
  rw [hA]
  obtain ⟨ls, hfr, hl⟩ := gst (m := vm) (as := [.ref (am 0), .int h, .int (b2i b)]) (n := 7) (Nat.le_of_ble_eq_true rfl)
  rw [hfr]
  clear hfr hA
  have hl : lv_has ls 7 [(0, .ref (am 0)), (1, .int h), (2, .int (b2i b))] := hl
  have M : gM E A s.heap [[(am 0, .inr (9, [.ref (am 1), .ref (am 2), .int (nI z.tn), .int z.mn, .int z.mk, .int z.mg, .int z.jp, .int (nI z.ct), .ref (am 3), .ref (am 4), .ref (am 5), .ref (am 6), .int (nI z.sp), .ref (am 7), .ref (am 8), .ref (am 9), .ref (am 10), .int (b2i z.on), .int z.ba, .int z.bg, .ref (am 11), .long z.up, .long z.by_, .int z.co, .int z.po, .int z.gr, .ref (am 12), .int (nI z.wr)]))], [((am 1), .inl (xI E, 25, .inl z.sg))], [((am 2), .inl (xI E, 8, .inl z.tp))], [((am 3), .inl (xI E, 120, .inl z.fr))], [((am 4), .inl (xI E, 120, .inl z.wh))], [((am 5), .inl (xI E, 120, .inl z.sn))], [((am 6), .inl (xI E, 300, .inl z.ca))], [((am 7), .inl (xI E, 120, .inl z.hd))], [((am 8), .inl (xI E, 120, .inl z.ps))], [((am 9), .inl (xI E, 120, .inl z.tm))], [((am 10), .inl (xI E, 120, .inl z.mm))], [((am 11), .inl (xJ E, 120, .inr (.inl z.se)))], [((am 12), .inl (xI E, 400, .inl z.tx))]] s.heap [] := M
  have hwi : ∀ w ∈ u_ws RX9 TX9 28, w ∈ wsX9_beside := by decide +kernel
  obtain ⟨Q, hQ⟩ : ∃ Q : State → Prop, MQ below (va_Qi (fun x (_ : Unit) => x = (z.beside h b)) (fun _ => kQ E A (modGs E am z)) A) ([.ref (am 0), .int h, .int (b2i b)] : List Value).toArray s 0 0 A = Q := ⟨_, rfl⟩
  rw [hQ]
  have hL : ∀ (n : Nat), ∀ (k : Nat) (r : Int32), k + n = z.sp → (r = -9 ∨ ∃ j, j < k ∧ r = nI j) → z.beside h b = bsd z h b n k r → ∀ (H : Heap) (locs : List Loc), gM E A s.heap [[(am 0, .inr (9, [.ref (am 1), .ref (am 2), .int (nI z.tn), .int z.mn, .int z.mk, .int z.mg, .int z.jp, .int (nI z.ct), .ref (am 3), .ref (am 4), .ref (am 5), .ref (am 6), .int (nI z.sp), .ref (am 7), .ref (am 8), .ref (am 9), .ref (am 10), .int (b2i z.on), .int z.ba, .int z.bg, .ref (am 11), .long z.up, .long z.by_, .int z.co, .int z.po, .int z.gr, .ref (am 12), .int (nI z.wr)]))], [((am 1), .inl (xI E, 25, .inl z.sg))], [((am 2), .inl (xI E, 8, .inl z.tp))], [((am 3), .inl (xI E, 120, .inl z.fr))], [((am 4), .inl (xI E, 120, .inl z.wh))], [((am 5), .inl (xI E, 120, .inl z.sn))], [((am 6), .inl (xI E, 300, .inl z.ca))], [((am 7), .inl (xI E, 120, .inl z.hd))], [((am 8), .inl (xI E, 120, .inl z.ps))], [((am 9), .inl (xI E, 120, .inl z.tm))], [((am 10), .inl (xI E, 120, .inl z.mm))], [((am 11), .inl (xJ E, 120, .inr (.inl z.se)))], [((am 12), .inl (xI E, 400, .inl z.tx))]] H locs → ∀ ls : Array Slot, lv_has ls 7 [(0, .ref (am 0)), (1, .int h), (2, .int (b2i b)), (3, .int r), (4, .int (nI k))] → W vp l ve (headSpec wsX9_beside (xrm 0 0)).room s vm ([.ref (am 0), .int h, .int (b2i b)] : List Value).toArray below meth vc H locs 0 0 Q (F0 vm 6 ls []) := by
    intro n
    induction n with
    | zero =>
      intro k r hi hrr hI H locs M ls hl
      refine lv_iload S.1 S.2.1 dX9_beside_6 (lv_at hl 4 rfl) ?_
      refine lv_aload_n S.1 S.2.1 dX9_beside_8 rfl (lv_at hl 0 rfl) ?_
      refine gget S hE M (C := RX9) (T := TX9) (N := 28) (ci := 9) (index := 75) hwi 0 rfl rfl 12 (by decide) (by decide +kernel) rfl dX9_beside_9 ?_
      refine lv_icmp_ge (tgt := 131) S.1 S.2.1 dX9_beside_12 (by decide) (fun _ => ?_) (fun c_ => absurd (nI_le (by omega) (by omega)) c_)
      refine lv_iload_n S.1 S.2.1 dX9_beside_131 rfl (lv_at hl 3 rfl) ?_
      rw [← hQ]
      exact giret S hr hlk M (by rw [hI, bsd]) (rfl) dX9_beside_132
    | succ n ih =>
      intro k r hi hrr hI H locs M ls hl
      refine lv_iload S.1 S.2.1 dX9_beside_6 (lv_at hl 4 rfl) ?_
      refine lv_aload_n S.1 S.2.1 dX9_beside_8 rfl (lv_at hl 0 rfl) ?_
      refine gget S hE M (C := RX9) (T := TX9) (N := 28) (ci := 9) (index := 75) hwi 0 rfl rfl 12 (by decide) (by decide +kernel) rfl dX9_beside_9 ?_
      refine lv_icmp_ge (tgt := 131) S.1 S.2.1 dX9_beside_12 (by decide) (fun c_ => absurd c_ (nI_ge (by omega) (by omega))) (fun _ => ?_)
      refine lv_iload_n S.1 S.2.1 dX9_beside_15 rfl (lv_at hl 2 rfl) ?_
      refine lv_if_eq (tgt := 38) S.1 S.2.1 dX9_beside_16 (by decide) (fun c16 => ?_) (fun c16 => ?_)
      ·
        refine lv_aload_n S.1 S.2.1 dX9_beside_38 rfl (lv_at hl 0 rfl) ?_
        refine gget S hE M (C := RX9) (T := TX9) (N := 28) (ci := 9) (index := 35) hwi 0 rfl rfl 13 (by decide) (by decide +kernel) rfl dX9_beside_39 ?_
        refine lv_iload S.1 S.2.1 dX9_beside_42 (lv_at hl 4 rfl) ?_
        refine giald S hE M 7 rfl (vp_in_nI (by omega) (by omega)) dX9_beside_44 ?_
        refine gtop (x' := z.hd k) (by rw [nI_clamp (by omega)]) ?_
        refine lv_iload_n S.1 S.2.1 dX9_beside_45 rfl (lv_at hl 1 rfl) ?_
        refine lv_icmp_le (tgt := 53) S.1 S.2.1 dX9_beside_46 (by decide) (fun c46 => ?_) (fun c46 => ?_)
        ·
          refine lv_iconst (v := 0) S.1 S.2.1 dX9_beside_53 (by decide) ?_
          refine lv_istore (lv' := [(5, .int 0), (0, .ref (am 0)), (1, .int h), (2, .int (b2i b)), (3, .int r), (4, .int (nI k))]) S.1 S.2.1 dX9_beside_54 hl (by decide) rfl (fun ls hl => ?_)
          refine lv_iload_n S.1 S.2.1 dX9_beside_56 rfl (lv_at hl 4 rfl) ?_
          refine lv_bipush (v := (-9)) S.1 S.2.1 dX9_beside_57 (by decide) ?_
          refine lv_icmp_eq (tgt := 101) S.1 S.2.1 dX9_beside_59 (by decide) (fun c59 => ?_) (fun c59 => ?_)
          ·
            refine lv_iconst (v := 1) S.1 S.2.1 dX9_beside_101 (by decide) ?_
            refine lv_goto (tgt := 106) S.1 S.2.1 dX9_beside_102 (by decide) ?_
            refine lv_istore (lv' := [(6, .int 1), (5, .int 0), (0, .ref (am 0)), (1, .int h), (2, .int (b2i b)), (3, .int r), (4, .int (nI k))]) S.1 S.2.1 dX9_beside_106 hl (by decide) rfl (fun ls hl => ?_)
            refine lv_iload S.1 S.2.1 dX9_beside_108 (lv_at hl 1 rfl) ?_
            refine lv_if_eq (tgt := 123) S.1 S.2.1 dX9_beside_110 (by decide) (fun _ => ?_) (fun c_ => absurd (by decide) c_)
            refine lv_iload_n S.1 S.2.1 dX9_beside_123 rfl (lv_at hl 5 rfl) ?_
            refine lv_istore_n (lv' := [(3, .int r), (6, .int 1), (5, .int 0), (0, .ref (am 0)), (1, .int h), (2, .int (b2i b)), (4, .int (nI k))]) S.1 S.2.1 dX9_beside_124 rfl hl (by decide) rfl (fun ls hl => ?_)
            refine lv_iinc (v := nI (k + 1)) (lv' := [(4, .int (nI (k + 1))), (3, .int r), (6, .int 1), (5, .int 0), (0, .ref (am 0)), (1, .int h), (2, .int (b2i b))]) S.1 S.2.1 dX9_beside_125 hl (k := 6) rfl (nI_1 _) (by decide) rfl (fun ls hl => ?_)
            refine lv_goto (tgt := 6) S.1 S.2.1 dX9_beside_128 (by decide) ?_
            exact ih (k + 1) _ (by omega) (by have q := bst_or (z := z) (h := h) (b := b) hrr; rw [bst, if_pos c16, if_pos c46] at q; exact q) (by rw [hI, bsd, bst, if_pos c16, if_pos c46]) _ _ M ls (lv_sub hl [4, 5, 6, 1, 0] rfl)
          ·
            refine lv_iload_n S.1 S.2.1 dX9_beside_62 rfl (lv_at hl 3 rfl) ?_
            refine lv_if_eq (tgt := 85) S.1 S.2.1 dX9_beside_63 (by decide) (fun _ => ?_) (fun c_ => absurd (c16) c_)
            refine lv_aload_n S.1 S.2.1 dX9_beside_85 rfl (lv_at hl 1 rfl) ?_
            refine gget S hE M (C := RX9) (T := TX9) (N := 28) (ci := 9) (index := 35) hwi 0 rfl rfl 13 (by decide) (by decide +kernel) rfl dX9_beside_86 ?_
            refine lv_iload S.1 S.2.1 dX9_beside_89 (lv_at hl 5 rfl) ?_
            refine giald S hE M 7 rfl (vp_in_nI (by omega) (by omega)) dX9_beside_91 ?_
            refine gtop (x' := z.hd k) (by rw [nI_clamp (by omega)]) ?_
            refine lv_aload_n S.1 S.2.1 dX9_beside_92 rfl (lv_at hl 1 rfl) ?_
            refine gget S hE M (C := RX9) (T := TX9) (N := 28) (ci := 9) (index := 35) hwi 0 rfl rfl 13 (by decide) (by decide +kernel) rfl dX9_beside_93 ?_
            refine lv_iload_n S.1 S.2.1 dX9_beside_96 rfl (lv_at hl 4 rfl) ?_
            refine giald S hE M 7 rfl (or_in hrr c59 (by omega) (by omega)) dX9_beside_97 ?_
            refine lv_icmp_ge (tgt := 105) S.1 S.2.1 dX9_beside_98 (by decide) (fun c98 => ?_) (fun c98 => ?_)
            ·
              refine lv_iconst (v := 0) S.1 S.2.1 dX9_beside_105 (by decide) ?_
              refine lv_istore (lv' := [(6, .int 0), (5, .int 0), (0, .ref (am 0)), (1, .int h), (2, .int (b2i b)), (3, .int r), (4, .int (nI k))]) S.1 S.2.1 dX9_beside_106 hl (by decide) rfl (fun ls hl => ?_)
              refine lv_iload S.1 S.2.1 dX9_beside_108 (lv_at hl 1 rfl) ?_
              refine lv_if_eq (tgt := 123) S.1 S.2.1 dX9_beside_110 (by decide) (fun _ => ?_) (fun c_ => absurd (by decide) c_)
              refine lv_iload_n S.1 S.2.1 dX9_beside_123 rfl (lv_at hl 5 rfl) ?_
              refine lv_istore_n (lv' := [(3, .int r), (6, .int 0), (5, .int 0), (0, .ref (am 0)), (1, .int h), (2, .int (b2i b)), (4, .int (nI k))]) S.1 S.2.1 dX9_beside_124 rfl hl (by decide) rfl (fun ls hl => ?_)
              refine lv_iinc (v := nI (k + 1)) (lv' := [(4, .int (nI (k + 1))), (3, .int r), (6, .int 0), (5, .int 0), (0, .ref (am 0)), (1, .int h), (2, .int (b2i b))]) S.1 S.2.1 dX9_beside_125 hl (k := 6) rfl (nI_1 _) (by decide) rfl (fun ls hl => ?_)
              refine lv_goto (tgt := 6) S.1 S.2.1 dX9_beside_128 (by decide) ?_
              exact ih (k + 1) _ (by omega) (by have q := bst_or (z := z) (h := h) (b := b) hrr; rw [bst, if_pos c16, if_pos c46] at q; exact q) (by rw [hI, bsd, bst, if_pos c16, if_pos c46]) _ _ M ls (lv_sub hl [4, 5, 6, 1, 0] rfl)
            ·
              refine lv_iconst (v := 1) S.1 S.2.1 dX9_beside_101 (by decide) ?_
              refine lv_goto (tgt := 106) S.1 S.2.1 dX9_beside_102 (by decide) ?_
              refine lv_istore (lv' := [(6, .int 1), (5, .int 0), (0, .ref (am 0)), (1, .int h), (2, .int (b2i b)), (3, .int r), (4, .int (nI k))]) S.1 S.2.1 dX9_beside_106 hl (by decide) rfl (fun ls hl => ?_)
              refine lv_iload S.1 S.2.1 dX9_beside_108 (lv_at hl 1 rfl) ?_
              refine lv_if_eq (tgt := 123) S.1 S.2.1 dX9_beside_110 (by decide) (fun _ => ?_) (fun c_ => absurd (by decide) c_)
              refine lv_iload_n S.1 S.2.1 dX9_beside_123 rfl (lv_at hl 5 rfl) ?_
              refine lv_istore_n (lv' := [(3, .int r), (6, .int 1), (5, .int 0), (0, .ref (am 0)), (1, .int h), (2, .int (b2i b)), (4, .int (nI k))]) S.1 S.2.1 dX9_beside_124 rfl hl (by decide) rfl (fun ls hl => ?_)
              refine lv_iinc (v := nI (k + 1)) (lv' := [(4, .int (nI (k + 1))), (3, .int r), (6, .int 1), (5, .int 0), (0, .ref (am 0)), (1, .int h), (2, .int (b2i b))]) S.1 S.2.1 dX9_beside_125 hl (k := 6) rfl (nI_1 _) (by decide) rfl (fun ls hl => ?_)
              refine lv_goto (tgt := 6) S.1 S.2.1 dX9_beside_128 (by decide) ?_
              exact ih (k + 1) _ (by omega) (by have q := bst_or (z := z) (h := h) (b := b) hrr; rw [bst, if_pos c16, if_pos c46] at q; exact q) (by rw [hI, bsd, bst, if_pos c16, if_pos c46]) _ _ M ls (lv_sub hl [4, 5, 6, 1, 0] rfl)
        ·
          refine lv_iconst (v := 1) S.1 S.2.1 dX9_beside_49 (by decide) ?_
          refine lv_goto (tgt := 54) S.1 S.2.1 dX9_beside_50 (by decide) ?_
          refine lv_istore (lv' := [(5, .int 1), (0, .ref (am 0)), (1, .int h), (2, .int (b2i b)), (3, .int r), (4, .int (nI k))]) S.1 S.2.1 dX9_beside_54 hl (by decide) rfl (fun ls hl => ?_)
          refine lv_iload_n S.1 S.2.1 dX9_beside_56 rfl (lv_at hl 4 rfl) ?_
          refine lv_bipush (v := (-9)) S.1 S.2.1 dX9_beside_57 (by decide) ?_
          refine lv_icmp_eq (tgt := 101) S.1 S.2.1 dX9_beside_59 (by decide) (fun c59 => ?_) (fun c59 => ?_)
          ·
            refine lv_iconst (v := 1) S.1 S.2.1 dX9_beside_101 (by decide) ?_
            refine lv_goto (tgt := 106) S.1 S.2.1 dX9_beside_102 (by decide) ?_
            refine lv_istore (lv' := [(6, .int 1), (5, .int 1), (0, .ref (am 0)), (1, .int h), (2, .int (b2i b)), (3, .int r), (4, .int (nI k))]) S.1 S.2.1 dX9_beside_106 hl (by decide) rfl (fun ls hl => ?_)
            refine lv_iload S.1 S.2.1 dX9_beside_108 (lv_at hl 1 rfl) ?_
            refine lv_if_eq (tgt := 123) S.1 S.2.1 dX9_beside_110 (by decide) (fun c_ => absurd c_ (by decide)) (fun _ => ?_)
            refine lv_iload S.1 S.2.1 dX9_beside_113 (lv_at hl 0 rfl) ?_
            refine lv_if_eq (tgt := 123) S.1 S.2.1 dX9_beside_115 (by decide) (fun c_ => absurd c_ (by decide)) (fun _ => ?_)
            refine lv_iload S.1 S.2.1 dX9_beside_118 (lv_at hl 6 rfl) ?_
            refine lv_goto (tgt := 124) S.1 S.2.1 dX9_beside_120 (by decide) ?_
            refine lv_istore_n (lv' := [(3, .int (nI k)), (6, .int 1), (5, .int 1), (0, .ref (am 0)), (1, .int h), (2, .int (b2i b)), (4, .int (nI k))]) S.1 S.2.1 dX9_beside_124 rfl hl (by decide) rfl (fun ls hl => ?_)
            refine lv_iinc (v := nI (k + 1)) (lv' := [(4, .int (nI (k + 1))), (3, .int (nI k)), (6, .int 1), (5, .int 1), (0, .ref (am 0)), (1, .int h), (2, .int (b2i b))]) S.1 S.2.1 dX9_beside_125 hl (k := 6) rfl (nI_1 _) (by decide) rfl (fun ls hl => ?_)
            refine lv_goto (tgt := 6) S.1 S.2.1 dX9_beside_128 (by decide) ?_
            exact ih (k + 1) _ (by omega) (by have q := bst_or (z := z) (h := h) (b := b) hrr; rw [bst, if_pos c16, if_neg c46, if_pos c59] at q; exact q) (by rw [hI, bsd, bst, if_pos c16, if_neg c46, if_pos c59]) _ _ M ls (lv_sub hl [4, 5, 6, 1, 0] rfl)
          ·
            refine lv_iload_n S.1 S.2.1 dX9_beside_62 rfl (lv_at hl 3 rfl) ?_
            refine lv_if_eq (tgt := 85) S.1 S.2.1 dX9_beside_63 (by decide) (fun _ => ?_) (fun c_ => absurd (c16) c_)
            refine lv_aload_n S.1 S.2.1 dX9_beside_85 rfl (lv_at hl 1 rfl) ?_
            refine gget S hE M (C := RX9) (T := TX9) (N := 28) (ci := 9) (index := 35) hwi 0 rfl rfl 13 (by decide) (by decide +kernel) rfl dX9_beside_86 ?_
            refine lv_iload S.1 S.2.1 dX9_beside_89 (lv_at hl 5 rfl) ?_
            refine giald S hE M 7 rfl (vp_in_nI (by omega) (by omega)) dX9_beside_91 ?_
            refine gtop (x' := z.hd k) (by rw [nI_clamp (by omega)]) ?_
            refine lv_aload_n S.1 S.2.1 dX9_beside_92 rfl (lv_at hl 1 rfl) ?_
            refine gget S hE M (C := RX9) (T := TX9) (N := 28) (ci := 9) (index := 35) hwi 0 rfl rfl 13 (by decide) (by decide +kernel) rfl dX9_beside_93 ?_
            refine lv_iload_n S.1 S.2.1 dX9_beside_96 rfl (lv_at hl 4 rfl) ?_
            refine giald S hE M 7 rfl (or_in hrr c59 (by omega) (by omega)) dX9_beside_97 ?_
            refine lv_icmp_ge (tgt := 105) S.1 S.2.1 dX9_beside_98 (by decide) (fun c98 => ?_) (fun c98 => ?_)
            ·
              refine lv_iconst (v := 0) S.1 S.2.1 dX9_beside_105 (by decide) ?_
              refine lv_istore (lv' := [(6, .int 0), (5, .int 1), (0, .ref (am 0)), (1, .int h), (2, .int (b2i b)), (3, .int r), (4, .int (nI k))]) S.1 S.2.1 dX9_beside_106 hl (by decide) rfl (fun ls hl => ?_)
              refine lv_iload S.1 S.2.1 dX9_beside_108 (lv_at hl 1 rfl) ?_
              refine lv_if_eq (tgt := 123) S.1 S.2.1 dX9_beside_110 (by decide) (fun c_ => absurd c_ (by decide)) (fun _ => ?_)
              refine lv_iload S.1 S.2.1 dX9_beside_113 (lv_at hl 0 rfl) ?_
              refine lv_if_eq (tgt := 123) S.1 S.2.1 dX9_beside_115 (by decide) (fun _ => ?_) (fun c_ => absurd (by decide) c_)
              refine lv_iload_n S.1 S.2.1 dX9_beside_123 rfl (lv_at hl 5 rfl) ?_
              refine lv_istore_n (lv' := [(3, .int r), (6, .int 0), (5, .int 1), (0, .ref (am 0)), (1, .int h), (2, .int (b2i b)), (4, .int (nI k))]) S.1 S.2.1 dX9_beside_124 rfl hl (by decide) rfl (fun ls hl => ?_)
              refine lv_iinc (v := nI (k + 1)) (lv' := [(4, .int (nI (k + 1))), (3, .int r), (6, .int 0), (5, .int 1), (0, .ref (am 0)), (1, .int h), (2, .int (b2i b))]) S.1 S.2.1 dX9_beside_125 hl (k := 6) rfl (nI_1 _) (by decide) rfl (fun ls hl => ?_)
              refine lv_goto (tgt := 6) S.1 S.2.1 dX9_beside_128 (by decide) ?_
              exact ih (k + 1) _ (by omega) (by have q := bst_or (z := z) (h := h) (b := b) hrr; rw [bst, if_pos c16, if_neg c46, if_neg c59, if_pos c98] at q; exact q) (by rw [hI, bsd, bst, if_pos c16, if_neg c46, if_neg c59, if_pos c98]) _ _ M ls (lv_sub hl [4, 5, 6, 1, 0] rfl)
            ·
              refine lv_iconst (v := 1) S.1 S.2.1 dX9_beside_101 (by decide) ?_
              refine lv_goto (tgt := 106) S.1 S.2.1 dX9_beside_102 (by decide) ?_
              refine lv_istore (lv' := [(6, .int 1), (5, .int 1), (0, .ref (am 0)), (1, .int h), (2, .int (b2i b)), (3, .int r), (4, .int (nI k))]) S.1 S.2.1 dX9_beside_106 hl (by decide) rfl (fun ls hl => ?_)
              refine lv_iload S.1 S.2.1 dX9_beside_108 (lv_at hl 1 rfl) ?_
              refine lv_if_eq (tgt := 123) S.1 S.2.1 dX9_beside_110 (by decide) (fun c_ => absurd c_ (by decide)) (fun _ => ?_)
              refine lv_iload S.1 S.2.1 dX9_beside_113 (lv_at hl 0 rfl) ?_
              refine lv_if_eq (tgt := 123) S.1 S.2.1 dX9_beside_115 (by decide) (fun c_ => absurd c_ (by decide)) (fun _ => ?_)
              refine lv_iload S.1 S.2.1 dX9_beside_118 (lv_at hl 6 rfl) ?_
              refine lv_goto (tgt := 124) S.1 S.2.1 dX9_beside_120 (by decide) ?_
              refine lv_istore_n (lv' := [(3, .int (nI k)), (6, .int 1), (5, .int 1), (0, .ref (am 0)), (1, .int h), (2, .int (b2i b)), (4, .int (nI k))]) S.1 S.2.1 dX9_beside_124 rfl hl (by decide) rfl (fun ls hl => ?_)
              refine lv_iinc (v := nI (k + 1)) (lv' := [(4, .int (nI (k + 1))), (3, .int (nI k)), (6, .int 1), (5, .int 1), (0, .ref (am 0)), (1, .int h), (2, .int (b2i b))]) S.1 S.2.1 dX9_beside_125 hl (k := 6) rfl (nI_1 _) (by decide) rfl (fun ls hl => ?_)
              refine lv_goto (tgt := 6) S.1 S.2.1 dX9_beside_128 (by decide) ?_
              exact ih (k + 1) _ (by omega) (by have q := bst_or (z := z) (h := h) (b := b) hrr; rw [bst, if_pos c16, if_neg c46, if_neg c59, if_neg c98] at q; exact q) (by rw [hI, bsd, bst, if_pos c16, if_neg c46, if_neg c59, if_neg c98]) _ _ M ls (lv_sub hl [4, 5, 6, 1, 0] rfl)
      ·
        refine lv_aload_n S.1 S.2.1 dX9_beside_19 rfl (lv_at hl 0 rfl) ?_
        refine gget S hE M (C := RX9) (T := TX9) (N := 28) (ci := 9) (index := 35) hwi 0 rfl rfl 13 (by decide) (by decide +kernel) rfl dX9_beside_20 ?_
        refine lv_iload S.1 S.2.1 dX9_beside_23 (lv_at hl 4 rfl) ?_
        refine giald S hE M 7 rfl (vp_in_nI (by omega) (by omega)) dX9_beside_25 ?_
        refine gtop (x' := z.hd k) (by rw [nI_clamp (by omega)]) ?_
        refine lv_iload_n S.1 S.2.1 dX9_beside_26 rfl (lv_at hl 1 rfl) ?_
        refine lv_icmp_ge (tgt := 34) S.1 S.2.1 dX9_beside_27 (by decide) (fun c27 => ?_) (fun c27 => ?_)
        ·
          refine lv_iconst (v := 0) S.1 S.2.1 dX9_beside_34 (by decide) ?_
          refine lv_goto (tgt := 54) S.1 S.2.1 dX9_beside_35 (by decide) ?_
          refine lv_istore (lv' := [(5, .int 0), (0, .ref (am 0)), (1, .int h), (2, .int (b2i b)), (3, .int r), (4, .int (nI k))]) S.1 S.2.1 dX9_beside_54 hl (by decide) rfl (fun ls hl => ?_)
          refine lv_iload_n S.1 S.2.1 dX9_beside_56 rfl (lv_at hl 4 rfl) ?_
          refine lv_bipush (v := (-9)) S.1 S.2.1 dX9_beside_57 (by decide) ?_
          refine lv_icmp_eq (tgt := 101) S.1 S.2.1 dX9_beside_59 (by decide) (fun c59 => ?_) (fun c59 => ?_)
          ·
            refine lv_iconst (v := 1) S.1 S.2.1 dX9_beside_101 (by decide) ?_
            refine lv_goto (tgt := 106) S.1 S.2.1 dX9_beside_102 (by decide) ?_
            refine lv_istore (lv' := [(6, .int 1), (5, .int 0), (0, .ref (am 0)), (1, .int h), (2, .int (b2i b)), (3, .int r), (4, .int (nI k))]) S.1 S.2.1 dX9_beside_106 hl (by decide) rfl (fun ls hl => ?_)
            refine lv_iload S.1 S.2.1 dX9_beside_108 (lv_at hl 1 rfl) ?_
            refine lv_if_eq (tgt := 123) S.1 S.2.1 dX9_beside_110 (by decide) (fun _ => ?_) (fun c_ => absurd (by decide) c_)
            refine lv_iload_n S.1 S.2.1 dX9_beside_123 rfl (lv_at hl 5 rfl) ?_
            refine lv_istore_n (lv' := [(3, .int r), (6, .int 1), (5, .int 0), (0, .ref (am 0)), (1, .int h), (2, .int (b2i b)), (4, .int (nI k))]) S.1 S.2.1 dX9_beside_124 rfl hl (by decide) rfl (fun ls hl => ?_)
            refine lv_iinc (v := nI (k + 1)) (lv' := [(4, .int (nI (k + 1))), (3, .int r), (6, .int 1), (5, .int 0), (0, .ref (am 0)), (1, .int h), (2, .int (b2i b))]) S.1 S.2.1 dX9_beside_125 hl (k := 6) rfl (nI_1 _) (by decide) rfl (fun ls hl => ?_)
            refine lv_goto (tgt := 6) S.1 S.2.1 dX9_beside_128 (by decide) ?_
            exact ih (k + 1) _ (by omega) (by have q := bst_or (z := z) (h := h) (b := b) hrr; rw [bst, if_neg c16, if_pos c27] at q; exact q) (by rw [hI, bsd, bst, if_neg c16, if_pos c27]) _ _ M ls (lv_sub hl [4, 5, 6, 1, 0] rfl)
          ·
            refine lv_iload_n S.1 S.2.1 dX9_beside_62 rfl (lv_at hl 3 rfl) ?_
            refine lv_if_eq (tgt := 85) S.1 S.2.1 dX9_beside_63 (by decide) (fun c_ => absurd c_ (c16)) (fun _ => ?_)
            refine lv_aload_n S.1 S.2.1 dX9_beside_66 rfl (lv_at hl 1 rfl) ?_
            refine gget S hE M (C := RX9) (T := TX9) (N := 28) (ci := 9) (index := 35) hwi 0 rfl rfl 13 (by decide) (by decide +kernel) rfl dX9_beside_67 ?_
            refine lv_iload S.1 S.2.1 dX9_beside_70 (lv_at hl 5 rfl) ?_
            refine giald S hE M 7 rfl (vp_in_nI (by omega) (by omega)) dX9_beside_72 ?_
            refine gtop (x' := z.hd k) (by rw [nI_clamp (by omega)]) ?_
            refine lv_aload_n S.1 S.2.1 dX9_beside_73 rfl (lv_at hl 1 rfl) ?_
            refine gget S hE M (C := RX9) (T := TX9) (N := 28) (ci := 9) (index := 35) hwi 0 rfl rfl 13 (by decide) (by decide +kernel) rfl dX9_beside_74 ?_
            refine lv_iload_n S.1 S.2.1 dX9_beside_77 rfl (lv_at hl 4 rfl) ?_
            refine giald S hE M 7 rfl (or_in hrr c59 (by omega) (by omega)) dX9_beside_78 ?_
            refine lv_icmp_le (tgt := 105) S.1 S.2.1 dX9_beside_79 (by decide) (fun c79 => ?_) (fun c79 => ?_)
            ·
              refine lv_iconst (v := 0) S.1 S.2.1 dX9_beside_105 (by decide) ?_
              refine lv_istore (lv' := [(6, .int 0), (5, .int 0), (0, .ref (am 0)), (1, .int h), (2, .int (b2i b)), (3, .int r), (4, .int (nI k))]) S.1 S.2.1 dX9_beside_106 hl (by decide) rfl (fun ls hl => ?_)
              refine lv_iload S.1 S.2.1 dX9_beside_108 (lv_at hl 1 rfl) ?_
              refine lv_if_eq (tgt := 123) S.1 S.2.1 dX9_beside_110 (by decide) (fun _ => ?_) (fun c_ => absurd (by decide) c_)
              refine lv_iload_n S.1 S.2.1 dX9_beside_123 rfl (lv_at hl 5 rfl) ?_
              refine lv_istore_n (lv' := [(3, .int r), (6, .int 0), (5, .int 0), (0, .ref (am 0)), (1, .int h), (2, .int (b2i b)), (4, .int (nI k))]) S.1 S.2.1 dX9_beside_124 rfl hl (by decide) rfl (fun ls hl => ?_)
              refine lv_iinc (v := nI (k + 1)) (lv' := [(4, .int (nI (k + 1))), (3, .int r), (6, .int 0), (5, .int 0), (0, .ref (am 0)), (1, .int h), (2, .int (b2i b))]) S.1 S.2.1 dX9_beside_125 hl (k := 6) rfl (nI_1 _) (by decide) rfl (fun ls hl => ?_)
              refine lv_goto (tgt := 6) S.1 S.2.1 dX9_beside_128 (by decide) ?_
              exact ih (k + 1) _ (by omega) (by have q := bst_or (z := z) (h := h) (b := b) hrr; rw [bst, if_neg c16, if_pos c27] at q; exact q) (by rw [hI, bsd, bst, if_neg c16, if_pos c27]) _ _ M ls (lv_sub hl [4, 5, 6, 1, 0] rfl)
            ·
              refine lv_goto (tgt := 101) S.1 S.2.1 dX9_beside_82 (by decide) ?_
              refine lv_iconst (v := 1) S.1 S.2.1 dX9_beside_101 (by decide) ?_
              refine lv_goto (tgt := 106) S.1 S.2.1 dX9_beside_102 (by decide) ?_
              refine lv_istore (lv' := [(6, .int 1), (5, .int 0), (0, .ref (am 0)), (1, .int h), (2, .int (b2i b)), (3, .int r), (4, .int (nI k))]) S.1 S.2.1 dX9_beside_106 hl (by decide) rfl (fun ls hl => ?_)
              refine lv_iload S.1 S.2.1 dX9_beside_108 (lv_at hl 1 rfl) ?_
              refine lv_if_eq (tgt := 123) S.1 S.2.1 dX9_beside_110 (by decide) (fun _ => ?_) (fun c_ => absurd (by decide) c_)
              refine lv_iload_n S.1 S.2.1 dX9_beside_123 rfl (lv_at hl 5 rfl) ?_
              refine lv_istore_n (lv' := [(3, .int r), (6, .int 1), (5, .int 0), (0, .ref (am 0)), (1, .int h), (2, .int (b2i b)), (4, .int (nI k))]) S.1 S.2.1 dX9_beside_124 rfl hl (by decide) rfl (fun ls hl => ?_)
              refine lv_iinc (v := nI (k + 1)) (lv' := [(4, .int (nI (k + 1))), (3, .int r), (6, .int 1), (5, .int 0), (0, .ref (am 0)), (1, .int h), (2, .int (b2i b))]) S.1 S.2.1 dX9_beside_125 hl (k := 6) rfl (nI_1 _) (by decide) rfl (fun ls hl => ?_)
              refine lv_goto (tgt := 6) S.1 S.2.1 dX9_beside_128 (by decide) ?_
              exact ih (k + 1) _ (by omega) (by have q := bst_or (z := z) (h := h) (b := b) hrr; rw [bst, if_neg c16, if_pos c27] at q; exact q) (by rw [hI, bsd, bst, if_neg c16, if_pos c27]) _ _ M ls (lv_sub hl [4, 5, 6, 1, 0] rfl)
        ·
          refine lv_iconst (v := 1) S.1 S.2.1 dX9_beside_30 (by decide) ?_
          refine lv_goto (tgt := 54) S.1 S.2.1 dX9_beside_31 (by decide) ?_
          refine lv_istore (lv' := [(5, .int 1), (0, .ref (am 0)), (1, .int h), (2, .int (b2i b)), (3, .int r), (4, .int (nI k))]) S.1 S.2.1 dX9_beside_54 hl (by decide) rfl (fun ls hl => ?_)
          refine lv_iload_n S.1 S.2.1 dX9_beside_56 rfl (lv_at hl 4 rfl) ?_
          refine lv_bipush (v := (-9)) S.1 S.2.1 dX9_beside_57 (by decide) ?_
          refine lv_icmp_eq (tgt := 101) S.1 S.2.1 dX9_beside_59 (by decide) (fun c59 => ?_) (fun c59 => ?_)
          ·
            refine lv_iconst (v := 1) S.1 S.2.1 dX9_beside_101 (by decide) ?_
            refine lv_goto (tgt := 106) S.1 S.2.1 dX9_beside_102 (by decide) ?_
            refine lv_istore (lv' := [(6, .int 1), (5, .int 1), (0, .ref (am 0)), (1, .int h), (2, .int (b2i b)), (3, .int r), (4, .int (nI k))]) S.1 S.2.1 dX9_beside_106 hl (by decide) rfl (fun ls hl => ?_)
            refine lv_iload S.1 S.2.1 dX9_beside_108 (lv_at hl 1 rfl) ?_
            refine lv_if_eq (tgt := 123) S.1 S.2.1 dX9_beside_110 (by decide) (fun c_ => absurd c_ (by decide)) (fun _ => ?_)
            refine lv_iload S.1 S.2.1 dX9_beside_113 (lv_at hl 0 rfl) ?_
            refine lv_if_eq (tgt := 123) S.1 S.2.1 dX9_beside_115 (by decide) (fun c_ => absurd c_ (by decide)) (fun _ => ?_)
            refine lv_iload S.1 S.2.1 dX9_beside_118 (lv_at hl 6 rfl) ?_
            refine lv_goto (tgt := 124) S.1 S.2.1 dX9_beside_120 (by decide) ?_
            refine lv_istore_n (lv' := [(3, .int (nI k)), (6, .int 1), (5, .int 1), (0, .ref (am 0)), (1, .int h), (2, .int (b2i b)), (4, .int (nI k))]) S.1 S.2.1 dX9_beside_124 rfl hl (by decide) rfl (fun ls hl => ?_)
            refine lv_iinc (v := nI (k + 1)) (lv' := [(4, .int (nI (k + 1))), (3, .int (nI k)), (6, .int 1), (5, .int 1), (0, .ref (am 0)), (1, .int h), (2, .int (b2i b))]) S.1 S.2.1 dX9_beside_125 hl (k := 6) rfl (nI_1 _) (by decide) rfl (fun ls hl => ?_)
            refine lv_goto (tgt := 6) S.1 S.2.1 dX9_beside_128 (by decide) ?_
            exact ih (k + 1) _ (by omega) (by have q := bst_or (z := z) (h := h) (b := b) hrr; rw [bst, if_neg c16, if_neg c27, if_pos c59] at q; exact q) (by rw [hI, bsd, bst, if_neg c16, if_neg c27, if_pos c59]) _ _ M ls (lv_sub hl [4, 5, 6, 1, 0] rfl)
          ·
            refine lv_iload_n S.1 S.2.1 dX9_beside_62 rfl (lv_at hl 3 rfl) ?_
            refine lv_if_eq (tgt := 85) S.1 S.2.1 dX9_beside_63 (by decide) (fun c_ => absurd c_ (c16)) (fun _ => ?_)
            refine lv_aload_n S.1 S.2.1 dX9_beside_66 rfl (lv_at hl 1 rfl) ?_
            refine gget S hE M (C := RX9) (T := TX9) (N := 28) (ci := 9) (index := 35) hwi 0 rfl rfl 13 (by decide) (by decide +kernel) rfl dX9_beside_67 ?_
            refine lv_iload S.1 S.2.1 dX9_beside_70 (lv_at hl 5 rfl) ?_
            refine giald S hE M 7 rfl (vp_in_nI (by omega) (by omega)) dX9_beside_72 ?_
            refine gtop (x' := z.hd k) (by rw [nI_clamp (by omega)]) ?_
            refine lv_aload_n S.1 S.2.1 dX9_beside_73 rfl (lv_at hl 1 rfl) ?_
            refine gget S hE M (C := RX9) (T := TX9) (N := 28) (ci := 9) (index := 35) hwi 0 rfl rfl 13 (by decide) (by decide +kernel) rfl dX9_beside_74 ?_
            refine lv_iload_n S.1 S.2.1 dX9_beside_77 rfl (lv_at hl 4 rfl) ?_
            refine giald S hE M 7 rfl (or_in hrr c59 (by omega) (by omega)) dX9_beside_78 ?_
            refine lv_icmp_le (tgt := 105) S.1 S.2.1 dX9_beside_79 (by decide) (fun c79 => ?_) (fun c79 => ?_)
            ·
              refine lv_iconst (v := 0) S.1 S.2.1 dX9_beside_105 (by decide) ?_
              refine lv_istore (lv' := [(6, .int 0), (5, .int 1), (0, .ref (am 0)), (1, .int h), (2, .int (b2i b)), (3, .int r), (4, .int (nI k))]) S.1 S.2.1 dX9_beside_106 hl (by decide) rfl (fun ls hl => ?_)
              refine lv_iload S.1 S.2.1 dX9_beside_108 (lv_at hl 1 rfl) ?_
              refine lv_if_eq (tgt := 123) S.1 S.2.1 dX9_beside_110 (by decide) (fun c_ => absurd c_ (by decide)) (fun _ => ?_)
              refine lv_iload S.1 S.2.1 dX9_beside_113 (lv_at hl 0 rfl) ?_
              refine lv_if_eq (tgt := 123) S.1 S.2.1 dX9_beside_115 (by decide) (fun _ => ?_) (fun c_ => absurd (by decide) c_)
              refine lv_iload_n S.1 S.2.1 dX9_beside_123 rfl (lv_at hl 5 rfl) ?_
              refine lv_istore_n (lv' := [(3, .int r), (6, .int 0), (5, .int 1), (0, .ref (am 0)), (1, .int h), (2, .int (b2i b)), (4, .int (nI k))]) S.1 S.2.1 dX9_beside_124 rfl hl (by decide) rfl (fun ls hl => ?_)
              refine lv_iinc (v := nI (k + 1)) (lv' := [(4, .int (nI (k + 1))), (3, .int r), (6, .int 0), (5, .int 1), (0, .ref (am 0)), (1, .int h), (2, .int (b2i b))]) S.1 S.2.1 dX9_beside_125 hl (k := 6) rfl (nI_1 _) (by decide) rfl (fun ls hl => ?_)
              refine lv_goto (tgt := 6) S.1 S.2.1 dX9_beside_128 (by decide) ?_
              exact ih (k + 1) _ (by omega) (by have q := bst_or (z := z) (h := h) (b := b) hrr; rw [bst, if_neg c16, if_neg c27, if_neg c59, if_pos c79] at q; exact q) (by rw [hI, bsd, bst, if_neg c16, if_neg c27, if_neg c59, if_pos c79]) _ _ M ls (lv_sub hl [4, 5, 6, 1, 0] rfl)
            ·
              refine lv_goto (tgt := 101) S.1 S.2.1 dX9_beside_82 (by decide) ?_
              refine lv_iconst (v := 1) S.1 S.2.1 dX9_beside_101 (by decide) ?_
              refine lv_goto (tgt := 106) S.1 S.2.1 dX9_beside_102 (by decide) ?_
              refine lv_istore (lv' := [(6, .int 1), (5, .int 1), (0, .ref (am 0)), (1, .int h), (2, .int (b2i b)), (3, .int r), (4, .int (nI k))]) S.1 S.2.1 dX9_beside_106 hl (by decide) rfl (fun ls hl => ?_)
              refine lv_iload S.1 S.2.1 dX9_beside_108 (lv_at hl 1 rfl) ?_
              refine lv_if_eq (tgt := 123) S.1 S.2.1 dX9_beside_110 (by decide) (fun c_ => absurd c_ (by decide)) (fun _ => ?_)
              refine lv_iload S.1 S.2.1 dX9_beside_113 (lv_at hl 0 rfl) ?_
              refine lv_if_eq (tgt := 123) S.1 S.2.1 dX9_beside_115 (by decide) (fun c_ => absurd c_ (by decide)) (fun _ => ?_)
              refine lv_iload S.1 S.2.1 dX9_beside_118 (lv_at hl 6 rfl) ?_
              refine lv_goto (tgt := 124) S.1 S.2.1 dX9_beside_120 (by decide) ?_
              refine lv_istore_n (lv' := [(3, .int (nI k)), (6, .int 1), (5, .int 1), (0, .ref (am 0)), (1, .int h), (2, .int (b2i b)), (4, .int (nI k))]) S.1 S.2.1 dX9_beside_124 rfl hl (by decide) rfl (fun ls hl => ?_)
              refine lv_iinc (v := nI (k + 1)) (lv' := [(4, .int (nI (k + 1))), (3, .int (nI k)), (6, .int 1), (5, .int 1), (0, .ref (am 0)), (1, .int h), (2, .int (b2i b))]) S.1 S.2.1 dX9_beside_125 hl (k := 6) rfl (nI_1 _) (by decide) rfl (fun ls hl => ?_)
              refine lv_goto (tgt := 6) S.1 S.2.1 dX9_beside_128 (by decide) ?_
              exact ih (k + 1) _ (by omega) (by have q := bst_or (z := z) (h := h) (b := b) hrr; rw [bst, if_neg c16, if_neg c27, if_neg c59, if_neg c79] at q; exact q) (by rw [hI, bsd, bst, if_neg c16, if_neg c27, if_neg c59, if_neg c79]) _ _ M ls (lv_sub hl [4, 5, 6, 1, 0] rfl)
  refine lv_bipush (v := (-9)) S.1 S.2.1 dX9_beside_0 (by decide) ?_
  refine lv_istore_n (lv' := [(3, .int (-9)), (0, .ref (am 0)), (1, .int h), (2, .int (b2i b))]) S.1 S.2.1 dX9_beside_2 rfl hl (by decide) rfl (fun ls hl => ?_)
  refine lv_iconst (v := 0) S.1 S.2.1 dX9_beside_3 (by decide) ?_
  refine lv_istore (lv' := [(4, .int 0), (3, .int (-9)), (0, .ref (am 0)), (1, .int h), (2, .int (b2i b))]) S.1 S.2.1 dX9_beside_4 hl (by decide) rfl (fun ls hl => ?_)
  exact hL z.sp 0 (-9) (by omega) (Or.inl rfl) rfl _ _ M ls (lv_sub hl [2, 3, 4, 1, 0] rfl)

set_option maxHeartbeats 4000000 in
set_option maxRecDepth 100000 in
theorem c_X9_timeFor (l : Launch) (E : xE) (am : Nat → Nat) (z : MdS) (h : Int32) (p : Int32) (hc : z.ct ≤ 120) (hfr : ∀ a, a < z.ct → ∃ m, m < 300 ∧ z.fr a = nI m) (hs : z.sp ≤ 120) (hp : 0 < z.ct) : mI l yX9_timeFor wsX9_timeFor (xrm 4 103) E [.ref (am 0), .int h, .int p] (modGs E am z) (z.timeFor h p) (modGs E am (z.wsh h)) := by
  intro sz
  refine Met.ofW (cc := cX9_timeFor) (maxL := 6) (ret := (some .int)) (by decide +kernel) rfl ?_
  intro vp ve s vm args below meth vc s₁ B hml hv
  obtain ⟨rfl, S, hr, hlk, hnm, A, hA, hE, M⟩ := genter B hml hv
  rw [hA]
  obtain ⟨ls, hfr, hl⟩ := gst (m := vm) (as := [.ref (am 0), .int h, .int p]) (n := 6) (Nat.le_of_ble_eq_true rfl)
  rw [hfr]
  clear hfr hA
  have hl : lv_has ls 6 [(0, .ref (am 0)), (1, .int h), (2, .int p)] := hl
  have M : gM E A s.heap [[(am 0, .inr (9, [.ref (am 1), .ref (am 2), .int (nI z.tn), .int z.mn, .int z.mk, .int z.mg, .int z.jp, .int (nI z.ct), .ref (am 3), .ref (am 4), .ref (am 5), .ref (am 6), .int (nI z.sp), .ref (am 7), .ref (am 8), .ref (am 9), .ref (am 10), .int (b2i z.on), .int z.ba, .int z.bg, .ref (am 11), .long z.up, .long z.by_, .int z.co, .int z.po, .int z.gr, .ref (am 12), .int (nI z.wr)]))], [((am 1), .inl (xI E, 25, .inl z.sg))], [((am 2), .inl (xI E, 8, .inl z.tp))], [((am 3), .inl (xI E, 120, .inl z.fr))], [((am 4), .inl (xI E, 120, .inl z.wh))], [((am 5), .inl (xI E, 120, .inl z.sn))], [((am 6), .inl (xI E, 300, .inl z.ca))], [((am 7), .inl (xI E, 120, .inl z.hd))], [((am 8), .inl (xI E, 120, .inl z.ps))], [((am 9), .inl (xI E, 120, .inl z.tm))], [((am 10), .inl (xI E, 120, .inl z.mm))], [((am 11), .inl (xJ E, 120, .inr (.inl z.se)))], [((am 12), .inl (xI E, 400, .inl z.tx))]] s.heap [] := M
  have hwi : ∀ w ∈ u_ws RX9 TX9 28, w ∈ wsX9_timeFor := by decide +kernel
  have hs2 : (z.wsh h).sp ≤ 120 := by rw [wsh_sp]; exact hs
  refine lv_aload_n S.1 S.2.1 dX9_timeFor_0 rfl (lv_at hl 0 rfl) ?_
  refine lv_iload_n S.1 S.2.1 dX9_timeFor_1 rfl (lv_at hl 1 rfl) ?_
  refine gcalli (L := []) (Mid := modGs E am z) (Rr := []) (Mid' := modGs E am (z.wsh h)) hE M rfl (rfl) (rfl) (fun hgH => va_runV (As := [.int h]) (rest := []) S (c_X9_wishFor l E am z h  hc hfr hp _) (cwV 1 S.2.2.2.2 gX9_timeFor_X9_wishFor rfl rfl rfl kd_X9_wishFor ⟨Nat.le_of_ble_eq_true rfl, Nat.le_of_ble_eq_true rfl⟩) (hgH.V hE (show vwCl[9]? = some (RX9, TX9, 28) from rfl) rfl) rfl rfl hl.1 rfl (lv_room (Nat.le_of_ble_eq_true rfl)) dX9_timeFor_2 ⟨Nat.zero_le _, Nat.zero_le _⟩) (fun H locs M => ?_)
  have M : gM E A s.heap [[(am 0, .inr (9, [.ref (am 1), .ref (am 2), .int (nI (z.wsh h).tn), .int ((z.wsh h).mn), .int ((z.wsh h).mk), .int ((z.wsh h).mg), .int ((z.wsh h).jp), .int (nI (z.wsh h).ct), .ref (am 3), .ref (am 4), .ref (am 5), .ref (am 6), .int (nI (z.wsh h).sp), .ref (am 7), .ref (am 8), .ref (am 9), .ref (am 10), .int (b2i (z.wsh h).on), .int ((z.wsh h).ba), .int ((z.wsh h).bg), .ref (am 11), .long ((z.wsh h).up), .long ((z.wsh h).by_), .int ((z.wsh h).co), .int ((z.wsh h).po), .int ((z.wsh h).gr), .ref (am 12), .int (nI (z.wsh h).wr)]))], [((am 1), .inl (xI E, 25, .inl ((z.wsh h).sg)))], [((am 2), .inl (xI E, 8, .inl ((z.wsh h).tp)))], [((am 3), .inl (xI E, 120, .inl ((z.wsh h).fr)))], [((am 4), .inl (xI E, 120, .inl ((z.wsh h).wh)))], [((am 5), .inl (xI E, 120, .inl ((z.wsh h).sn)))], [((am 6), .inl (xI E, 300, .inl ((z.wsh h).ca)))], [((am 7), .inl (xI E, 120, .inl ((z.wsh h).hd)))], [((am 8), .inl (xI E, 120, .inl ((z.wsh h).ps)))], [((am 9), .inl (xI E, 120, .inl ((z.wsh h).tm)))], [((am 10), .inl (xI E, 120, .inl ((z.wsh h).mm)))], [((am 11), .inl (xJ E, 120, .inr (.inl ((z.wsh h).se))))], [((am 12), .inl (xI E, 400, .inl ((z.wsh h).tx)))]] H locs := M
  refine lv_aload_n S.1 S.2.1 dX9_timeFor_5 rfl (lv_at hl 0 rfl) ?_
  refine gget S hE M (C := RX9) (T := TX9) (N := 28) (ci := 9) (index := 72) hwi 0 rfl rfl 5 (by decide) (by decide +kernel) rfl dX9_timeFor_6 ?_
  refine lv_iadd S.1 S.2.1 dX9_timeFor_9 ?_
  refine lv_istore_n (lv' := [(3, .int (((z.wsh h).wRR) + ((z.wsh h).mg))), (0, .ref (am 0)), (1, .int h), (2, .int p)]) S.1 S.2.1 dX9_timeFor_10 rfl hl (by decide) rfl (fun ls hl => ?_)
  refine lv_aload_n S.1 S.2.1 dX9_timeFor_11 rfl (lv_at hl 1 rfl) ?_
  refine lv_iload_n S.1 S.2.1 dX9_timeFor_12 rfl (lv_at hl 2 rfl) ?_
  refine lv_iconst (v := 1) S.1 S.2.1 dX9_timeFor_13 (by decide) ?_
  refine gcalli (L := []) (Mid := modGs E am (z.wsh h)) (Rr := []) (Mid' := modGs E am (z.wsh h)) hE M rfl (rfl) (rfl) (fun hgH => va_runV (As := [.int h, .int 1]) (rest := []) S (c_X9_beside l E am (z.wsh h) h true  hs2 _) (cwV 2 S.2.2.2.2 gX9_timeFor_X9_beside rfl rfl rfl kd_X9_beside ⟨Nat.le_of_ble_eq_true rfl, Nat.le_of_ble_eq_true rfl⟩) (hgH.V hE (show vwCl[9]? = some (RX9, TX9, 28) from rfl) rfl) rfl rfl hl.1 rfl (lv_room (Nat.le_of_ble_eq_true rfl)) dX9_timeFor_14 ⟨Nat.zero_le _, Nat.zero_le _⟩) (fun H locs M => ?_)
  have M : gM E A s.heap [[(am 0, .inr (9, [.ref (am 1), .ref (am 2), .int (nI (z.wsh h).tn), .int ((z.wsh h).mn), .int ((z.wsh h).mk), .int ((z.wsh h).mg), .int ((z.wsh h).jp), .int (nI (z.wsh h).ct), .ref (am 3), .ref (am 4), .ref (am 5), .ref (am 6), .int (nI (z.wsh h).sp), .ref (am 7), .ref (am 8), .ref (am 9), .ref (am 10), .int (b2i (z.wsh h).on), .int ((z.wsh h).ba), .int ((z.wsh h).bg), .ref (am 11), .long ((z.wsh h).up), .long ((z.wsh h).by_), .int ((z.wsh h).co), .int ((z.wsh h).po), .int ((z.wsh h).gr), .ref (am 12), .int (nI (z.wsh h).wr)]))], [((am 1), .inl (xI E, 25, .inl ((z.wsh h).sg)))], [((am 2), .inl (xI E, 8, .inl ((z.wsh h).tp)))], [((am 3), .inl (xI E, 120, .inl ((z.wsh h).fr)))], [((am 4), .inl (xI E, 120, .inl ((z.wsh h).wh)))], [((am 5), .inl (xI E, 120, .inl ((z.wsh h).sn)))], [((am 6), .inl (xI E, 300, .inl ((z.wsh h).ca)))], [((am 7), .inl (xI E, 120, .inl ((z.wsh h).hd)))], [((am 8), .inl (xI E, 120, .inl ((z.wsh h).ps)))], [((am 9), .inl (xI E, 120, .inl ((z.wsh h).tm)))], [((am 10), .inl (xI E, 120, .inl ((z.wsh h).mm)))], [((am 11), .inl (xJ E, 120, .inr (.inl ((z.wsh h).se))))], [((am 12), .inl (xI E, 400, .inl ((z.wsh h).tx)))]] H locs := M
  refine lv_istore (lv' := [(4, .int ((z.wsh h).beside h true)), (3, .int (((z.wsh h).wRR) + ((z.wsh h).mg))), (0, .ref (am 0)), (1, .int h), (2, .int p)]) S.1 S.2.1 dX9_timeFor_17 hl (by decide) rfl (fun ls hl => ?_)
  refine lv_aload_n S.1 S.2.1 dX9_timeFor_19 rfl (lv_at hl 2 rfl) ?_
  refine lv_iload_n S.1 S.2.1 dX9_timeFor_20 rfl (lv_at hl 3 rfl) ?_
  refine lv_iconst (v := 0) S.1 S.2.1 dX9_timeFor_21 (by decide) ?_
  refine gcalli (L := []) (Mid := modGs E am (z.wsh h)) (Rr := []) (Mid' := modGs E am (z.wsh h)) hE M rfl (rfl) (rfl) (fun hgH => va_runV (As := [.int h, .int 0]) (rest := []) S (c_X9_beside l E am (z.wsh h) h false  hs2 _) (cwV 2 S.2.2.2.2 gX9_timeFor_X9_beside rfl rfl rfl kd_X9_beside ⟨Nat.le_of_ble_eq_true rfl, Nat.le_of_ble_eq_true rfl⟩) (hgH.V hE (show vwCl[9]? = some (RX9, TX9, 28) from rfl) rfl) rfl rfl hl.1 rfl (lv_room (Nat.le_of_ble_eq_true rfl)) dX9_timeFor_22 ⟨Nat.zero_le _, Nat.zero_le _⟩) (fun H locs M => ?_)
  have M : gM E A s.heap [[(am 0, .inr (9, [.ref (am 1), .ref (am 2), .int (nI (z.wsh h).tn), .int ((z.wsh h).mn), .int ((z.wsh h).mk), .int ((z.wsh h).mg), .int ((z.wsh h).jp), .int (nI (z.wsh h).ct), .ref (am 3), .ref (am 4), .ref (am 5), .ref (am 6), .int (nI (z.wsh h).sp), .ref (am 7), .ref (am 8), .ref (am 9), .ref (am 10), .int (b2i (z.wsh h).on), .int ((z.wsh h).ba), .int ((z.wsh h).bg), .ref (am 11), .long ((z.wsh h).up), .long ((z.wsh h).by_), .int ((z.wsh h).co), .int ((z.wsh h).po), .int ((z.wsh h).gr), .ref (am 12), .int (nI (z.wsh h).wr)]))], [((am 1), .inl (xI E, 25, .inl ((z.wsh h).sg)))], [((am 2), .inl (xI E, 8, .inl ((z.wsh h).tp)))], [((am 3), .inl (xI E, 120, .inl ((z.wsh h).fr)))], [((am 4), .inl (xI E, 120, .inl ((z.wsh h).wh)))], [((am 5), .inl (xI E, 120, .inl ((z.wsh h).sn)))], [((am 6), .inl (xI E, 300, .inl ((z.wsh h).ca)))], [((am 7), .inl (xI E, 120, .inl ((z.wsh h).hd)))], [((am 8), .inl (xI E, 120, .inl ((z.wsh h).ps)))], [((am 9), .inl (xI E, 120, .inl ((z.wsh h).tm)))], [((am 10), .inl (xI E, 120, .inl ((z.wsh h).mm)))], [((am 11), .inl (xJ E, 120, .inr (.inl ((z.wsh h).se))))], [((am 12), .inl (xI E, 400, .inl ((z.wsh h).tx)))]] H locs := M
  refine lv_istore (lv' := [(5, .int ((z.wsh h).beside h false)), (4, .int ((z.wsh h).beside h true)), (3, .int (((z.wsh h).wRR) + ((z.wsh h).mg))), (0, .ref (am 0)), (1, .int h), (2, .int p)]) S.1 S.2.1 dX9_timeFor_25 hl (by decide) rfl (fun ls hl => ?_)
  refine lv_iload S.1 S.2.1 dX9_timeFor_27 (lv_at hl 1 rfl) ?_
  refine lv_bipush (v := (-9)) S.1 S.2.1 dX9_timeFor_29 (by decide) ?_
  refine lv_icmp_eq (tgt := 63) S.1 S.2.1 dX9_timeFor_31 (by decide) (fun c31 => ?_) (fun c31 => ?_)
  ·
    refine lv_iload S.1 S.2.1 dX9_timeFor_63 (lv_at hl 0 rfl) ?_
    refine lv_bipush (v := (-9)) S.1 S.2.1 dX9_timeFor_65 (by decide) ?_
    refine lv_icmp_eq (tgt := 111) S.1 S.2.1 dX9_timeFor_67 (by decide) (fun c67 => ?_) (fun c67 => ?_)
    ·
      refine lv_iload_n S.1 S.2.1 dX9_timeFor_111 rfl (lv_at hl 2 rfl) ?_
      exact giret S hr hlk M (by unfold MdS.timeFor MdS.tff MdS.tf2 MdS.tf1; rw [if_pos c31, if_pos c67]) (rfl) dX9_timeFor_112
    ·
      refine lv_iload_n S.1 S.2.1 dX9_timeFor_70 rfl (lv_at hl 2 rfl) ?_
      refine lv_aload_n S.1 S.2.1 dX9_timeFor_71 rfl (lv_at hl 3 rfl) ?_
      refine gget S hE M (C := RX9) (T := TX9) (N := 28) (ci := 9) (index := 41) hwi 0 rfl rfl 15 (by decide) (by decide +kernel) rfl dX9_timeFor_72 ?_
      refine lv_iload S.1 S.2.1 dX9_timeFor_75 (lv_at hl 0 rfl) ?_
      refine giald S hE M 9 rfl (beside_in hs2 c67) dX9_timeFor_77 ?_
      refine lv_bipush (v := 20) S.1 S.2.1 dX9_timeFor_78 (by decide) ?_
      refine lv_aload_n S.1 S.2.1 dX9_timeFor_80 rfl (lv_at hl 3 rfl) ?_
      refine gget S hE M (C := RX9) (T := TX9) (N := 28) (ci := 9) (index := 38) hwi 0 rfl rfl 14 (by decide) (by decide +kernel) rfl dX9_timeFor_81 ?_
      refine lv_iload S.1 S.2.1 dX9_timeFor_84 (lv_at hl 0 rfl) ?_
      refine giald S hE M 8 rfl (beside_in hs2 c67) dX9_timeFor_86 ?_
      refine lv_imul S.1 S.2.1 dX9_timeFor_87 ?_
      refine lv_iadd S.1 S.2.1 dX9_timeFor_88 ?_
      refine lv_icmp_le (tgt := 111) S.1 S.2.1 dX9_timeFor_89 (by decide) (fun c89 => ?_) (fun c89 => ?_)
      ·
        refine lv_iload_n S.1 S.2.1 dX9_timeFor_111 rfl (lv_at hl 2 rfl) ?_
        exact giret S hr hlk M (by unfold MdS.timeFor MdS.tff MdS.tf2 MdS.tf1; rw [if_pos c31, if_neg c67, if_pos c89]) (rfl) dX9_timeFor_112
      ·
        refine lv_aload_n S.1 S.2.1 dX9_timeFor_92 rfl (lv_at hl 3 rfl) ?_
        refine gget S hE M (C := RX9) (T := TX9) (N := 28) (ci := 9) (index := 41) hwi 0 rfl rfl 15 (by decide) (by decide +kernel) rfl dX9_timeFor_93 ?_
        refine lv_iload S.1 S.2.1 dX9_timeFor_96 (lv_at hl 0 rfl) ?_
        refine giald S hE M 9 rfl (beside_in hs2 c67) dX9_timeFor_98 ?_
        refine lv_bipush (v := 20) S.1 S.2.1 dX9_timeFor_99 (by decide) ?_
        refine lv_aload_n S.1 S.2.1 dX9_timeFor_101 rfl (lv_at hl 3 rfl) ?_
        refine gget S hE M (C := RX9) (T := TX9) (N := 28) (ci := 9) (index := 38) hwi 0 rfl rfl 14 (by decide) (by decide +kernel) rfl dX9_timeFor_102 ?_
        refine lv_iload S.1 S.2.1 dX9_timeFor_105 (lv_at hl 0 rfl) ?_
        refine giald S hE M 8 rfl (beside_in hs2 c67) dX9_timeFor_107 ?_
        refine lv_imul S.1 S.2.1 dX9_timeFor_108 ?_
        refine lv_iadd S.1 S.2.1 dX9_timeFor_109 ?_
        refine lv_istore_n (lv' := [(3, .int ((((z.wsh h).tm) ((z.wsh h).beside h false).toNatClampNeg) + (20 * (((z.wsh h).ps) ((z.wsh h).beside h false).toNatClampNeg)))), (5, .int ((z.wsh h).beside h false)), (4, .int ((z.wsh h).beside h true)), (0, .ref (am 0)), (1, .int h), (2, .int p)]) S.1 S.2.1 dX9_timeFor_110 rfl hl (by decide) rfl (fun ls hl => ?_)
        refine lv_iload_n S.1 S.2.1 dX9_timeFor_111 rfl (lv_at hl 0 rfl) ?_
        exact giret S hr hlk M (by unfold MdS.timeFor MdS.tff MdS.tf2 MdS.tf1; rw [if_pos c31, if_neg c67, if_neg c89]) (rfl) dX9_timeFor_112
  ·
    refine lv_iload_n S.1 S.2.1 dX9_timeFor_34 rfl (lv_at hl 2 rfl) ?_
    refine lv_aload_n S.1 S.2.1 dX9_timeFor_35 rfl (lv_at hl 3 rfl) ?_
    refine gget S hE M (C := RX9) (T := TX9) (N := 28) (ci := 9) (index := 41) hwi 0 rfl rfl 15 (by decide) (by decide +kernel) rfl dX9_timeFor_36 ?_
    refine lv_iload S.1 S.2.1 dX9_timeFor_39 (lv_at hl 1 rfl) ?_
    refine giald S hE M 9 rfl (beside_in hs2 c31) dX9_timeFor_41 ?_
    refine lv_bipush (v := 20) S.1 S.2.1 dX9_timeFor_42 (by decide) ?_
    refine lv_iload_n S.1 S.2.1 dX9_timeFor_44 rfl (lv_at hl 5 rfl) ?_
    refine lv_imul S.1 S.2.1 dX9_timeFor_45 ?_
    refine lv_isub S.1 S.2.1 dX9_timeFor_46 ?_
    refine lv_icmp_ge (tgt := 63) S.1 S.2.1 dX9_timeFor_47 (by decide) (fun c47 => ?_) (fun c47 => ?_)
    ·
      refine lv_iload S.1 S.2.1 dX9_timeFor_63 (lv_at hl 0 rfl) ?_
      refine lv_bipush (v := (-9)) S.1 S.2.1 dX9_timeFor_65 (by decide) ?_
      refine lv_icmp_eq (tgt := 111) S.1 S.2.1 dX9_timeFor_67 (by decide) (fun c67 => ?_) (fun c67 => ?_)
      ·
        refine lv_iload_n S.1 S.2.1 dX9_timeFor_111 rfl (lv_at hl 2 rfl) ?_
        exact giret S hr hlk M (by unfold MdS.timeFor MdS.tff MdS.tf2 MdS.tf1; rw [if_neg c31, if_pos c47, if_pos c67]) (rfl) dX9_timeFor_112
      ·
        refine lv_iload_n S.1 S.2.1 dX9_timeFor_70 rfl (lv_at hl 2 rfl) ?_
        refine lv_aload_n S.1 S.2.1 dX9_timeFor_71 rfl (lv_at hl 3 rfl) ?_
        refine gget S hE M (C := RX9) (T := TX9) (N := 28) (ci := 9) (index := 41) hwi 0 rfl rfl 15 (by decide) (by decide +kernel) rfl dX9_timeFor_72 ?_
        refine lv_iload S.1 S.2.1 dX9_timeFor_75 (lv_at hl 0 rfl) ?_
        refine giald S hE M 9 rfl (beside_in hs2 c67) dX9_timeFor_77 ?_
        refine lv_bipush (v := 20) S.1 S.2.1 dX9_timeFor_78 (by decide) ?_
        refine lv_aload_n S.1 S.2.1 dX9_timeFor_80 rfl (lv_at hl 3 rfl) ?_
        refine gget S hE M (C := RX9) (T := TX9) (N := 28) (ci := 9) (index := 38) hwi 0 rfl rfl 14 (by decide) (by decide +kernel) rfl dX9_timeFor_81 ?_
        refine lv_iload S.1 S.2.1 dX9_timeFor_84 (lv_at hl 0 rfl) ?_
        refine giald S hE M 8 rfl (beside_in hs2 c67) dX9_timeFor_86 ?_
        refine lv_imul S.1 S.2.1 dX9_timeFor_87 ?_
        refine lv_iadd S.1 S.2.1 dX9_timeFor_88 ?_
        refine lv_icmp_le (tgt := 111) S.1 S.2.1 dX9_timeFor_89 (by decide) (fun c89 => ?_) (fun c89 => ?_)
        ·
          refine lv_iload_n S.1 S.2.1 dX9_timeFor_111 rfl (lv_at hl 2 rfl) ?_
          exact giret S hr hlk M (by unfold MdS.timeFor MdS.tff MdS.tf2 MdS.tf1; rw [if_neg c31, if_pos c47, if_neg c67, if_pos c89]) (rfl) dX9_timeFor_112
        ·
          refine lv_aload_n S.1 S.2.1 dX9_timeFor_92 rfl (lv_at hl 3 rfl) ?_
          refine gget S hE M (C := RX9) (T := TX9) (N := 28) (ci := 9) (index := 41) hwi 0 rfl rfl 15 (by decide) (by decide +kernel) rfl dX9_timeFor_93 ?_
          refine lv_iload S.1 S.2.1 dX9_timeFor_96 (lv_at hl 0 rfl) ?_
          refine giald S hE M 9 rfl (beside_in hs2 c67) dX9_timeFor_98 ?_
          refine lv_bipush (v := 20) S.1 S.2.1 dX9_timeFor_99 (by decide) ?_
          refine lv_aload_n S.1 S.2.1 dX9_timeFor_101 rfl (lv_at hl 3 rfl) ?_
          refine gget S hE M (C := RX9) (T := TX9) (N := 28) (ci := 9) (index := 38) hwi 0 rfl rfl 14 (by decide) (by decide +kernel) rfl dX9_timeFor_102 ?_
          refine lv_iload S.1 S.2.1 dX9_timeFor_105 (lv_at hl 0 rfl) ?_
          refine giald S hE M 8 rfl (beside_in hs2 c67) dX9_timeFor_107 ?_
          refine lv_imul S.1 S.2.1 dX9_timeFor_108 ?_
          refine lv_iadd S.1 S.2.1 dX9_timeFor_109 ?_
          refine lv_istore_n (lv' := [(3, .int ((((z.wsh h).tm) ((z.wsh h).beside h false).toNatClampNeg) + (20 * (((z.wsh h).ps) ((z.wsh h).beside h false).toNatClampNeg)))), (5, .int ((z.wsh h).beside h false)), (4, .int ((z.wsh h).beside h true)), (0, .ref (am 0)), (1, .int h), (2, .int p)]) S.1 S.2.1 dX9_timeFor_110 rfl hl (by decide) rfl (fun ls hl => ?_)
          refine lv_iload_n S.1 S.2.1 dX9_timeFor_111 rfl (lv_at hl 0 rfl) ?_
          exact giret S hr hlk M (by unfold MdS.timeFor MdS.tff MdS.tf2 MdS.tf1; rw [if_neg c31, if_pos c47, if_neg c67, if_neg c89]) (rfl) dX9_timeFor_112
    ·
      refine lv_aload_n S.1 S.2.1 dX9_timeFor_50 rfl (lv_at hl 3 rfl) ?_
      refine gget S hE M (C := RX9) (T := TX9) (N := 28) (ci := 9) (index := 41) hwi 0 rfl rfl 15 (by decide) (by decide +kernel) rfl dX9_timeFor_51 ?_
      refine lv_iload S.1 S.2.1 dX9_timeFor_54 (lv_at hl 1 rfl) ?_
      refine giald S hE M 9 rfl (beside_in hs2 c31) dX9_timeFor_56 ?_
      refine lv_bipush (v := 20) S.1 S.2.1 dX9_timeFor_57 (by decide) ?_
      refine lv_iload_n S.1 S.2.1 dX9_timeFor_59 rfl (lv_at hl 5 rfl) ?_
      refine lv_imul S.1 S.2.1 dX9_timeFor_60 ?_
      refine lv_isub S.1 S.2.1 dX9_timeFor_61 ?_
      refine lv_istore_n (lv' := [(3, .int ((((z.wsh h).tm) ((z.wsh h).beside h true).toNatClampNeg) - (20 * p))), (5, .int ((z.wsh h).beside h false)), (4, .int ((z.wsh h).beside h true)), (0, .ref (am 0)), (1, .int h), (2, .int p)]) S.1 S.2.1 dX9_timeFor_62 rfl hl (by decide) rfl (fun ls hl => ?_)
      refine lv_iload S.1 S.2.1 dX9_timeFor_63 (lv_at hl 1 rfl) ?_
      refine lv_bipush (v := (-9)) S.1 S.2.1 dX9_timeFor_65 (by decide) ?_
      refine lv_icmp_eq (tgt := 111) S.1 S.2.1 dX9_timeFor_67 (by decide) (fun c67 => ?_) (fun c67 => ?_)
      ·
        refine lv_iload_n S.1 S.2.1 dX9_timeFor_111 rfl (lv_at hl 0 rfl) ?_
        exact giret S hr hlk M (by unfold MdS.timeFor MdS.tff MdS.tf2 MdS.tf1; rw [if_neg c31, if_neg c47, if_pos c67]) (rfl) dX9_timeFor_112
      ·
        refine lv_iload_n S.1 S.2.1 dX9_timeFor_70 rfl (lv_at hl 0 rfl) ?_
        refine lv_aload_n S.1 S.2.1 dX9_timeFor_71 rfl (lv_at hl 3 rfl) ?_
        refine gget S hE M (C := RX9) (T := TX9) (N := 28) (ci := 9) (index := 41) hwi 0 rfl rfl 15 (by decide) (by decide +kernel) rfl dX9_timeFor_72 ?_
        refine lv_iload S.1 S.2.1 dX9_timeFor_75 (lv_at hl 1 rfl) ?_
        refine giald S hE M 9 rfl (beside_in hs2 c67) dX9_timeFor_77 ?_
        refine lv_bipush (v := 20) S.1 S.2.1 dX9_timeFor_78 (by decide) ?_
        refine lv_aload_n S.1 S.2.1 dX9_timeFor_80 rfl (lv_at hl 3 rfl) ?_
        refine gget S hE M (C := RX9) (T := TX9) (N := 28) (ci := 9) (index := 38) hwi 0 rfl rfl 14 (by decide) (by decide +kernel) rfl dX9_timeFor_81 ?_
        refine lv_iload S.1 S.2.1 dX9_timeFor_84 (lv_at hl 1 rfl) ?_
        refine giald S hE M 8 rfl (beside_in hs2 c67) dX9_timeFor_86 ?_
        refine lv_imul S.1 S.2.1 dX9_timeFor_87 ?_
        refine lv_iadd S.1 S.2.1 dX9_timeFor_88 ?_
        refine lv_icmp_le (tgt := 111) S.1 S.2.1 dX9_timeFor_89 (by decide) (fun c89 => ?_) (fun c89 => ?_)
        ·
          refine lv_iload_n S.1 S.2.1 dX9_timeFor_111 rfl (lv_at hl 0 rfl) ?_
          exact giret S hr hlk M (by unfold MdS.timeFor MdS.tff MdS.tf2 MdS.tf1; rw [if_neg c31, if_neg c47, if_neg c67, if_pos c89]) (rfl) dX9_timeFor_112
        ·
          refine lv_aload_n S.1 S.2.1 dX9_timeFor_92 rfl (lv_at hl 3 rfl) ?_
          refine gget S hE M (C := RX9) (T := TX9) (N := 28) (ci := 9) (index := 41) hwi 0 rfl rfl 15 (by decide) (by decide +kernel) rfl dX9_timeFor_93 ?_
          refine lv_iload S.1 S.2.1 dX9_timeFor_96 (lv_at hl 1 rfl) ?_
          refine giald S hE M 9 rfl (beside_in hs2 c67) dX9_timeFor_98 ?_
          refine lv_bipush (v := 20) S.1 S.2.1 dX9_timeFor_99 (by decide) ?_
          refine lv_aload_n S.1 S.2.1 dX9_timeFor_101 rfl (lv_at hl 3 rfl) ?_
          refine gget S hE M (C := RX9) (T := TX9) (N := 28) (ci := 9) (index := 38) hwi 0 rfl rfl 14 (by decide) (by decide +kernel) rfl dX9_timeFor_102 ?_
          refine lv_iload S.1 S.2.1 dX9_timeFor_105 (lv_at hl 1 rfl) ?_
          refine giald S hE M 8 rfl (beside_in hs2 c67) dX9_timeFor_107 ?_
          refine lv_imul S.1 S.2.1 dX9_timeFor_108 ?_
          refine lv_iadd S.1 S.2.1 dX9_timeFor_109 ?_
          refine lv_istore_n (lv' := [(3, .int ((((z.wsh h).tm) ((z.wsh h).beside h false).toNatClampNeg) + (20 * (((z.wsh h).ps) ((z.wsh h).beside h false).toNatClampNeg)))), (5, .int ((z.wsh h).beside h false)), (4, .int ((z.wsh h).beside h true)), (0, .ref (am 0)), (1, .int h), (2, .int p)]) S.1 S.2.1 dX9_timeFor_110 rfl hl (by decide) rfl (fun ls hl => ?_)
          refine lv_iload_n S.1 S.2.1 dX9_timeFor_111 rfl (lv_at hl 0 rfl) ?_
          exact giret S hr hlk M (by unfold MdS.timeFor MdS.tff MdS.tf2 MdS.tf1; rw [if_neg c31, if_neg c47, if_neg c67, if_neg c89]) (rfl) dX9_timeFor_112

set_option maxHeartbeats 4000000 in
set_option maxRecDepth 100000 in
theorem c_X9_isPlayed (l : Launch) (E : xE) (am : Nat → Nat) (z : MdS) (a : Nat) (ha : a < 120) (hsn : vp_in (z.sn a) 120) : mI l yX9_isPlayed wsX9_isPlayed (xrm 1 21) E [.ref (am 0), .int (nI a)] (modGs E am z) (z.pld a) (modGs E am z) := by
  intro sz
  refine Met.ofW (cc := cX9_isPlayed) (maxL := 2) (ret := (some .boolean)) (by decide +kernel) rfl ?_
  intro vp ve s vm args below meth vc s₁ B hml hv
  obtain ⟨rfl, S, hr, hlk, hnm, A, hA, hE, M⟩ := genter B hml hv
  rw [hA]
  obtain ⟨ls, hfr, hl⟩ := gst (m := vm) (as := [.ref (am 0), .int (nI a)]) (n := 2) (Nat.le_of_ble_eq_true rfl)
  rw [hfr]
  clear hfr hA
  have hl : lv_has ls 2 [(0, .ref (am 0)), (1, .int (nI a))] := hl
  have M : gM E A s.heap [[(am 0, .inr (9, [.ref (am 1), .ref (am 2), .int (nI z.tn), .int z.mn, .int z.mk, .int z.mg, .int z.jp, .int (nI z.ct), .ref (am 3), .ref (am 4), .ref (am 5), .ref (am 6), .int (nI z.sp), .ref (am 7), .ref (am 8), .ref (am 9), .ref (am 10), .int (b2i z.on), .int z.ba, .int z.bg, .ref (am 11), .long z.up, .long z.by_, .int z.co, .int z.po, .int z.gr, .ref (am 12), .int (nI z.wr)]))], [((am 1), .inl (xI E, 25, .inl z.sg))], [((am 2), .inl (xI E, 8, .inl z.tp))], [((am 3), .inl (xI E, 120, .inl z.fr))], [((am 4), .inl (xI E, 120, .inl z.wh))], [((am 5), .inl (xI E, 120, .inl z.sn))], [((am 6), .inl (xI E, 300, .inl z.ca))], [((am 7), .inl (xI E, 120, .inl z.hd))], [((am 8), .inl (xI E, 120, .inl z.ps))], [((am 9), .inl (xI E, 120, .inl z.tm))], [((am 10), .inl (xI E, 120, .inl z.mm))], [((am 11), .inl (xJ E, 120, .inr (.inl z.se)))], [((am 12), .inl (xI E, 400, .inl z.tx))]] s.heap [] := M
  have hwi : ∀ w ∈ u_ws RX9 TX9 28, w ∈ wsX9_isPlayed := by decide +kernel
  refine lv_aload_n S.1 S.2.1 dX9_isPlayed_0 rfl (lv_at hl 0 rfl) ?_
  refine lv_iload_n S.1 S.2.1 dX9_isPlayed_1 rfl (lv_at hl 1 rfl) ?_
  refine gcalli (L := []) (Mid := modGs E am z) (Rr := []) (Mid' := modGs E am z) hE M rfl (rfl) (rfl) (fun hgH => va_runV (As := [.int (nI a)]) (rest := []) S (c_X9_delay l E am z a  ha _) (cwV 1 S.2.2.2.2 gX9_isPlayed_X9_delay rfl rfl rfl kd_X9_delay ⟨Nat.le_of_ble_eq_true rfl, Nat.le_of_ble_eq_true rfl⟩) (hgH.V hE (show vwCl[9]? = some (RX9, TX9, 28) from rfl) rfl) rfl rfl hl.1 rfl (lv_room (Nat.le_of_ble_eq_true rfl)) dX9_isPlayed_2 ⟨Nat.zero_le _, Nat.zero_le _⟩) (fun H locs M => ?_)
  have M : gM E A s.heap [[(am 0, .inr (9, [.ref (am 1), .ref (am 2), .int (nI z.tn), .int z.mn, .int z.mk, .int z.mg, .int z.jp, .int (nI z.ct), .ref (am 3), .ref (am 4), .ref (am 5), .ref (am 6), .int (nI z.sp), .ref (am 7), .ref (am 8), .ref (am 9), .ref (am 10), .int (b2i z.on), .int z.ba, .int z.bg, .ref (am 11), .long z.up, .long z.by_, .int z.co, .int z.po, .int z.gr, .ref (am 12), .int (nI z.wr)]))], [((am 1), .inl (xI E, 25, .inl z.sg))], [((am 2), .inl (xI E, 8, .inl z.tp))], [((am 3), .inl (xI E, 120, .inl z.fr))], [((am 4), .inl (xI E, 120, .inl z.wh))], [((am 5), .inl (xI E, 120, .inl z.sn))], [((am 6), .inl (xI E, 300, .inl z.ca))], [((am 7), .inl (xI E, 120, .inl z.hd))], [((am 8), .inl (xI E, 120, .inl z.ps))], [((am 9), .inl (xI E, 120, .inl z.tm))], [((am 10), .inl (xI E, 120, .inl z.mm))], [((am 11), .inl (xJ E, 120, .inr (.inl z.se)))], [((am 12), .inl (xI E, 400, .inl z.tx))]] H locs := M
  refine lv_aload_n S.1 S.2.1 dX9_isPlayed_5 rfl (lv_at hl 0 rfl) ?_
  refine gget S hE M (C := RX9) (T := TX9) (N := 28) (ci := 9) (index := 41) hwi 0 rfl rfl 15 (by decide) (by decide +kernel) rfl dX9_isPlayed_6 ?_
  refine lv_aload_n S.1 S.2.1 dX9_isPlayed_9 rfl (lv_at hl 0 rfl) ?_
  refine gget S hE M (C := RX9) (T := TX9) (N := 28) (ci := 9) (index := 29) hwi 0 rfl rfl 10 (by decide) (by decide +kernel) rfl dX9_isPlayed_10 ?_
  refine lv_iload_n S.1 S.2.1 dX9_isPlayed_13 rfl (lv_at hl 1 rfl) ?_
  refine giald S hE M 5 rfl (vp_in_nI (by omega) (by omega)) dX9_isPlayed_14 ?_
  refine gtop (x' := z.sn a) (by rw [nI_clamp (by omega)]) ?_
  refine giald S hE M 9 rfl (hsn) dX9_isPlayed_15 ?_
  refine lv_icmp_gt (tgt := 23) S.1 S.2.1 dX9_isPlayed_16 (by decide) (fun c16 => ?_) (fun c16 => ?_)
  ·
    refine lv_iconst (v := 0) S.1 S.2.1 dX9_isPlayed_23 (by decide) ?_
    exact gzret S hr hlk M (rfl) (by unfold MdS.pld; rw [if_pos c16]) (rfl) dX9_isPlayed_24
  ·
    refine lv_iconst (v := 1) S.1 S.2.1 dX9_isPlayed_19 (by decide) ?_
    refine lv_goto (tgt := 24) S.1 S.2.1 dX9_isPlayed_20 (by decide) ?_
    exact gzret S hr hlk M (rfl) (by unfold MdS.pld; rw [if_neg c16]) (rfl) dX9_isPlayed_24

set_option maxHeartbeats 4000000 in
set_option maxRecDepth 100000 in
theorem c_X9_playedAt (l : Launch) (E : xE) (am : Nat → Nat) (z : MdS) (a : Nat) (ha : a < 120) (hsn : vp_in (z.sn a) 120) : mI l yX9_playedAt wsX9_playedAt (xrm 0 0) E [.ref (am 0), .int (nI a)] (modGs E am z) (z.pat a) (modGs E am z) := by
  intro sz
  refine Met.ofW (cc := cX9_playedAt) (maxL := 2) (ret := (some .int)) (by decide +kernel) rfl ?_
  intro vp ve s vm args below meth vc s₁ B hml hv
  obtain ⟨rfl, S, hr, hlk, hnm, A, hA, hE, M⟩ := genter B hml hv
  rw [hA]
  obtain ⟨ls, hfr, hl⟩ := gst (m := vm) (as := [.ref (am 0), .int (nI a)]) (n := 2) (Nat.le_of_ble_eq_true rfl)
  rw [hfr]
  clear hfr hA
  have hl : lv_has ls 2 [(0, .ref (am 0)), (1, .int (nI a))] := hl
  have M : gM E A s.heap [[(am 0, .inr (9, [.ref (am 1), .ref (am 2), .int (nI z.tn), .int z.mn, .int z.mk, .int z.mg, .int z.jp, .int (nI z.ct), .ref (am 3), .ref (am 4), .ref (am 5), .ref (am 6), .int (nI z.sp), .ref (am 7), .ref (am 8), .ref (am 9), .ref (am 10), .int (b2i z.on), .int z.ba, .int z.bg, .ref (am 11), .long z.up, .long z.by_, .int z.co, .int z.po, .int z.gr, .ref (am 12), .int (nI z.wr)]))], [((am 1), .inl (xI E, 25, .inl z.sg))], [((am 2), .inl (xI E, 8, .inl z.tp))], [((am 3), .inl (xI E, 120, .inl z.fr))], [((am 4), .inl (xI E, 120, .inl z.wh))], [((am 5), .inl (xI E, 120, .inl z.sn))], [((am 6), .inl (xI E, 300, .inl z.ca))], [((am 7), .inl (xI E, 120, .inl z.hd))], [((am 8), .inl (xI E, 120, .inl z.ps))], [((am 9), .inl (xI E, 120, .inl z.tm))], [((am 10), .inl (xI E, 120, .inl z.mm))], [((am 11), .inl (xJ E, 120, .inr (.inl z.se)))], [((am 12), .inl (xI E, 400, .inl z.tx))]] s.heap [] := M
  have hwi : ∀ w ∈ u_ws RX9 TX9 28, w ∈ wsX9_playedAt := by decide +kernel
  refine lv_bipush (v := 20) S.1 S.2.1 dX9_playedAt_0 (by decide) ?_
  refine lv_aload_n S.1 S.2.1 dX9_playedAt_2 rfl (lv_at hl 0 rfl) ?_
  refine gget S hE M (C := RX9) (T := TX9) (N := 28) (ci := 9) (index := 23) hwi 0 rfl rfl 8 (by decide) (by decide +kernel) rfl dX9_playedAt_3 ?_
  refine lv_iload_n S.1 S.2.1 dX9_playedAt_6 rfl (lv_at hl 1 rfl) ?_
  refine giald S hE M 3 rfl (vp_in_nI (by omega) (by omega)) dX9_playedAt_7 ?_
  refine gtop (x' := z.fr a) (by rw [nI_clamp (by omega)]) ?_
  refine lv_imul S.1 S.2.1 dX9_playedAt_8 ?_
  refine lv_aload_n S.1 S.2.1 dX9_playedAt_9 rfl (lv_at hl 0 rfl) ?_
  refine gget S hE M (C := RX9) (T := TX9) (N := 28) (ci := 9) (index := 41) hwi 0 rfl rfl 15 (by decide) (by decide +kernel) rfl dX9_playedAt_10 ?_
  refine lv_aload_n S.1 S.2.1 dX9_playedAt_13 rfl (lv_at hl 0 rfl) ?_
  refine gget S hE M (C := RX9) (T := TX9) (N := 28) (ci := 9) (index := 29) hwi 0 rfl rfl 10 (by decide) (by decide +kernel) rfl dX9_playedAt_14 ?_
  refine lv_iload_n S.1 S.2.1 dX9_playedAt_17 rfl (lv_at hl 1 rfl) ?_
  refine giald S hE M 5 rfl (vp_in_nI (by omega) (by omega)) dX9_playedAt_18 ?_
  refine gtop (x' := z.sn a) (by rw [nI_clamp (by omega)]) ?_
  refine giald S hE M 9 rfl (hsn) dX9_playedAt_19 ?_
  refine lv_iadd S.1 S.2.1 dX9_playedAt_20 ?_
  exact giret S hr hlk M (rfl) (rfl) dX9_playedAt_21

set_option maxHeartbeats 4000000 in
set_option maxRecDepth 100000 in
theorem c_X9_counts (l : Launch) (E : xE) (am : Nat → Nat) (z : MdS) (k : Nat) (hk : k < 120) (hc : z.ct ≤ 120) (hsn : ∀ a, a < z.ct → vp_in (z.sn a) 120) : mV l yX9_counts wsX9_counts (xrm 2 42) E [.ref (am 0), .int (nI k)] (modGs E am z) (modGs E am (MdS.cnts z k)) := by
  intro sz
  refine Met.ofW (cc := cX9_counts) (maxL := 3) (ret := none) (by decide +kernel) rfl ?_
  intro vp ve s vm args below meth vc s₁ B hml hv
  obtain ⟨rfl, S, hr, hlk, hnm, A, hA, hE, M⟩ := genter B hml hv
  rw [hA]
  obtain ⟨ls, hfr, hl⟩ := gst (m := vm) (as := [.ref (am 0), .int (nI k)]) (n := 3) (Nat.le_of_ble_eq_true rfl)
  rw [hfr]
  clear hfr hA
  have hl : lv_has ls 3 [(0, .ref (am 0)), (1, .int (nI k))] := hl
  have M : gM E A s.heap [[(am 0, .inr (9, [.ref (am 1), .ref (am 2), .int (nI z.tn), .int z.mn, .int z.mk, .int z.mg, .int z.jp, .int (nI z.ct), .ref (am 3), .ref (am 4), .ref (am 5), .ref (am 6), .int (nI z.sp), .ref (am 7), .ref (am 8), .ref (am 9), .ref (am 10), .int (b2i z.on), .int z.ba, .int z.bg, .ref (am 11), .long z.up, .long z.by_, .int z.co, .int z.po, .int z.gr, .ref (am 12), .int (nI z.wr)]))], [((am 1), .inl (xI E, 25, .inl z.sg))], [((am 2), .inl (xI E, 8, .inl z.tp))], [((am 3), .inl (xI E, 120, .inl z.fr))], [((am 4), .inl (xI E, 120, .inl z.wh))], [((am 5), .inl (xI E, 120, .inl z.sn))], [((am 6), .inl (xI E, 300, .inl z.ca))], [((am 7), .inl (xI E, 120, .inl z.hd))], [((am 8), .inl (xI E, 120, .inl z.ps))], [((am 9), .inl (xI E, 120, .inl z.tm))], [((am 10), .inl (xI E, 120, .inl z.mm))], [((am 11), .inl (xJ E, 120, .inr (.inl z.se)))], [((am 12), .inl (xI E, 400, .inl z.tx))]] s.heap [] := M
  have hwi : ∀ w ∈ u_ws RX9 TX9 28, w ∈ wsX9_counts := by decide +kernel
  obtain ⟨Q, hQ⟩ : ∃ Q : State → Prop, MQ below (va_Qv (fun (_ : Unit) => True) (fun _ => kQ E A (modGs E am (MdS.cnts z k))) A) ([.ref (am 0), .int (nI k)] : List Value).toArray s 0 0 A = Q := ⟨_, rfl⟩
  rw [hQ]
  have hL : ∀ (n : Nat), ∀ (a : Nat) (y : CoS), a + n = z.ct → z.cts k = col z k n a y → ∀ (H : Heap) (locs : List Loc), gM E A s.heap [[(am 0, .inr (9, [.ref (am 1), .ref (am 2), .int (nI z.tn), .int z.mn, .int z.mk, .int z.mg, .int z.jp, .int (nI z.ct), .ref (am 3), .ref (am 4), .ref (am 5), .ref (am 6), .int (nI z.sp), .ref (am 7), .ref (am 8), .ref (am 9), .ref (am 10), .int (b2i z.on), .int z.ba, .int z.bg, .ref (am 11), .long z.up, .long z.by_, .int y.1, .int y.2.1, .int y.2.2, .ref (am 12), .int (nI z.wr)]))], [((am 1), .inl (xI E, 25, .inl z.sg))], [((am 2), .inl (xI E, 8, .inl z.tp))], [((am 3), .inl (xI E, 120, .inl z.fr))], [((am 4), .inl (xI E, 120, .inl z.wh))], [((am 5), .inl (xI E, 120, .inl z.sn))], [((am 6), .inl (xI E, 300, .inl z.ca))], [((am 7), .inl (xI E, 120, .inl z.hd))], [((am 8), .inl (xI E, 120, .inl z.ps))], [((am 9), .inl (xI E, 120, .inl z.tm))], [((am 10), .inl (xI E, 120, .inl z.mm))], [((am 11), .inl (xJ E, 120, .inr (.inl z.se)))], [((am 12), .inl (xI E, 400, .inl z.tx))]] H locs → ∀ ls : Array Slot, lv_has ls 3 [(0, .ref (am 0)), (1, .int (nI k)), (2, .int (nI a))] → W vp l ve (headSpec wsX9_counts (xrm 2 42)).room s vm ([.ref (am 0), .int (nI k)] : List Value).toArray below meth vc H locs 0 0 Q (F0 vm 22 ls []) := by
    intro n
    induction n with
    | zero =>
      intro a y hi hI H locs M ls hl
      refine lv_iload_n S.1 S.2.1 dX9_counts_22 rfl (lv_at hl 2 rfl) ?_
      refine lv_aload_n S.1 S.2.1 dX9_counts_23 rfl (lv_at hl 0 rfl) ?_
      refine gget S hE M (C := RX9) (T := TX9) (N := 28) (ci := 9) (index := 78) hwi 0 rfl rfl 7 (by decide) (by decide +kernel) rfl dX9_counts_24 ?_
      refine lv_icmp_ge (tgt := 108) S.1 S.2.1 dX9_counts_27 (by decide) (fun _ => ?_) (fun c_ => absurd (nI_le (by omega) (by omega)) c_)
      rw [← hQ]
      have he : MdS.cnts z k = ((z.sg, z.tp, z.tn, z.mn, z.mk, z.mg, z.jp, z.ct, z.fr, z.wh, z.sn, z.ca, z.sp, z.hd, z.ps, z.tm, z.mm, z.on, z.ba, z.bg, z.se, z.up, z.by_, y.1, y.2.1, y.2.2, z.tx, z.wr) : MdS) := by unfold MdS.cnts; rw [hI, col] <;> rfl
      exact gvret S hr hlk M (by rw [he]; rfl) dX9_counts_108
    | succ n ih =>
      intro a y hi hI H locs M ls hl
      refine lv_iload_n S.1 S.2.1 dX9_counts_22 rfl (lv_at hl 2 rfl) ?_
      refine lv_aload_n S.1 S.2.1 dX9_counts_23 rfl (lv_at hl 0 rfl) ?_
      refine gget S hE M (C := RX9) (T := TX9) (N := 28) (ci := 9) (index := 78) hwi 0 rfl rfl 7 (by decide) (by decide +kernel) rfl dX9_counts_24 ?_
      refine lv_icmp_ge (tgt := 108) S.1 S.2.1 dX9_counts_27 (by decide) (fun c_ => absurd c_ (nI_ge (by omega) (by omega))) (fun _ => ?_)
      refine lv_aload_n S.1 S.2.1 dX9_counts_30 rfl (lv_at hl 0 rfl) ?_
      refine gget S hE M (C := RX9) (T := TX9) (N := 28) (ci := 9) (index := 29) hwi 0 rfl rfl 10 (by decide) (by decide +kernel) rfl dX9_counts_31 ?_
      refine lv_iload_n S.1 S.2.1 dX9_counts_34 rfl (lv_at hl 2 rfl) ?_
      refine giald S hE M 5 rfl (vp_in_nI (by omega) (by omega)) dX9_counts_35 ?_
      refine gtop (x' := z.sn a) (by rw [nI_clamp (by omega)]) ?_
      refine lv_iload_n S.1 S.2.1 dX9_counts_36 rfl (lv_at hl 1 rfl) ?_
      refine lv_icmp_ne (tgt := 102) S.1 S.2.1 dX9_counts_37 (by decide) (fun c37 => ?_) (fun c37 => ?_)
      ·
        refine lv_iinc (v := nI (a + 1)) (lv' := [(2, .int (nI (a + 1))), (0, .ref (am 0)), (1, .int (nI k))]) S.1 S.2.1 dX9_counts_102 hl (k := 2) rfl (nI_1 _) (by decide) rfl (fun ls hl => ?_)
        refine lv_goto (tgt := 22) S.1 S.2.1 dX9_counts_105 (by decide) ?_
        exact ih (a + 1) y (by omega) (by rw [hI, col, if_neg c37]) _ _ M ls (lv_sub hl [1, 2, 0] rfl)
      ·
        refine lv_aload_n S.1 S.2.1 dX9_counts_40 rfl (lv_at hl 0 rfl) ?_
        refine lv_dup S.1 S.2.1 dX9_counts_41 rfl ?_
        refine gget S hE M (C := RX9) (T := TX9) (N := 28) (ci := 9) (index := 154) hwi 0 rfl rfl 23 (by decide) (by decide +kernel) rfl dX9_counts_42 ?_
        refine lv_iconst (v := 1) S.1 S.2.1 dX9_counts_45 (by decide) ?_
        refine lv_iadd S.1 S.2.1 dX9_counts_46 ?_
        refine gput S hE M (C := RX9) (T := TX9) (N := 28) (ci := 9) (index := 154) (Gs' := [[(am 0, .inr (9, [.ref (am 1), .ref (am 2), .int (nI z.tn), .int z.mn, .int z.mk, .int z.mg, .int z.jp, .int (nI z.ct), .ref (am 3), .ref (am 4), .ref (am 5), .ref (am 6), .int (nI z.sp), .ref (am 7), .ref (am 8), .ref (am 9), .ref (am 10), .int (b2i z.on), .int z.ba, .int z.bg, .ref (am 11), .long z.up, .long z.by_, .int (y.1 + 1), .int y.2.1, .int y.2.2, .ref (am 12), .int (nI z.wr)]))], [((am 1), .inl (xI E, 25, .inl z.sg))], [((am 2), .inl (xI E, 8, .inl z.tp))], [((am 3), .inl (xI E, 120, .inl z.fr))], [((am 4), .inl (xI E, 120, .inl z.wh))], [((am 5), .inl (xI E, 120, .inl z.sn))], [((am 6), .inl (xI E, 300, .inl z.ca))], [((am 7), .inl (xI E, 120, .inl z.hd))], [((am 8), .inl (xI E, 120, .inl z.ps))], [((am 9), .inl (xI E, 120, .inl z.tm))], [((am 10), .inl (xI E, 120, .inl z.mm))], [((am 11), .inl (xJ E, 120, .inr (.inl z.se)))], [((am 12), .inl (xI E, 400, .inl z.tx))]]) hwi tyX9 tyX9_ok nmX9 0 rfl rfl 23 (by decide) (by decide +kernel) rfl rfl rfl (Nat.le_of_ble_eq_true rfl) rfl dX9_counts_47 (fun H locs M => ?_)
        refine lv_aload_n S.1 S.2.1 dX9_counts_50 rfl (lv_at hl 0 rfl) ?_
        refine lv_dup S.1 S.2.1 dX9_counts_51 rfl ?_
        refine gget S hE M (C := RX9) (T := TX9) (N := 28) (ci := 9) (index := 157) hwi 0 rfl rfl 24 (by decide) (by decide +kernel) rfl dX9_counts_52 ?_
        refine lv_aload_n S.1 S.2.1 dX9_counts_55 rfl (lv_at hl 0 rfl) ?_
        refine lv_iload_n S.1 S.2.1 dX9_counts_56 rfl (lv_at hl 2 rfl) ?_
        refine gcalli (L := []) (Mid := modGs E am ((z.sg, z.tp, z.tn, z.mn, z.mk, z.mg, z.jp, z.ct, z.fr, z.wh, z.sn, z.ca, z.sp, z.hd, z.ps, z.tm, z.mm, z.on, z.ba, z.bg, z.se, z.up, z.by_, y.1 + 1, y.2.1, y.2.2, z.tx, z.wr) : MdS)) (Rr := []) (Mid' := modGs E am ((z.sg, z.tp, z.tn, z.mn, z.mk, z.mg, z.jp, z.ct, z.fr, z.wh, z.sn, z.ca, z.sp, z.hd, z.ps, z.tm, z.mm, z.on, z.ba, z.bg, z.se, z.up, z.by_, y.1 + 1, y.2.1, y.2.2, z.tx, z.wr) : MdS)) hE M rfl (rfl) (rfl) (fun hgH => va_runV (As := [.int (nI a)]) (rest := [.int y.2.1, .ref (am 0)]) S (c_X9_isPlayed l E am ((z.sg, z.tp, z.tn, z.mn, z.mk, z.mg, z.jp, z.ct, z.fr, z.wh, z.sn, z.ca, z.sp, z.hd, z.ps, z.tm, z.mm, z.on, z.ba, z.bg, z.se, z.up, z.by_, y.1 + 1, y.2.1, y.2.2, z.tx, z.wr) : MdS) a  (by omega) (hsn a (by omega)) _) (cwV 1 S.2.2.2.2 gX9_counts_X9_isPlayed rfl rfl rfl kd_X9_isPlayed ⟨Nat.le_of_ble_eq_true rfl, Nat.le_of_ble_eq_true rfl⟩) (hgH.V hE (show vwCl[9]? = some (RX9, TX9, 28) from rfl) rfl) rfl rfl hl.1 rfl (lv_room (Nat.le_of_ble_eq_true rfl)) dX9_counts_57 ⟨Nat.zero_le _, Nat.zero_le _⟩) (fun H locs M => ?_)
        have M : gM E A s.heap [[(am 0, .inr (9, [.ref (am 1), .ref (am 2), .int (nI z.tn), .int z.mn, .int z.mk, .int z.mg, .int z.jp, .int (nI z.ct), .ref (am 3), .ref (am 4), .ref (am 5), .ref (am 6), .int (nI z.sp), .ref (am 7), .ref (am 8), .ref (am 9), .ref (am 10), .int (b2i z.on), .int z.ba, .int z.bg, .ref (am 11), .long z.up, .long z.by_, .int (y.1 + 1), .int y.2.1, .int y.2.2, .ref (am 12), .int (nI z.wr)]))], [((am 1), .inl (xI E, 25, .inl z.sg))], [((am 2), .inl (xI E, 8, .inl z.tp))], [((am 3), .inl (xI E, 120, .inl z.fr))], [((am 4), .inl (xI E, 120, .inl z.wh))], [((am 5), .inl (xI E, 120, .inl z.sn))], [((am 6), .inl (xI E, 300, .inl z.ca))], [((am 7), .inl (xI E, 120, .inl z.hd))], [((am 8), .inl (xI E, 120, .inl z.ps))], [((am 9), .inl (xI E, 120, .inl z.tm))], [((am 10), .inl (xI E, 120, .inl z.mm))], [((am 11), .inl (xJ E, 120, .inr (.inl z.se)))], [((am 12), .inl (xI E, 400, .inl z.tx))]] H locs := M
        refine gtop (x' := z.pld a) (rfl) ?_
        refine lv_if_eq (tgt := 67) S.1 S.2.1 dX9_counts_60 (by decide) (fun c60 => ?_) (fun c60 => ?_)
        ·
          refine lv_iconst (v := 0) S.1 S.2.1 dX9_counts_67 (by decide) ?_
          refine lv_iadd S.1 S.2.1 dX9_counts_68 ?_
          refine gput S hE M (C := RX9) (T := TX9) (N := 28) (ci := 9) (index := 157) (Gs' := [[(am 0, .inr (9, [.ref (am 1), .ref (am 2), .int (nI z.tn), .int z.mn, .int z.mk, .int z.mg, .int z.jp, .int (nI z.ct), .ref (am 3), .ref (am 4), .ref (am 5), .ref (am 6), .int (nI z.sp), .ref (am 7), .ref (am 8), .ref (am 9), .ref (am 10), .int (b2i z.on), .int z.ba, .int z.bg, .ref (am 11), .long z.up, .long z.by_, .int (y.1 + 1), .int (y.2.1 + 0), .int y.2.2, .ref (am 12), .int (nI z.wr)]))], [((am 1), .inl (xI E, 25, .inl z.sg))], [((am 2), .inl (xI E, 8, .inl z.tp))], [((am 3), .inl (xI E, 120, .inl z.fr))], [((am 4), .inl (xI E, 120, .inl z.wh))], [((am 5), .inl (xI E, 120, .inl z.sn))], [((am 6), .inl (xI E, 300, .inl z.ca))], [((am 7), .inl (xI E, 120, .inl z.hd))], [((am 8), .inl (xI E, 120, .inl z.ps))], [((am 9), .inl (xI E, 120, .inl z.tm))], [((am 10), .inl (xI E, 120, .inl z.mm))], [((am 11), .inl (xJ E, 120, .inr (.inl z.se)))], [((am 12), .inl (xI E, 400, .inl z.tx))]]) hwi tyX9 tyX9_ok nmX9 0 rfl rfl 24 (by decide) (by decide +kernel) rfl rfl rfl (Nat.le_of_ble_eq_true rfl) rfl dX9_counts_69 (fun H locs M => ?_)
          refine lv_aload_n S.1 S.2.1 dX9_counts_72 rfl (lv_at hl 0 rfl) ?_
          refine lv_aload_n S.1 S.2.1 dX9_counts_73 rfl (lv_at hl 0 rfl) ?_
          refine gget S hE M (C := RX9) (T := TX9) (N := 28) (ci := 9) (index := 23) hwi 0 rfl rfl 8 (by decide) (by decide +kernel) rfl dX9_counts_74 ?_
          refine lv_iload_n S.1 S.2.1 dX9_counts_77 rfl (lv_at hl 2 rfl) ?_
          refine giald S hE M 3 rfl (vp_in_nI (by omega) (by omega)) dX9_counts_78 ?_
          refine gtop (x' := z.fr a) (by rw [nI_clamp (by omega)]) ?_
          refine lv_aload_n S.1 S.2.1 dX9_counts_79 rfl (lv_at hl 0 rfl) ?_
          refine gget S hE M (C := RX9) (T := TX9) (N := 28) (ci := 9) (index := 160) hwi 0 rfl rfl 25 (by decide) (by decide +kernel) rfl dX9_counts_80 ?_
          refine lv_icmp_le (tgt := 95) S.1 S.2.1 dX9_counts_83 (by decide) (fun c83 => ?_) (fun c83 => ?_)
          ·
            refine lv_aload_n S.1 S.2.1 dX9_counts_95 rfl (lv_at hl 0 rfl) ?_
            refine gget S hE M (C := RX9) (T := TX9) (N := 28) (ci := 9) (index := 160) hwi 0 rfl rfl 25 (by decide) (by decide +kernel) rfl dX9_counts_96 ?_
            refine gput S hE M (C := RX9) (T := TX9) (N := 28) (ci := 9) (index := 160) (Gs' := [[(am 0, .inr (9, [.ref (am 1), .ref (am 2), .int (nI z.tn), .int z.mn, .int z.mk, .int z.mg, .int z.jp, .int (nI z.ct), .ref (am 3), .ref (am 4), .ref (am 5), .ref (am 6), .int (nI z.sp), .ref (am 7), .ref (am 8), .ref (am 9), .ref (am 10), .int (b2i z.on), .int z.ba, .int z.bg, .ref (am 11), .long z.up, .long z.by_, .int (y.1 + 1), .int (y.2.1 + 0), .int y.2.2, .ref (am 12), .int (nI z.wr)]))], [((am 1), .inl (xI E, 25, .inl z.sg))], [((am 2), .inl (xI E, 8, .inl z.tp))], [((am 3), .inl (xI E, 120, .inl z.fr))], [((am 4), .inl (xI E, 120, .inl z.wh))], [((am 5), .inl (xI E, 120, .inl z.sn))], [((am 6), .inl (xI E, 300, .inl z.ca))], [((am 7), .inl (xI E, 120, .inl z.hd))], [((am 8), .inl (xI E, 120, .inl z.ps))], [((am 9), .inl (xI E, 120, .inl z.tm))], [((am 10), .inl (xI E, 120, .inl z.mm))], [((am 11), .inl (xJ E, 120, .inr (.inl z.se)))], [((am 12), .inl (xI E, 400, .inl z.tx))]]) hwi tyX9 tyX9_ok nmX9 0 rfl rfl 25 (by decide) (by decide +kernel) rfl rfl rfl (Nat.le_of_ble_eq_true rfl) rfl dX9_counts_99 (fun H locs M => ?_)
            refine lv_iinc (v := nI (a + 1)) (lv' := [(2, .int (nI (a + 1))), (0, .ref (am 0)), (1, .int (nI k))]) S.1 S.2.1 dX9_counts_102 hl (k := 2) rfl (nI_1 _) (by decide) rfl (fun ls hl => ?_)
            refine lv_goto (tgt := 22) S.1 S.2.1 dX9_counts_105 (by decide) ?_
            exact ih (a + 1) (y.1 + 1, y.2.1 + 0, y.2.2) (by omega) (by rw [hI, col, if_pos c37, if_pos c60, if_pos c83]) _ _ M ls (lv_sub hl [1, 2, 0] rfl)
          ·
            refine lv_aload_n S.1 S.2.1 dX9_counts_86 rfl (lv_at hl 0 rfl) ?_
            refine gget S hE M (C := RX9) (T := TX9) (N := 28) (ci := 9) (index := 23) hwi 0 rfl rfl 8 (by decide) (by decide +kernel) rfl dX9_counts_87 ?_
            refine lv_iload_n S.1 S.2.1 dX9_counts_90 rfl (lv_at hl 2 rfl) ?_
            refine giald S hE M 3 rfl (vp_in_nI (by omega) (by omega)) dX9_counts_91 ?_
            refine gtop (x' := z.fr a) (by rw [nI_clamp (by omega)]) ?_
            refine lv_goto (tgt := 99) S.1 S.2.1 dX9_counts_92 (by decide) ?_
            refine gput S hE M (C := RX9) (T := TX9) (N := 28) (ci := 9) (index := 160) (Gs' := [[(am 0, .inr (9, [.ref (am 1), .ref (am 2), .int (nI z.tn), .int z.mn, .int z.mk, .int z.mg, .int z.jp, .int (nI z.ct), .ref (am 3), .ref (am 4), .ref (am 5), .ref (am 6), .int (nI z.sp), .ref (am 7), .ref (am 8), .ref (am 9), .ref (am 10), .int (b2i z.on), .int z.ba, .int z.bg, .ref (am 11), .long z.up, .long z.by_, .int (y.1 + 1), .int (y.2.1 + 0), .int (z.fr a), .ref (am 12), .int (nI z.wr)]))], [((am 1), .inl (xI E, 25, .inl z.sg))], [((am 2), .inl (xI E, 8, .inl z.tp))], [((am 3), .inl (xI E, 120, .inl z.fr))], [((am 4), .inl (xI E, 120, .inl z.wh))], [((am 5), .inl (xI E, 120, .inl z.sn))], [((am 6), .inl (xI E, 300, .inl z.ca))], [((am 7), .inl (xI E, 120, .inl z.hd))], [((am 8), .inl (xI E, 120, .inl z.ps))], [((am 9), .inl (xI E, 120, .inl z.tm))], [((am 10), .inl (xI E, 120, .inl z.mm))], [((am 11), .inl (xJ E, 120, .inr (.inl z.se)))], [((am 12), .inl (xI E, 400, .inl z.tx))]]) hwi tyX9 tyX9_ok nmX9 0 rfl rfl 25 (by decide) (by decide +kernel) rfl rfl rfl (Nat.le_of_ble_eq_true rfl) rfl dX9_counts_99 (fun H locs M => ?_)
            refine lv_iinc (v := nI (a + 1)) (lv' := [(2, .int (nI (a + 1))), (0, .ref (am 0)), (1, .int (nI k))]) S.1 S.2.1 dX9_counts_102 hl (k := 2) rfl (nI_1 _) (by decide) rfl (fun ls hl => ?_)
            refine lv_goto (tgt := 22) S.1 S.2.1 dX9_counts_105 (by decide) ?_
            exact ih (a + 1) (y.1 + 1, y.2.1 + 0, z.fr a) (by omega) (by rw [hI, col, if_pos c37, if_pos c60, if_neg c83]) _ _ M ls (lv_sub hl [1, 2, 0] rfl)
        ·
          refine lv_iconst (v := 1) S.1 S.2.1 dX9_counts_63 (by decide) ?_
          refine lv_goto (tgt := 68) S.1 S.2.1 dX9_counts_64 (by decide) ?_
          refine lv_iadd S.1 S.2.1 dX9_counts_68 ?_
          refine gput S hE M (C := RX9) (T := TX9) (N := 28) (ci := 9) (index := 157) (Gs' := [[(am 0, .inr (9, [.ref (am 1), .ref (am 2), .int (nI z.tn), .int z.mn, .int z.mk, .int z.mg, .int z.jp, .int (nI z.ct), .ref (am 3), .ref (am 4), .ref (am 5), .ref (am 6), .int (nI z.sp), .ref (am 7), .ref (am 8), .ref (am 9), .ref (am 10), .int (b2i z.on), .int z.ba, .int z.bg, .ref (am 11), .long z.up, .long z.by_, .int (y.1 + 1), .int (y.2.1 + 1), .int y.2.2, .ref (am 12), .int (nI z.wr)]))], [((am 1), .inl (xI E, 25, .inl z.sg))], [((am 2), .inl (xI E, 8, .inl z.tp))], [((am 3), .inl (xI E, 120, .inl z.fr))], [((am 4), .inl (xI E, 120, .inl z.wh))], [((am 5), .inl (xI E, 120, .inl z.sn))], [((am 6), .inl (xI E, 300, .inl z.ca))], [((am 7), .inl (xI E, 120, .inl z.hd))], [((am 8), .inl (xI E, 120, .inl z.ps))], [((am 9), .inl (xI E, 120, .inl z.tm))], [((am 10), .inl (xI E, 120, .inl z.mm))], [((am 11), .inl (xJ E, 120, .inr (.inl z.se)))], [((am 12), .inl (xI E, 400, .inl z.tx))]]) hwi tyX9 tyX9_ok nmX9 0 rfl rfl 24 (by decide) (by decide +kernel) rfl rfl rfl (Nat.le_of_ble_eq_true rfl) rfl dX9_counts_69 (fun H locs M => ?_)
          refine lv_aload_n S.1 S.2.1 dX9_counts_72 rfl (lv_at hl 0 rfl) ?_
          refine lv_aload_n S.1 S.2.1 dX9_counts_73 rfl (lv_at hl 0 rfl) ?_
          refine gget S hE M (C := RX9) (T := TX9) (N := 28) (ci := 9) (index := 23) hwi 0 rfl rfl 8 (by decide) (by decide +kernel) rfl dX9_counts_74 ?_
          refine lv_iload_n S.1 S.2.1 dX9_counts_77 rfl (lv_at hl 2 rfl) ?_
          refine giald S hE M 3 rfl (vp_in_nI (by omega) (by omega)) dX9_counts_78 ?_
          refine gtop (x' := z.fr a) (by rw [nI_clamp (by omega)]) ?_
          refine lv_aload_n S.1 S.2.1 dX9_counts_79 rfl (lv_at hl 0 rfl) ?_
          refine gget S hE M (C := RX9) (T := TX9) (N := 28) (ci := 9) (index := 160) hwi 0 rfl rfl 25 (by decide) (by decide +kernel) rfl dX9_counts_80 ?_
          refine lv_icmp_le (tgt := 95) S.1 S.2.1 dX9_counts_83 (by decide) (fun c83 => ?_) (fun c83 => ?_)
          ·
            refine lv_aload_n S.1 S.2.1 dX9_counts_95 rfl (lv_at hl 0 rfl) ?_
            refine gget S hE M (C := RX9) (T := TX9) (N := 28) (ci := 9) (index := 160) hwi 0 rfl rfl 25 (by decide) (by decide +kernel) rfl dX9_counts_96 ?_
            refine gput S hE M (C := RX9) (T := TX9) (N := 28) (ci := 9) (index := 160) (Gs' := [[(am 0, .inr (9, [.ref (am 1), .ref (am 2), .int (nI z.tn), .int z.mn, .int z.mk, .int z.mg, .int z.jp, .int (nI z.ct), .ref (am 3), .ref (am 4), .ref (am 5), .ref (am 6), .int (nI z.sp), .ref (am 7), .ref (am 8), .ref (am 9), .ref (am 10), .int (b2i z.on), .int z.ba, .int z.bg, .ref (am 11), .long z.up, .long z.by_, .int (y.1 + 1), .int (y.2.1 + 1), .int y.2.2, .ref (am 12), .int (nI z.wr)]))], [((am 1), .inl (xI E, 25, .inl z.sg))], [((am 2), .inl (xI E, 8, .inl z.tp))], [((am 3), .inl (xI E, 120, .inl z.fr))], [((am 4), .inl (xI E, 120, .inl z.wh))], [((am 5), .inl (xI E, 120, .inl z.sn))], [((am 6), .inl (xI E, 300, .inl z.ca))], [((am 7), .inl (xI E, 120, .inl z.hd))], [((am 8), .inl (xI E, 120, .inl z.ps))], [((am 9), .inl (xI E, 120, .inl z.tm))], [((am 10), .inl (xI E, 120, .inl z.mm))], [((am 11), .inl (xJ E, 120, .inr (.inl z.se)))], [((am 12), .inl (xI E, 400, .inl z.tx))]]) hwi tyX9 tyX9_ok nmX9 0 rfl rfl 25 (by decide) (by decide +kernel) rfl rfl rfl (Nat.le_of_ble_eq_true rfl) rfl dX9_counts_99 (fun H locs M => ?_)
            refine lv_iinc (v := nI (a + 1)) (lv' := [(2, .int (nI (a + 1))), (0, .ref (am 0)), (1, .int (nI k))]) S.1 S.2.1 dX9_counts_102 hl (k := 2) rfl (nI_1 _) (by decide) rfl (fun ls hl => ?_)
            refine lv_goto (tgt := 22) S.1 S.2.1 dX9_counts_105 (by decide) ?_
            exact ih (a + 1) (y.1 + 1, y.2.1 + 1, y.2.2) (by omega) (by rw [hI, col, if_pos c37, if_neg c60, if_pos c83]) _ _ M ls (lv_sub hl [1, 2, 0] rfl)
          ·
            refine lv_aload_n S.1 S.2.1 dX9_counts_86 rfl (lv_at hl 0 rfl) ?_
            refine gget S hE M (C := RX9) (T := TX9) (N := 28) (ci := 9) (index := 23) hwi 0 rfl rfl 8 (by decide) (by decide +kernel) rfl dX9_counts_87 ?_
            refine lv_iload_n S.1 S.2.1 dX9_counts_90 rfl (lv_at hl 2 rfl) ?_
            refine giald S hE M 3 rfl (vp_in_nI (by omega) (by omega)) dX9_counts_91 ?_
            refine gtop (x' := z.fr a) (by rw [nI_clamp (by omega)]) ?_
            refine lv_goto (tgt := 99) S.1 S.2.1 dX9_counts_92 (by decide) ?_
            refine gput S hE M (C := RX9) (T := TX9) (N := 28) (ci := 9) (index := 160) (Gs' := [[(am 0, .inr (9, [.ref (am 1), .ref (am 2), .int (nI z.tn), .int z.mn, .int z.mk, .int z.mg, .int z.jp, .int (nI z.ct), .ref (am 3), .ref (am 4), .ref (am 5), .ref (am 6), .int (nI z.sp), .ref (am 7), .ref (am 8), .ref (am 9), .ref (am 10), .int (b2i z.on), .int z.ba, .int z.bg, .ref (am 11), .long z.up, .long z.by_, .int (y.1 + 1), .int (y.2.1 + 1), .int (z.fr a), .ref (am 12), .int (nI z.wr)]))], [((am 1), .inl (xI E, 25, .inl z.sg))], [((am 2), .inl (xI E, 8, .inl z.tp))], [((am 3), .inl (xI E, 120, .inl z.fr))], [((am 4), .inl (xI E, 120, .inl z.wh))], [((am 5), .inl (xI E, 120, .inl z.sn))], [((am 6), .inl (xI E, 300, .inl z.ca))], [((am 7), .inl (xI E, 120, .inl z.hd))], [((am 8), .inl (xI E, 120, .inl z.ps))], [((am 9), .inl (xI E, 120, .inl z.tm))], [((am 10), .inl (xI E, 120, .inl z.mm))], [((am 11), .inl (xJ E, 120, .inr (.inl z.se)))], [((am 12), .inl (xI E, 400, .inl z.tx))]]) hwi tyX9 tyX9_ok nmX9 0 rfl rfl 25 (by decide) (by decide +kernel) rfl rfl rfl (Nat.le_of_ble_eq_true rfl) rfl dX9_counts_99 (fun H locs M => ?_)
            refine lv_iinc (v := nI (a + 1)) (lv' := [(2, .int (nI (a + 1))), (0, .ref (am 0)), (1, .int (nI k))]) S.1 S.2.1 dX9_counts_102 hl (k := 2) rfl (nI_1 _) (by decide) rfl (fun ls hl => ?_)
            refine lv_goto (tgt := 22) S.1 S.2.1 dX9_counts_105 (by decide) ?_
            exact ih (a + 1) (y.1 + 1, y.2.1 + 1, z.fr a) (by omega) (by rw [hI, col, if_pos c37, if_neg c60, if_neg c83]) _ _ M ls (lv_sub hl [1, 2, 0] rfl)
  refine lv_aload_n S.1 S.2.1 dX9_counts_0 rfl (lv_at hl 0 rfl) ?_
  refine lv_iconst (v := 0) S.1 S.2.1 dX9_counts_1 (by decide) ?_
  refine gput S hE M (C := RX9) (T := TX9) (N := 28) (ci := 9) (index := 154) (Gs' := [[(am 0, .inr (9, [.ref (am 1), .ref (am 2), .int (nI z.tn), .int z.mn, .int z.mk, .int z.mg, .int z.jp, .int (nI z.ct), .ref (am 3), .ref (am 4), .ref (am 5), .ref (am 6), .int (nI z.sp), .ref (am 7), .ref (am 8), .ref (am 9), .ref (am 10), .int (b2i z.on), .int z.ba, .int z.bg, .ref (am 11), .long z.up, .long z.by_, .int 0, .int z.po, .int z.gr, .ref (am 12), .int (nI z.wr)]))], [((am 1), .inl (xI E, 25, .inl z.sg))], [((am 2), .inl (xI E, 8, .inl z.tp))], [((am 3), .inl (xI E, 120, .inl z.fr))], [((am 4), .inl (xI E, 120, .inl z.wh))], [((am 5), .inl (xI E, 120, .inl z.sn))], [((am 6), .inl (xI E, 300, .inl z.ca))], [((am 7), .inl (xI E, 120, .inl z.hd))], [((am 8), .inl (xI E, 120, .inl z.ps))], [((am 9), .inl (xI E, 120, .inl z.tm))], [((am 10), .inl (xI E, 120, .inl z.mm))], [((am 11), .inl (xJ E, 120, .inr (.inl z.se)))], [((am 12), .inl (xI E, 400, .inl z.tx))]]) hwi tyX9 tyX9_ok nmX9 0 rfl rfl 23 (by decide) (by decide +kernel) rfl rfl rfl (Nat.le_of_ble_eq_true rfl) rfl dX9_counts_2 (fun H locs M => ?_)
  refine lv_aload_n S.1 S.2.1 dX9_counts_5 rfl (lv_at hl 0 rfl) ?_
  refine lv_iconst (v := 0) S.1 S.2.1 dX9_counts_6 (by decide) ?_
  refine gput S hE M (C := RX9) (T := TX9) (N := 28) (ci := 9) (index := 157) (Gs' := [[(am 0, .inr (9, [.ref (am 1), .ref (am 2), .int (nI z.tn), .int z.mn, .int z.mk, .int z.mg, .int z.jp, .int (nI z.ct), .ref (am 3), .ref (am 4), .ref (am 5), .ref (am 6), .int (nI z.sp), .ref (am 7), .ref (am 8), .ref (am 9), .ref (am 10), .int (b2i z.on), .int z.ba, .int z.bg, .ref (am 11), .long z.up, .long z.by_, .int 0, .int 0, .int z.gr, .ref (am 12), .int (nI z.wr)]))], [((am 1), .inl (xI E, 25, .inl z.sg))], [((am 2), .inl (xI E, 8, .inl z.tp))], [((am 3), .inl (xI E, 120, .inl z.fr))], [((am 4), .inl (xI E, 120, .inl z.wh))], [((am 5), .inl (xI E, 120, .inl z.sn))], [((am 6), .inl (xI E, 300, .inl z.ca))], [((am 7), .inl (xI E, 120, .inl z.hd))], [((am 8), .inl (xI E, 120, .inl z.ps))], [((am 9), .inl (xI E, 120, .inl z.tm))], [((am 10), .inl (xI E, 120, .inl z.mm))], [((am 11), .inl (xJ E, 120, .inr (.inl z.se)))], [((am 12), .inl (xI E, 400, .inl z.tx))]]) hwi tyX9 tyX9_ok nmX9 0 rfl rfl 24 (by decide) (by decide +kernel) rfl rfl rfl (Nat.le_of_ble_eq_true rfl) rfl dX9_counts_7 (fun H locs M => ?_)
  refine lv_aload_n S.1 S.2.1 dX9_counts_10 rfl (lv_at hl 0 rfl) ?_
  refine lv_aload_n S.1 S.2.1 dX9_counts_11 rfl (lv_at hl 0 rfl) ?_
  refine gget S hE M (C := RX9) (T := TX9) (N := 28) (ci := 9) (index := 35) hwi 0 rfl rfl 13 (by decide) (by decide +kernel) rfl dX9_counts_12 ?_
  refine lv_iload_n S.1 S.2.1 dX9_counts_15 rfl (lv_at hl 1 rfl) ?_
  refine giald S hE M 7 rfl (vp_in_nI (by omega) (by omega)) dX9_counts_16 ?_
  refine gtop (x' := z.hd k) (by rw [nI_clamp (by omega)]) ?_
  refine gput S hE M (C := RX9) (T := TX9) (N := 28) (ci := 9) (index := 160) (Gs' := [[(am 0, .inr (9, [.ref (am 1), .ref (am 2), .int (nI z.tn), .int z.mn, .int z.mk, .int z.mg, .int z.jp, .int (nI z.ct), .ref (am 3), .ref (am 4), .ref (am 5), .ref (am 6), .int (nI z.sp), .ref (am 7), .ref (am 8), .ref (am 9), .ref (am 10), .int (b2i z.on), .int z.ba, .int z.bg, .ref (am 11), .long z.up, .long z.by_, .int 0, .int 0, .int (z.hd k), .ref (am 12), .int (nI z.wr)]))], [((am 1), .inl (xI E, 25, .inl z.sg))], [((am 2), .inl (xI E, 8, .inl z.tp))], [((am 3), .inl (xI E, 120, .inl z.fr))], [((am 4), .inl (xI E, 120, .inl z.wh))], [((am 5), .inl (xI E, 120, .inl z.sn))], [((am 6), .inl (xI E, 300, .inl z.ca))], [((am 7), .inl (xI E, 120, .inl z.hd))], [((am 8), .inl (xI E, 120, .inl z.ps))], [((am 9), .inl (xI E, 120, .inl z.tm))], [((am 10), .inl (xI E, 120, .inl z.mm))], [((am 11), .inl (xJ E, 120, .inr (.inl z.se)))], [((am 12), .inl (xI E, 400, .inl z.tx))]]) hwi tyX9 tyX9_ok nmX9 0 rfl rfl 25 (by decide) (by decide +kernel) rfl rfl rfl (Nat.le_of_ble_eq_true rfl) rfl dX9_counts_17 (fun H locs M => ?_)
  refine lv_iconst (v := 0) S.1 S.2.1 dX9_counts_20 (by decide) ?_
  refine lv_istore_n (lv' := [(2, .int 0), (0, .ref (am 0)), (1, .int (nI k))]) S.1 S.2.1 dX9_counts_21 rfl hl (by decide) rfl (fun ls hl => ?_)
  exact hL z.ct 0 (0, 0, z.hd k) (by omega) rfl _ _ M ls (lv_sub hl [1, 2, 0] rfl)

set_option maxHeartbeats 4000000 in
set_option maxRecDepth 100000 in
theorem c_X9_missing (l : Launch) (E : xE) (am : Nat → Nat) (z : MdS) (k : Nat) (hk : k < 120) (hc : z.ct ≤ 120) (hsn : ∀ a, a < z.ct → vp_in (z.sn a) 120) : mI l yX9_missing wsX9_missing (xrm 3 64) E [.ref (am 0), .int (nI k)] (modGs E am z) (z.miss k) (modGs E am (z.cnts k)) := by
  intro sz
  refine Met.ofW (cc := cX9_missing) (maxL := 2) (ret := (some .int)) (by decide +kernel) rfl ?_
  intro vp ve s vm args below meth vc s₁ B hml hv
  obtain ⟨rfl, S, hr, hlk, hnm, A, hA, hE, M⟩ := genter B hml hv
  rw [hA]
  obtain ⟨ls, hfr, hl⟩ := gst (m := vm) (as := [.ref (am 0), .int (nI k)]) (n := 2) (Nat.le_of_ble_eq_true rfl)
  rw [hfr]
  clear hfr hA
  have hl : lv_has ls 2 [(0, .ref (am 0)), (1, .int (nI k))] := hl
  have M : gM E A s.heap [[(am 0, .inr (9, [.ref (am 1), .ref (am 2), .int (nI z.tn), .int z.mn, .int z.mk, .int z.mg, .int z.jp, .int (nI z.ct), .ref (am 3), .ref (am 4), .ref (am 5), .ref (am 6), .int (nI z.sp), .ref (am 7), .ref (am 8), .ref (am 9), .ref (am 10), .int (b2i z.on), .int z.ba, .int z.bg, .ref (am 11), .long z.up, .long z.by_, .int z.co, .int z.po, .int z.gr, .ref (am 12), .int (nI z.wr)]))], [((am 1), .inl (xI E, 25, .inl z.sg))], [((am 2), .inl (xI E, 8, .inl z.tp))], [((am 3), .inl (xI E, 120, .inl z.fr))], [((am 4), .inl (xI E, 120, .inl z.wh))], [((am 5), .inl (xI E, 120, .inl z.sn))], [((am 6), .inl (xI E, 300, .inl z.ca))], [((am 7), .inl (xI E, 120, .inl z.hd))], [((am 8), .inl (xI E, 120, .inl z.ps))], [((am 9), .inl (xI E, 120, .inl z.tm))], [((am 10), .inl (xI E, 120, .inl z.mm))], [((am 11), .inl (xJ E, 120, .inr (.inl z.se)))], [((am 12), .inl (xI E, 400, .inl z.tx))]] s.heap [] := M
  have hwi : ∀ w ∈ u_ws RX9 TX9 28, w ∈ wsX9_missing := by decide +kernel
  refine lv_aload_n S.1 S.2.1 dX9_missing_0 rfl (lv_at hl 0 rfl) ?_
  refine lv_iload_n S.1 S.2.1 dX9_missing_1 rfl (lv_at hl 1 rfl) ?_
  refine gcallv (L := []) (Mid := modGs E am z) (Rr := []) (Mid' := modGs E am (MdS.cnts z k)) hE M rfl (rfl) (rfl) (fun hgH => va_runV (As := [.int (nI k)]) (rest := []) S (c_X9_counts l E am z k  hk hc hsn _) (cwV 1 S.2.2.2.2 gX9_missing_X9_counts rfl rfl rfl kd_X9_counts ⟨Nat.le_of_ble_eq_true rfl, Nat.le_of_ble_eq_true rfl⟩) (hgH.V hE (show vwCl[9]? = some (RX9, TX9, 28) from rfl) rfl) rfl rfl hl.1 rfl (lv_room (Nat.le_of_ble_eq_true rfl)) dX9_missing_2 ⟨Nat.zero_le _, Nat.zero_le _⟩) (fun H locs M => ?_)
  have M : gM E A s.heap [[(am 0, .inr (9, [.ref (am 1), .ref (am 2), .int (nI (MdS.cnts z k).tn), .int ((MdS.cnts z k).mn), .int ((MdS.cnts z k).mk), .int ((MdS.cnts z k).mg), .int ((MdS.cnts z k).jp), .int (nI (MdS.cnts z k).ct), .ref (am 3), .ref (am 4), .ref (am 5), .ref (am 6), .int (nI (MdS.cnts z k).sp), .ref (am 7), .ref (am 8), .ref (am 9), .ref (am 10), .int (b2i (MdS.cnts z k).on), .int ((MdS.cnts z k).ba), .int ((MdS.cnts z k).bg), .ref (am 11), .long ((MdS.cnts z k).up), .long ((MdS.cnts z k).by_), .int ((MdS.cnts z k).co), .int ((MdS.cnts z k).po), .int ((MdS.cnts z k).gr), .ref (am 12), .int (nI (MdS.cnts z k).wr)]))], [((am 1), .inl (xI E, 25, .inl ((MdS.cnts z k).sg)))], [((am 2), .inl (xI E, 8, .inl ((MdS.cnts z k).tp)))], [((am 3), .inl (xI E, 120, .inl ((MdS.cnts z k).fr)))], [((am 4), .inl (xI E, 120, .inl ((MdS.cnts z k).wh)))], [((am 5), .inl (xI E, 120, .inl ((MdS.cnts z k).sn)))], [((am 6), .inl (xI E, 300, .inl ((MdS.cnts z k).ca)))], [((am 7), .inl (xI E, 120, .inl ((MdS.cnts z k).hd)))], [((am 8), .inl (xI E, 120, .inl ((MdS.cnts z k).ps)))], [((am 9), .inl (xI E, 120, .inl ((MdS.cnts z k).tm)))], [((am 10), .inl (xI E, 120, .inl ((MdS.cnts z k).mm)))], [((am 11), .inl (xJ E, 120, .inr (.inl ((MdS.cnts z k).se))))], [((am 12), .inl (xI E, 400, .inl ((MdS.cnts z k).tx)))]] H locs := M
  refine lv_aload_n S.1 S.2.1 dX9_missing_5 rfl (lv_at hl 0 rfl) ?_
  refine gget S hE M (C := RX9) (T := TX9) (N := 28) (ci := 9) (index := 160) hwi 0 rfl rfl 25 (by decide) (by decide +kernel) rfl dX9_missing_6 ?_
  refine lv_aload_n S.1 S.2.1 dX9_missing_9 rfl (lv_at hl 0 rfl) ?_
  refine gget S hE M (C := RX9) (T := TX9) (N := 28) (ci := 9) (index := 35) hwi 0 rfl rfl 13 (by decide) (by decide +kernel) rfl dX9_missing_10 ?_
  refine lv_iload_n S.1 S.2.1 dX9_missing_13 rfl (lv_at hl 1 rfl) ?_
  refine giald S hE M 7 rfl (vp_in_nI (by omega) (by omega)) dX9_missing_14 ?_
  refine gtop (x' := ((MdS.cnts z k).hd) k) (by rw [nI_clamp (by omega)]) ?_
  refine lv_isub S.1 S.2.1 dX9_missing_15 ?_
  refine lv_iconst (v := 1) S.1 S.2.1 dX9_missing_16 (by decide) ?_
  refine lv_iadd S.1 S.2.1 dX9_missing_17 ?_
  refine lv_aload_n S.1 S.2.1 dX9_missing_18 rfl (lv_at hl 0 rfl) ?_
  refine gget S hE M (C := RX9) (T := TX9) (N := 28) (ci := 9) (index := 154) hwi 0 rfl rfl 23 (by decide) (by decide +kernel) rfl dX9_missing_19 ?_
  refine lv_isub S.1 S.2.1 dX9_missing_22 ?_
  exact giret S hr hlk M (rfl) (rfl) dX9_missing_23

set_option maxHeartbeats 4000000 in
set_option maxRecDepth 100000 in
theorem c_X9_isSpurt (l : Launch) (E : xE) (am : Nat → Nat) (z : MdS) (k : Int32) : mI l yX9_isSpurt wsX9_isSpurt (xrm 1 22) E [.ref (am 0), .int k] (modGs E am z) (win k 0 (nI z.sp - 1)) (modGs E am z) := by
  intro sz
  refine Met.ofW (cc := cX9_isSpurt) (maxL := 2) (ret := (some .boolean)) (by decide +kernel) rfl ?_
  intro vp ve s vm args below meth vc s₁ B hml hv
  obtain ⟨rfl, S, hr, hlk, hnm, A, hA, hE, M⟩ := genter B hml hv
  rw [hA]
  obtain ⟨ls, hfr, hl⟩ := gst (m := vm) (as := [.ref (am 0), .int k]) (n := 2) (Nat.le_of_ble_eq_true rfl)
  rw [hfr]
  clear hfr hA
  have hl : lv_has ls 2 [(0, .ref (am 0)), (1, .int k)] := hl
  have M : gM E A s.heap [[(am 0, .inr (9, [.ref (am 1), .ref (am 2), .int (nI z.tn), .int z.mn, .int z.mk, .int z.mg, .int z.jp, .int (nI z.ct), .ref (am 3), .ref (am 4), .ref (am 5), .ref (am 6), .int (nI z.sp), .ref (am 7), .ref (am 8), .ref (am 9), .ref (am 10), .int (b2i z.on), .int z.ba, .int z.bg, .ref (am 11), .long z.up, .long z.by_, .int z.co, .int z.po, .int z.gr, .ref (am 12), .int (nI z.wr)]))], [((am 1), .inl (xI E, 25, .inl z.sg))], [((am 2), .inl (xI E, 8, .inl z.tp))], [((am 3), .inl (xI E, 120, .inl z.fr))], [((am 4), .inl (xI E, 120, .inl z.wh))], [((am 5), .inl (xI E, 120, .inl z.sn))], [((am 6), .inl (xI E, 300, .inl z.ca))], [((am 7), .inl (xI E, 120, .inl z.hd))], [((am 8), .inl (xI E, 120, .inl z.ps))], [((am 9), .inl (xI E, 120, .inl z.tm))], [((am 10), .inl (xI E, 120, .inl z.mm))], [((am 11), .inl (xJ E, 120, .inr (.inl z.se)))], [((am 12), .inl (xI E, 400, .inl z.tx))]] s.heap [] := M
  have hwi : ∀ w ∈ u_ws RX9 TX9 28, w ∈ wsX9_isSpurt := by decide +kernel
  refine lv_iload_n S.1 S.2.1 dX9_isSpurt_0 rfl (lv_at hl 1 rfl) ?_
  refine lv_iconst (v := 0) S.1 S.2.1 dX9_isSpurt_1 (by decide) ?_
  refine lv_aload_n S.1 S.2.1 dX9_isSpurt_2 rfl (lv_at hl 0 rfl) ?_
  refine gget S hE M (C := RX9) (T := TX9) (N := 28) (ci := 9) (index := 75) hwi 0 rfl rfl 12 (by decide) (by decide +kernel) rfl dX9_isSpurt_3 ?_
  refine lv_iconst (v := 1) S.1 S.2.1 dX9_isSpurt_6 (by decide) ?_
  refine lv_isub S.1 S.2.1 dX9_isSpurt_7 ?_
  refine gcalli (L := []) (Mid := []) (Rr := [[(am 0, .inr (9, [.ref (am 1), .ref (am 2), .int (nI z.tn), .int z.mn, .int z.mk, .int z.mg, .int z.jp, .int (nI z.ct), .ref (am 3), .ref (am 4), .ref (am 5), .ref (am 6), .int (nI z.sp), .ref (am 7), .ref (am 8), .ref (am 9), .ref (am 10), .int (b2i z.on), .int z.ba, .int z.bg, .ref (am 11), .long z.up, .long z.by_, .int z.co, .int z.po, .int z.gr, .ref (am 12), .int (nI z.wr)]))], [((am 1), .inl (xI E, 25, .inl z.sg))], [((am 2), .inl (xI E, 8, .inl z.tp))], [((am 3), .inl (xI E, 120, .inl z.fr))], [((am 4), .inl (xI E, 120, .inl z.wh))], [((am 5), .inl (xI E, 120, .inl z.sn))], [((am 6), .inl (xI E, 300, .inl z.ca))], [((am 7), .inl (xI E, 120, .inl z.hd))], [((am 8), .inl (xI E, 120, .inl z.ps))], [((am 9), .inl (xI E, 120, .inl z.tm))], [((am 10), .inl (xI E, 120, .inl z.mm))], [((am 11), .inl (xJ E, 120, .inr (.inl z.se)))], [((am 12), .inl (xI E, 400, .inl z.tx))]]) (Mid' := []) hE M rfl (rfl) (rfl) (fun hgH => va_runS (As := [.int k, .int 0, .int ((nI z.sp) - 1)]) (rest := []) S (c_X9_within l E k 0 ((nI z.sp) - 1) _) (va_cwS 3 S.2.2.2.2 gX9_isSpurt_X9_within rfl rfl rfl kd_X9_within.2 ⟨Nat.le_of_ble_eq_true rfl, Nat.le_of_ble_eq_true rfl⟩) hgH.S rfl rfl hl.1 rfl (lv_room (Nat.le_of_ble_eq_true rfl)) dX9_isSpurt_8 ⟨Nat.zero_le _, Nat.zero_le _⟩) (fun H locs M => ?_)
  have M : gM E A s.heap [[(am 0, .inr (9, [.ref (am 1), .ref (am 2), .int (nI z.tn), .int z.mn, .int z.mk, .int z.mg, .int z.jp, .int (nI z.ct), .ref (am 3), .ref (am 4), .ref (am 5), .ref (am 6), .int (nI z.sp), .ref (am 7), .ref (am 8), .ref (am 9), .ref (am 10), .int (b2i z.on), .int z.ba, .int z.bg, .ref (am 11), .long z.up, .long z.by_, .int z.co, .int z.po, .int z.gr, .ref (am 12), .int (nI z.wr)]))], [((am 1), .inl (xI E, 25, .inl z.sg))], [((am 2), .inl (xI E, 8, .inl z.tp))], [((am 3), .inl (xI E, 120, .inl z.fr))], [((am 4), .inl (xI E, 120, .inl z.wh))], [((am 5), .inl (xI E, 120, .inl z.sn))], [((am 6), .inl (xI E, 300, .inl z.ca))], [((am 7), .inl (xI E, 120, .inl z.hd))], [((am 8), .inl (xI E, 120, .inl z.ps))], [((am 9), .inl (xI E, 120, .inl z.tm))], [((am 10), .inl (xI E, 120, .inl z.mm))], [((am 11), .inl (xJ E, 120, .inr (.inl z.se)))], [((am 12), .inl (xI E, 400, .inl z.tx))]] H locs := M
  exact gzret S hr hlk M (win_nar _ _ _) (rfl) (rfl) dX9_isSpurt_11
