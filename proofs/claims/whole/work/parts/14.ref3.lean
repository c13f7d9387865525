theorem kd_X9_isShut : yX9_isShut.cls = RX9 ∧ yX9_isShut.cls ≠ "java/lang/invoke/MethodHandle" ∧ yX9_isShut.cls ≠ "java/lang/invoke/VarHandle" ∧ (parseMethodDescriptor yX9_isShut.desc).map (fun d => d.parameters.length) = some 4 := by decide +kernel
theorem kd_X9_isSpurt : yX9_isSpurt.cls = RX9 ∧ yX9_isSpurt.cls ≠ "java/lang/invoke/MethodHandle" ∧ yX9_isSpurt.cls ≠ "java/lang/invoke/VarHandle" ∧ (parseMethodDescriptor yX9_isSpurt.desc).map (fun d => d.parameters.length) = some 1 := by decide +kernel
theorem kd_X9_missing : yX9_missing.cls = RX9 ∧ yX9_missing.cls ≠ "java/lang/invoke/MethodHandle" ∧ yX9_missing.cls ≠ "java/lang/invoke/VarHandle" ∧ (parseMethodDescriptor yX9_missing.desc).map (fun d => d.parameters.length) = some 1 := by decide +kernel
theorem kd_X9_playedAt : yX9_playedAt.cls = RX9 ∧ yX9_playedAt.cls ≠ "java/lang/invoke/MethodHandle" ∧ yX9_playedAt.cls ≠ "java/lang/invoke/VarHandle" ∧ (parseMethodDescriptor yX9_playedAt.desc).map (fun d => d.parameters.length) = some 1 := by decide +kernel
theorem kd_X9_spikesBy : yX9_spikesBy.cls = RX9 ∧ yX9_spikesBy.cls ≠ "java/lang/invoke/MethodHandle" ∧ yX9_spikesBy.cls ≠ "java/lang/invoke/VarHandle" ∧ (parseMethodDescriptor yX9_spikesBy.desc).map (fun d => d.parameters.length) = some 1 := by decide +kernel
theorem kd_X9_timeFor : yX9_timeFor.cls = RX9 ∧ yX9_timeFor.cls ≠ "java/lang/invoke/MethodHandle" ∧ yX9_timeFor.cls ≠ "java/lang/invoke/VarHandle" ∧ (parseMethodDescriptor yX9_timeFor.desc).map (fun d => d.parameters.length) = some 2 := by decide +kernel
set_option maxHeartbeats 4000000 in
set_option maxRecDepth 100000 in
theorem c_X9_ofFrame_out (l : Launch) (E : xE) (am : Nat → Nat) (z : MdS) (n : Int32) (w : Int32) (h8 : win n 0 299 = 0) : mI l yX9_ofFrame wsX9_ofFrame (xrm 1 22) E [.ref (am 0), .int n, .int w] (modGs E am z) (z.ofFrame n w) (modGs E am z) := by
  intro sz
  refine Met.ofW (cc := cX9_ofFrame) (maxL := 4) (ret := (some .int)) (by decide +kernel) rfl ?_
  intro vp ve s vm args below meth vc s₁ B hml hv
  obtain ⟨rfl, S, hr, hlk, hnm, A, hA, hE, M⟩ := genter B hml hv
  rw [hA]
  obtain ⟨ls, hfr, hl⟩ := gst (m := vm) (as := [.ref (am 0), .int n, .int w]) (n := 4) (Nat.le_of_ble_eq_true rfl)
  rw [hfr]
  clear hfr hA
  have hl : lv_has ls 4 [(0, .ref (am 0)), (1, .int n), (2, .int w)] := hl
  have M : gM E A s.heap [[(am 0, .inr (9, [.ref (am 1), .ref (am 2), .int (nI z.tn), .int z.mn, .int z.mk, .int z.mg, .int z.jp, .int (nI z.ct), .ref (am 3), .ref (am 4), .ref (am 5), .ref (am 6), .int (nI z.sp), .ref (am 7), .ref (am 8), .ref (am 9), .ref (am 10), .int (b2i z.on), .int z.ba, .int z.bg, .ref (am 11), .long z.up, .long z.by_, .int z.co, .int z.po, .int z.gr, .ref (am 12), .int (nI z.wr)]))], [((am 1), .inl (xI E, 25, .inl z.sg))], [((am 2), .inl (xI E, 8, .inl z.tp))], [((am 3), .inl (xI E, 120, .inl z.fr))], [((am 4), .inl (xI E, 120, .inl z.wh))], [((am 5), .inl (xI E, 120, .inl z.sn))], [((am 6), .inl (xI E, 300, .inl z.ca))], [((am 7), .inl (xI E, 120, .inl z.hd))], [((am 8), .inl (xI E, 120, .inl z.ps))], [((am 9), .inl (xI E, 120, .inl z.tm))], [((am 10), .inl (xI E, 120, .inl z.mm))], [((am 11), .inl (xJ E, 120, .inr (.inl z.se)))], [((am 12), .inl (xI E, 400, .inl z.tx))]] s.heap [] := M
  have hwi : ∀ w ∈ u_ws RX9 TX9 28, w ∈ wsX9_ofFrame := by decide +kernel
  refine lv_iload_n S.1 S.2.1 dX9_ofFrame_0 rfl (lv_at hl 1 rfl) ?_
  refine lv_iconst (v := 0) S.1 S.2.1 dX9_ofFrame_1 (by decide) ?_
  refine lv_sipush (v := 299) S.1 S.2.1 dX9_ofFrame_2 (by decide) ?_
  refine gcalli (L := []) (Mid := []) (Rr := [[(am 0, .inr (9, [.ref (am 1), .ref (am 2), .int (nI z.tn), .int z.mn, .int z.mk, .int z.mg, .int z.jp, .int (nI z.ct), .ref (am 3), .ref (am 4), .ref (am 5), .ref (am 6), .int (nI z.sp), .ref (am 7), .ref (am 8), .ref (am 9), .ref (am 10), .int (b2i z.on), .int z.ba, .int z.bg, .ref (am 11), .long z.up, .long z.by_, .int z.co, .int z.po, .int z.gr, .ref (am 12), .int (nI z.wr)]))], [((am 1), .inl (xI E, 25, .inl z.sg))], [((am 2), .inl (xI E, 8, .inl z.tp))], [((am 3), .inl (xI E, 120, .inl z.fr))], [((am 4), .inl (xI E, 120, .inl z.wh))], [((am 5), .inl (xI E, 120, .inl z.sn))], [((am 6), .inl (xI E, 300, .inl z.ca))], [((am 7), .inl (xI E, 120, .inl z.hd))], [((am 8), .inl (xI E, 120, .inl z.ps))], [((am 9), .inl (xI E, 120, .inl z.tm))], [((am 10), .inl (xI E, 120, .inl z.mm))], [((am 11), .inl (xJ E, 120, .inr (.inl z.se)))], [((am 12), .inl (xI E, 400, .inl z.tx))]]) (Mid' := []) hE M rfl (rfl) (rfl) (fun hgH => va_runS (As := [.int n, .int 0, .int 299]) (rest := []) S (c_X9_within l E n 0 299 _) (va_cwS 3 S.2.2.2.2 gX9_ofFrame_X9_within rfl rfl rfl kd_X9_within.2 ⟨Nat.le_of_ble_eq_true rfl, Nat.le_of_ble_eq_true rfl⟩) hgH.S rfl rfl hl.1 rfl (lv_room (Nat.le_of_ble_eq_true rfl)) dX9_ofFrame_5 ⟨Nat.zero_le _, Nat.zero_le _⟩) (fun H locs M => ?_)
  have M : gM E A s.heap [[(am 0, .inr (9, [.ref (am 1), .ref (am 2), .int (nI z.tn), .int z.mn, .int z.mk, .int z.mg, .int z.jp, .int (nI z.ct), .ref (am 3), .ref (am 4), .ref (am 5), .ref (am 6), .int (nI z.sp), .ref (am 7), .ref (am 8), .ref (am 9), .ref (am 10), .int (b2i z.on), .int z.ba, .int z.bg, .ref (am 11), .long z.up, .long z.by_, .int z.co, .int z.po, .int z.gr, .ref (am 12), .int (nI z.wr)]))], [((am 1), .inl (xI E, 25, .inl z.sg))], [((am 2), .inl (xI E, 8, .inl z.tp))], [((am 3), .inl (xI E, 120, .inl z.fr))], [((am 4), .inl (xI E, 120, .inl z.wh))], [((am 5), .inl (xI E, 120, .inl z.sn))], [((am 6), .inl (xI E, 300, .inl z.ca))], [((am 7), .inl (xI E, 120, .inl z.hd))], [((am 8), .inl (xI E, 120, .inl z.ps))], [((am 9), .inl (xI E, 120, .inl z.tm))], [((am 10), .inl (xI E, 120, .inl z.mm))], [((am 11), .inl (xJ E, 120, .inr (.inl z.se)))], [((am 12), .inl (xI E, 400, .inl z.tx))]] H locs := M
  refine lv_if_eq (tgt := 22) S.1 S.2.1 dX9_ofFrame_8 (by decide) (fun _ => ?_) (fun c_ => absurd (h8) c_)
  refine lv_iconst (v := (-1)) S.1 S.2.1 dX9_ofFrame_22 (by decide) ?_
  exact giret S hr hlk M (by unfold MdS.ofFrame; rw [if_pos h8]) (rfl) dX9_ofFrame_23

set_option maxHeartbeats 4000000 in
set_option maxRecDepth 100000 in
theorem c_X9_ofFrame_in (l : Launch) (E : xE) (am : Nat → Nat) (z : MdS) (n : Nat) (w : Int32) (h8 : ¬ win (nI n) 0 299 = 0) (hn : n < 300) (hc : z.ct ≤ 120) (hca : ∀ n, n < 300 → z.ca n = -9 ∨ ∃ a, a < z.ct ∧ z.ca n = nI a) (hsn : ∀ a, a < z.ct → vp_in (z.sn a) 120) : mI l yX9_ofFrame wsX9_ofFrame (xrm 2 42) E [.ref (am 0), .int (nI n), .int w] (modGs E am z) (z.ofFrame (nI n) w) (modGs E am z) := by
  intro sz
  refine Met.ofW (cc := cX9_ofFrame) (maxL := 4) (ret := (some .int)) (by decide +kernel) rfl ?_
  intro vp ve s vm args below meth vc s₁ B hml hv
  obtain ⟨rfl, S, hr, hlk, hnm, A, hA, hE, M⟩ := genter B hml hv
  rw [hA]
  obtain ⟨ls, hfr, hl⟩ := gst (m := vm) (as := [.ref (am 0), .int (nI n), .int w]) (n := 4) (Nat.le_of_ble_eq_true rfl)
  rw [hfr]
  clear hfr hA
  have hl : lv_has ls 4 [(0, .ref (am 0)), (1, .int (nI n)), (2, .int w)] := hl
  have M : gM E A s.heap [[(am 0, .inr (9, [.ref (am 1), .ref (am 2), .int (nI z.tn), .int z.mn, .int z.mk, .int z.mg, .int z.jp, .int (nI z.ct), .ref (am 3), .ref (am 4), .ref (am 5), .ref (am 6), .int (nI z.sp), .ref (am 7), .ref (am 8), .ref (am 9), .ref (am 10), .int (b2i z.on), .int z.ba, .int z.bg, .ref (am 11), .long z.up, .long z.by_, .int z.co, .int z.po, .int z.gr, .ref (am 12), .int (nI z.wr)]))], [((am 1), .inl (xI E, 25, .inl z.sg))], [((am 2), .inl (xI E, 8, .inl z.tp))], [((am 3), .inl (xI E, 120, .inl z.fr))], [((am 4), .inl (xI E, 120, .inl z.wh))], [((am 5), .inl (xI E, 120, .inl z.sn))], [((am 6), .inl (xI E, 300, .inl z.ca))], [((am 7), .inl (xI E, 120, .inl z.hd))], [((am 8), .inl (xI E, 120, .inl z.ps))], [((am 9), .inl (xI E, 120, .inl z.tm))], [((am 10), .inl (xI E, 120, .inl z.mm))], [((am 11), .inl (xJ E, 120, .inr (.inl z.se)))], [((am 12), .inl (xI E, 400, .inl z.tx))]] s.heap [] := M
  have hwi : ∀ w ∈ u_ws RX9 TX9 28, w ∈ wsX9_ofFrame := by decide +kernel
  refine lv_iload_n S.1 S.2.1 dX9_ofFrame_0 rfl (lv_at hl 1 rfl) ?_
  refine lv_iconst (v := 0) S.1 S.2.1 dX9_ofFrame_1 (by decide) ?_
  refine lv_sipush (v := 299) S.1 S.2.1 dX9_ofFrame_2 (by decide) ?_
  refine gcalli (L := []) (Mid := []) (Rr := [[(am 0, .inr (9, [.ref (am 1), .ref (am 2), .int (nI z.tn), .int z.mn, .int z.mk, .int z.mg, .int z.jp, .int (nI z.ct), .ref (am 3), .ref (am 4), .ref (am 5), .ref (am 6), .int (nI z.sp), .ref (am 7), .ref (am 8), .ref (am 9), .ref (am 10), .int (b2i z.on), .int z.ba, .int z.bg, .ref (am 11), .long z.up, .long z.by_, .int z.co, .int z.po, .int z.gr, .ref (am 12), .int (nI z.wr)]))], [((am 1), .inl (xI E, 25, .inl z.sg))], [((am 2), .inl (xI E, 8, .inl z.tp))], [((am 3), .inl (xI E, 120, .inl z.fr))], [((am 4), .inl (xI E, 120, .inl z.wh))], [((am 5), .inl (xI E, 120, .inl z.sn))], [((am 6), .inl (xI E, 300, .inl z.ca))], [((am 7), .inl (xI E, 120, .inl z.hd))], [((am 8), .inl (xI E, 120, .inl z.ps))], [((am 9), .inl (xI E, 120, .inl z.tm))], [((am 10), .inl (xI E, 120, .inl z.mm))], [((am 11), .inl (xJ E, 120, .inr (.inl z.se)))], [((am 12), .inl (xI E, 400, .inl z.tx))]]) (Mid' := []) hE M rfl (rfl) (rfl) (fun hgH => va_runS (As := [.int (nI n), .int 0, .int 299]) (rest := []) S (c_X9_within l E (nI n) 0 299 _) (va_cwS 3 S.2.2.2.2 gX9_ofFrame_X9_within rfl rfl rfl kd_X9_within.2 ⟨Nat.le_of_ble_eq_true rfl, Nat.le_of_ble_eq_true rfl⟩) hgH.S rfl rfl hl.1 rfl (lv_room (Nat.le_of_ble_eq_true rfl)) dX9_ofFrame_5 ⟨Nat.zero_le _, Nat.zero_le _⟩) (fun H locs M => ?_)
  have M : gM E A s.heap [[(am 0, .inr (9, [.ref (am 1), .ref (am 2), .int (nI z.tn), .int z.mn, .int z.mk, .int z.mg, .int z.jp, .int (nI z.ct), .ref (am 3), .ref (am 4), .ref (am 5), .ref (am 6), .int (nI z.sp), .ref (am 7), .ref (am 8), .ref (am 9), .ref (am 10), .int (b2i z.on), .int z.ba, .int z.bg, .ref (am 11), .long z.up, .long z.by_, .int z.co, .int z.po, .int z.gr, .ref (am 12), .int (nI z.wr)]))], [((am 1), .inl (xI E, 25, .inl z.sg))], [((am 2), .inl (xI E, 8, .inl z.tp))], [((am 3), .inl (xI E, 120, .inl z.fr))], [((am 4), .inl (xI E, 120, .inl z.wh))], [((am 5), .inl (xI E, 120, .inl z.sn))], [((am 6), .inl (xI E, 300, .inl z.ca))], [((am 7), .inl (xI E, 120, .inl z.hd))], [((am 8), .inl (xI E, 120, .inl z.ps))], [((am 9), .inl (xI E, 120, .inl z.tm))], [((am 10), .inl (xI E, 120, .inl z.mm))], [((am 11), .inl (xJ E, 120, .inr (.inl z.se)))], [((am 12), .inl (xI E, 400, .inl z.tx))]] H locs := M
  refine lv_if_eq (tgt := 22) S.1 S.2.1 dX9_ofFrame_8 (by decide) (fun c_ => absurd c_ (h8)) (fun _ => ?_)
  refine lv_aload_n S.1 S.2.1 dX9_ofFrame_11 rfl (lv_at hl 0 rfl) ?_
  refine gget S hE M (C := RX9) (T := TX9) (N := 28) (ci := 9) (index := 32) hwi 0 rfl rfl 11 (by decide) (by decide +kernel) rfl dX9_ofFrame_12 ?_
  refine lv_iload_n S.1 S.2.1 dX9_ofFrame_15 rfl (lv_at hl 1 rfl) ?_
  refine giald S hE M 6 rfl (vp_in_nI (by omega) (by omega)) dX9_ofFrame_16 ?_
  refine gtop (x' := z.ca n) (by rw [nI_clamp (by omega)]) ?_
  refine lv_bipush (v := (-9)) S.1 S.2.1 dX9_ofFrame_17 (by decide) ?_
  refine lv_icmp_ne (tgt := 24) S.1 S.2.1 dX9_ofFrame_19 (by decide) (fun c19 => ?_) (fun c19 => ?_)
  ·
    obtain ⟨a, ha, ea⟩ := (hca n hn).resolve_left c19
    refine lv_aload_n S.1 S.2.1 dX9_ofFrame_24 rfl (lv_at hl 0 rfl) ?_
    refine gget S hE M (C := RX9) (T := TX9) (N := 28) (ci := 9) (index := 32) hwi 0 rfl rfl 11 (by decide) (by decide +kernel) rfl dX9_ofFrame_25 ?_
    refine lv_iload_n S.1 S.2.1 dX9_ofFrame_28 rfl (lv_at hl 1 rfl) ?_
    refine giald S hE M 6 rfl (vp_in_nI (by omega) (by omega)) dX9_ofFrame_29 ?_
    refine gtop (x' := z.ca n) (by rw [nI_clamp (by omega)]) ?_
    refine gtop (x' := nI a) (ea) ?_
    refine lv_istore_n (lv' := [(3, .int (nI a)), (0, .ref (am 0)), (1, .int (nI n)), (2, .int w)]) S.1 S.2.1 dX9_ofFrame_30 rfl hl (by decide) rfl (fun ls hl => ?_)
    refine lv_iload_n S.1 S.2.1 dX9_ofFrame_31 rfl (lv_at hl 3 rfl) ?_
    by_cases c32_0 : w = 0
    ·
      refine gtop (x' := 0) c32_0 ?_
      refine lv_tableIn (off := 36) (tgt := 68) S.1 S.2.1 dX9_ofFrame_32 (by decide) (by decide) rfl (by decide) ?_
      refine lv_aload_n S.1 S.2.1 dX9_ofFrame_68 rfl (lv_at hl 1 rfl) ?_
      refine gget S hE M (C := RX9) (T := TX9) (N := 28) (ci := 9) (index := 26) hwi 0 rfl rfl 9 (by decide) (by decide +kernel) rfl dX9_ofFrame_69 ?_
      refine lv_iload_n S.1 S.2.1 dX9_ofFrame_72 rfl (lv_at hl 0 rfl) ?_
      refine giald S hE M 4 rfl (vp_in_nI (by omega) (by omega)) dX9_ofFrame_73 ?_
      refine gtop (x' := z.wh a) (by rw [nI_clamp (by omega)]) ?_
      exact giret S hr hlk M (by unfold MdS.ofFrame; rw [if_neg h8, nI_clamp (by omega), if_neg c19, ea, nI_clamp (by omega)]; unfold MdS.ofF; rw [if_pos c32_0]) (rfl) dX9_ofFrame_74
    by_cases c32_1 : w = 1
    ·
      refine gtop (x' := 1) c32_1 ?_
      refine lv_tableIn (off := 43) (tgt := 75) S.1 S.2.1 dX9_ofFrame_32 (by decide) (by decide) rfl (by decide) ?_
      refine lv_aload_n S.1 S.2.1 dX9_ofFrame_75 rfl (lv_at hl 1 rfl) ?_
      refine lv_iload_n S.1 S.2.1 dX9_ofFrame_76 rfl (lv_at hl 0 rfl) ?_
      refine gcalli (L := []) (Mid := modGs E am z) (Rr := []) (Mid' := modGs E am z) hE M rfl (rfl) (rfl) (fun hgH => va_runV (As := [.int (nI a)]) (rest := []) S (c_X9_delay l E am z a  (by omega) _) (cwV 1 S.2.2.2.2 gX9_ofFrame_X9_delay rfl rfl rfl kd_X9_delay ⟨Nat.le_of_ble_eq_true rfl, Nat.le_of_ble_eq_true rfl⟩) (hgH.V hE (show vwCl[9]? = some (RX9, TX9, 28) from rfl) rfl) rfl rfl hl.1 rfl (lv_room (Nat.le_of_ble_eq_true rfl)) dX9_ofFrame_77 ⟨Nat.zero_le _, Nat.zero_le _⟩) (fun H locs M => ?_)
      have M : gM E A s.heap [[(am 0, .inr (9, [.ref (am 1), .ref (am 2), .int (nI z.tn), .int z.mn, .int z.mk, .int z.mg, .int z.jp, .int (nI z.ct), .ref (am 3), .ref (am 4), .ref (am 5), .ref (am 6), .int (nI z.sp), .ref (am 7), .ref (am 8), .ref (am 9), .ref (am 10), .int (b2i z.on), .int z.ba, .int z.bg, .ref (am 11), .long z.up, .long z.by_, .int z.co, .int z.po, .int z.gr, .ref (am 12), .int (nI z.wr)]))], [((am 1), .inl (xI E, 25, .inl z.sg))], [((am 2), .inl (xI E, 8, .inl z.tp))], [((am 3), .inl (xI E, 120, .inl z.fr))], [((am 4), .inl (xI E, 120, .inl z.wh))], [((am 5), .inl (xI E, 120, .inl z.sn))], [((am 6), .inl (xI E, 300, .inl z.ca))], [((am 7), .inl (xI E, 120, .inl z.hd))], [((am 8), .inl (xI E, 120, .inl z.ps))], [((am 9), .inl (xI E, 120, .inl z.tm))], [((am 10), .inl (xI E, 120, .inl z.mm))], [((am 11), .inl (xJ E, 120, .inr (.inl z.se)))], [((am 12), .inl (xI E, 400, .inl z.tx))]] H locs := M
      refine lv_sipush (v := 10000) S.1 S.2.1 dX9_ofFrame_80 (by decide) ?_
      refine lv_iadd S.1 S.2.1 dX9_ofFrame_83 ?_
      exact giret S hr hlk M (by unfold MdS.ofFrame; rw [if_neg h8, nI_clamp (by omega), if_neg c19, ea, nI_clamp (by omega)]; unfold MdS.ofF; rw [if_neg c32_0, if_pos c32_1]) (rfl) dX9_ofFrame_84
    by_cases c32_2 : w = 2
    ·
      refine gtop (x' := 2) c32_2 ?_
      refine lv_tableIn (off := 53) (tgt := 85) S.1 S.2.1 dX9_ofFrame_32 (by decide) (by decide) rfl (by decide) ?_
      refine lv_aload_n S.1 S.2.1 dX9_ofFrame_85 rfl (lv_at hl 1 rfl) ?_
      refine gget S hE M (C := RX9) (T := TX9) (N := 28) (ci := 9) (index := 29) hwi 0 rfl rfl 10 (by decide) (by decide +kernel) rfl dX9_ofFrame_86 ?_
      refine lv_iload_n S.1 S.2.1 dX9_ofFrame_89 rfl (lv_at hl 0 rfl) ?_
      refine giald S hE M 5 rfl (vp_in_nI (by omega) (by omega)) dX9_ofFrame_90 ?_
      refine gtop (x' := z.sn a) (by rw [nI_clamp (by omega)]) ?_
      exact giret S hr hlk M (by unfold MdS.ofFrame; rw [if_neg h8, nI_clamp (by omega), if_neg c19, ea, nI_clamp (by omega)]; unfold MdS.ofF; rw [if_neg c32_0, if_neg c32_1, if_pos c32_2]) (rfl) dX9_ofFrame_91
    by_cases c32_3 : w = 3
    ·
      refine gtop (x' := 3) c32_3 ?_
      refine lv_tableIn (off := 60) (tgt := 92) S.1 S.2.1 dX9_ofFrame_32 (by decide) (by decide) rfl (by decide) ?_
      refine lv_aload_n S.1 S.2.1 dX9_ofFrame_92 rfl (lv_at hl 1 rfl) ?_
      refine lv_iload_n S.1 S.2.1 dX9_ofFrame_93 rfl (lv_at hl 0 rfl) ?_
      refine gcalli (L := []) (Mid := modGs E am z) (Rr := []) (Mid' := modGs E am z) hE M rfl (rfl) (rfl) (fun hgH => va_runV (As := [.int (nI a)]) (rest := []) S (c_X9_isPlayed l E am z a  (by omega) (hsn a ha) _) (cwV 1 S.2.2.2.2 gX9_ofFrame_X9_isPlayed rfl rfl rfl kd_X9_isPlayed ⟨Nat.le_of_ble_eq_true rfl, Nat.le_of_ble_eq_true rfl⟩) (hgH.V hE (show vwCl[9]? = some (RX9, TX9, 28) from rfl) rfl) rfl rfl hl.1 rfl (lv_room (Nat.le_of_ble_eq_true rfl)) dX9_ofFrame_94 ⟨Nat.zero_le _, Nat.zero_le _⟩) (fun H locs M => ?_)
      have M : gM E A s.heap [[(am 0, .inr (9, [.ref (am 1), .ref (am 2), .int (nI z.tn), .int z.mn, .int z.mk, .int z.mg, .int z.jp, .int (nI z.ct), .ref (am 3), .ref (am 4), .ref (am 5), .ref (am 6), .int (nI z.sp), .ref (am 7), .ref (am 8), .ref (am 9), .ref (am 10), .int (b2i z.on), .int z.ba, .int z.bg, .ref (am 11), .long z.up, .long z.by_, .int z.co, .int z.po, .int z.gr, .ref (am 12), .int (nI z.wr)]))], [((am 1), .inl (xI E, 25, .inl z.sg))], [((am 2), .inl (xI E, 8, .inl z.tp))], [((am 3), .inl (xI E, 120, .inl z.fr))], [((am 4), .inl (xI E, 120, .inl z.wh))], [((am 5), .inl (xI E, 120, .inl z.sn))], [((am 6), .inl (xI E, 300, .inl z.ca))], [((am 7), .inl (xI E, 120, .inl z.hd))], [((am 8), .inl (xI E, 120, .inl z.ps))], [((am 9), .inl (xI E, 120, .inl z.tm))], [((am 10), .inl (xI E, 120, .inl z.mm))], [((am 11), .inl (xJ E, 120, .inr (.inl z.se)))], [((am 12), .inl (xI E, 400, .inl z.tx))]] H locs := M
      refine lv_if_eq (tgt := 108) S.1 S.2.1 dX9_ofFrame_97 (by decide) (fun c97 => ?_) (fun c97 => ?_)
      ·
        refine lv_bipush (v := (-9)) S.1 S.2.1 dX9_ofFrame_108 (by decide) ?_
        exact giret S hr hlk M (by unfold MdS.ofFrame; rw [if_neg h8, nI_clamp (by omega), if_neg c19, ea, nI_clamp (by omega)]; unfold MdS.ofF; rw [if_neg c32_0, if_neg c32_1, if_neg c32_2, if_pos c32_3, if_pos c97]) (rfl) dX9_ofFrame_110
      ·
        refine lv_aload_n S.1 S.2.1 dX9_ofFrame_100 rfl (lv_at hl 1 rfl) ?_
        refine lv_iload_n S.1 S.2.1 dX9_ofFrame_101 rfl (lv_at hl 0 rfl) ?_
        refine gcalli (L := []) (Mid := modGs E am z) (Rr := []) (Mid' := modGs E am z) hE M rfl (rfl) (rfl) (fun hgH => va_runV (As := [.int (nI a)]) (rest := []) S (c_X9_playedAt l E am z a  (by omega) (hsn a ha) _) (cwV 1 S.2.2.2.2 gX9_ofFrame_X9_playedAt rfl rfl rfl kd_X9_playedAt ⟨Nat.le_of_ble_eq_true rfl, Nat.le_of_ble_eq_true rfl⟩) (hgH.V hE (show vwCl[9]? = some (RX9, TX9, 28) from rfl) rfl) rfl rfl hl.1 rfl (lv_room (Nat.le_of_ble_eq_true rfl)) dX9_ofFrame_102 ⟨Nat.zero_le _, Nat.zero_le _⟩) (fun H locs M => ?_)
        have M : gM E A s.heap [[(am 0, .inr (9, [.ref (am 1), .ref (am 2), .int (nI z.tn), .int z.mn, .int z.mk, .int z.mg, .int z.jp, .int (nI z.ct), .ref (am 3), .ref (am 4), .ref (am 5), .ref (am 6), .int (nI z.sp), .ref (am 7), .ref (am 8), .ref (am 9), .ref (am 10), .int (b2i z.on), .int z.ba, .int z.bg, .ref (am 11), .long z.up, .long z.by_, .int z.co, .int z.po, .int z.gr, .ref (am 12), .int (nI z.wr)]))], [((am 1), .inl (xI E, 25, .inl z.sg))], [((am 2), .inl (xI E, 8, .inl z.tp))], [((am 3), .inl (xI E, 120, .inl z.fr))], [((am 4), .inl (xI E, 120, .inl z.wh))], [((am 5), .inl (xI E, 120, .inl z.sn))], [((am 6), .inl (xI E, 300, .inl z.ca))], [((am 7), .inl (xI E, 120, .inl z.hd))], [((am 8), .inl (xI E, 120, .inl z.ps))], [((am 9), .inl (xI E, 120, .inl z.tm))], [((am 10), .inl (xI E, 120, .inl z.mm))], [((am 11), .inl (xJ E, 120, .inr (.inl z.se)))], [((am 12), .inl (xI E, 400, .inl z.tx))]] H locs := M
        refine lv_goto (tgt := 110) S.1 S.2.1 dX9_ofFrame_105 (by decide) ?_
        exact giret S hr hlk M (by unfold MdS.ofFrame; rw [if_neg h8, nI_clamp (by omega), if_neg c19, ea, nI_clamp (by omega)]; unfold MdS.ofF; rw [if_neg c32_0, if_neg c32_1, if_neg c32_2, if_pos c32_3, if_neg c97]) (rfl) dX9_ofFrame_110
    by_cases c32_4 : w = 4
    ·
      refine gtop (x' := 4) c32_4 ?_
      refine lv_tableIn (off := 79) (tgt := 111) S.1 S.2.1 dX9_ofFrame_32 (by decide) (by decide) rfl (by decide) ?_
      refine lv_iload_n S.1 S.2.1 dX9_ofFrame_111 rfl (lv_at hl 0 rfl) ?_
      exact giret S hr hlk M (by unfold MdS.ofFrame; rw [if_neg h8, nI_clamp (by omega), if_neg c19, ea, nI_clamp (by omega)]; unfold MdS.ofF; rw [if_neg c32_0, if_neg c32_1, if_neg c32_2, if_neg c32_3, if_pos c32_4]) (rfl) dX9_ofFrame_112
    refine lv_tableOut (tgt := 113) S.1 S.2.1 dX9_ofFrame_32 (by have hc32_0 := lv_neT c32_0 (a := 0) rfl; have hc32_1 := lv_neT c32_1 (a := 1) rfl; have hc32_2 := lv_neT c32_2 (a := 2) rfl; have hc32_3 := lv_neT c32_3 (a := 3) rfl; have hc32_4 := lv_neT c32_4 (a := 4) rfl; omega) (by decide) ?_
    refine lv_bipush (v := (-2)) S.1 S.2.1 dX9_ofFrame_113 (by decide) ?_
    exact giret S hr hlk M (by unfold MdS.ofFrame; rw [if_neg h8, nI_clamp (by omega), if_neg c19, ea, nI_clamp (by omega)]; unfold MdS.ofF; rw [if_neg c32_0, if_neg c32_1, if_neg c32_2, if_neg c32_3, if_neg c32_4]) (rfl) dX9_ofFrame_115
  ·
    refine lv_iconst (v := (-1)) S.1 S.2.1 dX9_ofFrame_22 (by decide) ?_
    exact giret S hr hlk M (by unfold MdS.ofFrame; rw [if_neg h8, nI_clamp (by omega), if_pos c19]) (rfl) dX9_ofFrame_23

set_option maxHeartbeats 4000000 in
set_option maxRecDepth 100000 in
theorem c_X9_ofSpurt_out (l : Launch) (E : xE) (am : Nat → Nat) (z : MdS) (k : Int32) (w : Int32) (h5 : win k 0 (nI z.sp - 1) = 0) : mI l yX9_ofSpurt wsX9_ofSpurt (xrm 2 43) E [.ref (am 0), .int k, .int w] (modGs E am z) ((MdS.ofSpurt z k w).1) (modGs E am ((MdS.ofSpurt z k w).2)) := by
  intro sz
  refine Met.ofW (cc := cX9_ofSpurt) (maxL := 3) (ret := (some .int)) (by decide +kernel) rfl ?_
  intro vp ve s vm args below meth vc s₁ B hml hv
  obtain ⟨rfl, S, hr, hlk, hnm, A, hA, hE, M⟩ := genter B hml hv
  rw [hA]
  obtain ⟨ls, hfr, hl⟩ := gst (m := vm) (as := [.ref (am 0), .int k, .int w]) (n := 3) (Nat.le_of_ble_eq_true rfl)
  rw [hfr]
  clear hfr hA
  have hl : lv_has ls 3 [(0, .ref (am 0)), (1, .int k), (2, .int w)] := hl
  have M : gM E A s.heap [[(am 0, .inr (9, [.ref (am 1), .ref (am 2), .int (nI z.tn), .int z.mn, .int z.mk, .int z.mg, .int z.jp, .int (nI z.ct), .ref (am 3), .ref (am 4), .ref (am 5), .ref (am 6), .int (nI z.sp), .ref (am 7), .ref (am 8), .ref (am 9), .ref (am 10), .int (b2i z.on), .int z.ba, .int z.bg, .ref (am 11), .long z.up, .long z.by_, .int z.co, .int z.po, .int z.gr, .ref (am 12), .int (nI z.wr)]))], [((am 1), .inl (xI E, 25, .inl z.sg))], [((am 2), .inl (xI E, 8, .inl z.tp))], [((am 3), .inl (xI E, 120, .inl z.fr))], [((am 4), .inl (xI E, 120, .inl z.wh))], [((am 5), .inl (xI E, 120, .inl z.sn))], [((am 6), .inl (xI E, 300, .inl z.ca))], [((am 7), .inl (xI E, 120, .inl z.hd))], [((am 8), .inl (xI E, 120, .inl z.ps))], [((am 9), .inl (xI E, 120, .inl z.tm))], [((am 10), .inl (xI E, 120, .inl z.mm))], [((am 11), .inl (xJ E, 120, .inr (.inl z.se)))], [((am 12), .inl (xI E, 400, .inl z.tx))]] s.heap [] := M
  have hwi : ∀ w ∈ u_ws RX9 TX9 28, w ∈ wsX9_ofSpurt := by decide +kernel
  refine lv_aload_n S.1 S.2.1 dX9_ofSpurt_0 rfl (lv_at hl 0 rfl) ?_
  refine lv_iload_n S.1 S.2.1 dX9_ofSpurt_1 rfl (lv_at hl 1 rfl) ?_
  refine gcalli (L := []) (Mid := modGs E am z) (Rr := []) (Mid' := modGs E am z) hE M rfl (rfl) (rfl) (fun hgH => va_runV (As := [.int k]) (rest := []) S (c_X9_isSpurt l E am z k  _) (cwV 1 S.2.2.2.2 gX9_ofSpurt_X9_isSpurt rfl rfl rfl kd_X9_isSpurt ⟨Nat.le_of_ble_eq_true rfl, Nat.le_of_ble_eq_true rfl⟩) (hgH.V hE (show vwCl[9]? = some (RX9, TX9, 28) from rfl) rfl) rfl rfl hl.1 rfl (lv_room (Nat.le_of_ble_eq_true rfl)) dX9_ofSpurt_2 ⟨Nat.zero_le _, Nat.zero_le _⟩) (fun H locs M => ?_)
  have M : gM E A s.heap [[(am 0, .inr (9, [.ref (am 1), .ref (am 2), .int (nI z.tn), .int z.mn, .int z.mk, .int z.mg, .int z.jp, .int (nI z.ct), .ref (am 3), .ref (am 4), .ref (am 5), .ref (am 6), .int (nI z.sp), .ref (am 7), .ref (am 8), .ref (am 9), .ref (am 10), .int (b2i z.on), .int z.ba, .int z.bg, .ref (am 11), .long z.up, .long z.by_, .int z.co, .int z.po, .int z.gr, .ref (am 12), .int (nI z.wr)]))], [((am 1), .inl (xI E, 25, .inl z.sg))], [((am 2), .inl (xI E, 8, .inl z.tp))], [((am 3), .inl (xI E, 120, .inl z.fr))], [((am 4), .inl (xI E, 120, .inl z.wh))], [((am 5), .inl (xI E, 120, .inl z.sn))], [((am 6), .inl (xI E, 300, .inl z.ca))], [((am 7), .inl (xI E, 120, .inl z.hd))], [((am 8), .inl (xI E, 120, .inl z.ps))], [((am 9), .inl (xI E, 120, .inl z.tm))], [((am 10), .inl (xI E, 120, .inl z.mm))], [((am 11), .inl (xJ E, 120, .inr (.inl z.se)))], [((am 12), .inl (xI E, 400, .inl z.tx))]] H locs := M
  refine lv_if_ne (tgt := 10) S.1 S.2.1 dX9_ofSpurt_5 (by decide) (fun c_ => absurd (h5) c_) (fun _ => ?_)
  refine lv_iconst (v := (-1)) S.1 S.2.1 dX9_ofSpurt_8 (by decide) ?_
  have he : MdS.ofSpurt z k w = ((-1), z) := by unfold MdS.ofSpurt; rw [if_pos h5]
  exact giret S hr hlk M (by rw [he]) (by rw [he]; rfl) dX9_ofSpurt_9

set_option maxHeartbeats 4000000 in
set_option maxRecDepth 100000 in
theorem c_X9_ofSpurt_in (l : Launch) (E : xE) (am : Nat → Nat) (z : MdS) (k : Nat) (w : Int32) (h5 : ¬ win (nI k) 0 (nI z.sp - 1) = 0) (hk : k < 120) (hc : z.ct ≤ 120) (hsn : ∀ a, a < z.ct → vp_in (z.sn a) 120) : mI l yX9_ofSpurt wsX9_ofSpurt (xrm 4 85) E [.ref (am 0), .int (nI k), .int w] (modGs E am z) ((MdS.ofSpurt z (nI k) w).1) (modGs E am ((MdS.ofSpurt z (nI k) w).2)) := by
  intro sz
  refine Met.ofW (cc := cX9_ofSpurt) (maxL := 3) (ret := (some .int)) (by decide +kernel) rfl ?_
  intro vp ve s vm args below meth vc s₁ B hml hv
  obtain ⟨rfl, S, hr, hlk, hnm, A, hA, hE, M⟩ := genter B hml hv
  rw [hA]
  obtain ⟨ls, hfr, hl⟩ := gst (m := vm) (as := [.ref (am 0), .int (nI k), .int w]) (n := 3) (Nat.le_of_ble_eq_true rfl)
  rw [hfr]
  clear hfr hA
  have hl : lv_has ls 3 [(0, .ref (am 0)), (1, .int (nI k)), (2, .int w)] := hl
  have M : gM E A s.heap [[(am 0, .inr (9, [.ref (am 1), .ref (am 2), .int (nI z.tn), .int z.mn, .int z.mk, .int z.mg, .int z.jp, .int (nI z.ct), .ref (am 3), .ref (am 4), .ref (am 5), .ref (am 6), .int (nI z.sp), .ref (am 7), .ref (am 8), .ref (am 9), .ref (am 10), .int (b2i z.on), .int z.ba, .int z.bg, .ref (am 11), .long z.up, .long z.by_, .int z.co, .int z.po, .int z.gr, .ref (am 12), .int (nI z.wr)]))], [((am 1), .inl (xI E, 25, .inl z.sg))], [((am 2), .inl (xI E, 8, .inl z.tp))], [((am 3), .inl (xI E, 120, .inl z.fr))], [((am 4), .inl (xI E, 120, .inl z.wh))], [((am 5), .inl (xI E, 120, .inl z.sn))], [((am 6), .inl (xI E, 300, .inl z.ca))], [((am 7), .inl (xI E, 120, .inl z.hd))], [((am 8), .inl (xI E, 120, .inl z.ps))], [((am 9), .inl (xI E, 120, .inl z.tm))], [((am 10), .inl (xI E, 120, .inl z.mm))], [((am 11), .inl (xJ E, 120, .inr (.inl z.se)))], [((am 12), .inl (xI E, 400, .inl z.tx))]] s.heap [] := M
  have hwi : ∀ w ∈ u_ws RX9 TX9 28, w ∈ wsX9_ofSpurt := by decide +kernel
  refine lv_aload_n S.1 S.2.1 dX9_ofSpurt_0 rfl (lv_at hl 0 rfl) ?_
  refine lv_iload_n S.1 S.2.1 dX9_ofSpurt_1 rfl (lv_at hl 1 rfl) ?_
  refine gcalli (L := []) (Mid := modGs E am z) (Rr := []) (Mid' := modGs E am z) hE M rfl (rfl) (rfl) (fun hgH => va_runV (As := [.int (nI k)]) (rest := []) S (c_X9_isSpurt l E am z (nI k)  _) (cwV 1 S.2.2.2.2 gX9_ofSpurt_X9_isSpurt rfl rfl rfl kd_X9_isSpurt ⟨Nat.le_of_ble_eq_true rfl, Nat.le_of_ble_eq_true rfl⟩) (hgH.V hE (show vwCl[9]? = some (RX9, TX9, 28) from rfl) rfl) rfl rfl hl.1 rfl (lv_room (Nat.le_of_ble_eq_true rfl)) dX9_ofSpurt_2 ⟨Nat.zero_le _, Nat.zero_le _⟩) (fun H locs M => ?_)
  have M : gM E A s.heap [[(am 0, .inr (9, [.ref (am 1), .ref (am 2), .int (nI z.tn), .int z.mn, .int z.mk, .int z.mg, .int z.jp, .int (nI z.ct), .ref (am 3), .ref (am 4), .ref (am 5), .ref (am 6), .int (nI z.sp), .ref (am 7), .ref (am 8), .ref (am 9), .ref (am 10), .int (b2i z.on), .int z.ba, .int z.bg, .ref (am 11), .long z.up, .long z.by_, .int z.co, .int z.po, .int z.gr, .ref (am 12), .int (nI z.wr)]))], [((am 1), .inl (xI E, 25, .inl z.sg))], [((am 2), .inl (xI E, 8, .inl z.tp))], [((am 3), .inl (xI E, 120, .inl z.fr))], [((am 4), .inl (xI E, 120, .inl z.wh))], [((am 5), .inl (xI E, 120, .inl z.sn))], [((am 6), .inl (xI E, 300, .inl z.ca))], [((am 7), .inl (xI E, 120, .inl z.hd))], [((am 8), .inl (xI E, 120, .inl z.ps))], [((am 9), .inl (xI E, 120, .inl z.tm))], [((am 10), .inl (xI E, 120, .inl z.mm))], [((am 11), .inl (xJ E, 120, .inr (.inl z.se)))], [((am 12), .inl (xI E, 400, .inl z.tx))]] H locs := M
  refine lv_if_ne (tgt := 10) S.1 S.2.1 dX9_ofSpurt_5 (by decide) (fun _ => ?_) (fun c_ => absurd c_ (h5))
  refine lv_aload_n S.1 S.2.1 dX9_ofSpurt_10 rfl (lv_at hl 0 rfl) ?_
  refine lv_iload_n S.1 S.2.1 dX9_ofSpurt_11 rfl (lv_at hl 1 rfl) ?_
  refine gcallv (L := []) (Mid := modGs E am z) (Rr := []) (Mid' := modGs E am (MdS.cnts z k)) hE M rfl (rfl) (rfl) (fun hgH => va_runV (As := [.int (nI k)]) (rest := []) S (c_X9_counts l E am z k  hk hc hsn _) (cwV 1 S.2.2.2.2 gX9_ofSpurt_X9_counts rfl rfl rfl kd_X9_counts ⟨Nat.le_of_ble_eq_true rfl, Nat.le_of_ble_eq_true rfl⟩) (hgH.V hE (show vwCl[9]? = some (RX9, TX9, 28) from rfl) rfl) rfl rfl hl.1 rfl (lv_room (Nat.le_of_ble_eq_true rfl)) dX9_ofSpurt_12 ⟨Nat.zero_le _, Nat.zero_le _⟩) (fun H locs M => ?_)
  have M : gM E A s.heap [[(am 0, .inr (9, [.ref (am 1), .ref (am 2), .int (nI (MdS.cnts z k).tn), .int ((MdS.cnts z k).mn), .int ((MdS.cnts z k).mk), .int ((MdS.cnts z k).mg), .int ((MdS.cnts z k).jp), .int (nI (MdS.cnts z k).ct), .ref (am 3), .ref (am 4), .ref (am 5), .ref (am 6), .int (nI (MdS.cnts z k).sp), .ref (am 7), .ref (am 8), .ref (am 9), .ref (am 10), .int (b2i (MdS.cnts z k).on), .int ((MdS.cnts z k).ba), .int ((MdS.cnts z k).bg), .ref (am 11), .long ((MdS.cnts z k).up), .long ((MdS.cnts z k).by_), .int ((MdS.cnts z k).co), .int ((MdS.cnts z k).po), .int ((MdS.cnts z k).gr), .ref (am 12), .int (nI (MdS.cnts z k).wr)]))], [((am 1), .inl (xI E, 25, .inl ((MdS.cnts z k).sg)))], [((am 2), .inl (xI E, 8, .inl ((MdS.cnts z k).tp)))], [((am 3), .inl (xI E, 120, .inl ((MdS.cnts z k).fr)))], [((am 4), .inl (xI E, 120, .inl ((MdS.cnts z k).wh)))], [((am 5), .inl (xI E, 120, .inl ((MdS.cnts z k).sn)))], [((am 6), .inl (xI E, 300, .inl ((MdS.cnts z k).ca)))], [((am 7), .inl (xI E, 120, .inl ((MdS.cnts z k).hd)))], [((am 8), .inl (xI E, 120, .inl ((MdS.cnts z k).ps)))], [((am 9), .inl (xI E, 120, .inl ((MdS.cnts z k).tm)))], [((am 10), .inl (xI E, 120, .inl ((MdS.cnts z k).mm)))], [((am 11), .inl (xJ E, 120, .inr (.inl ((MdS.cnts z k).se))))], [((am 12), .inl (xI E, 400, .inl ((MdS.cnts z k).tx)))]] H locs := M
  refine lv_iload_n S.1 S.2.1 dX9_ofSpurt_15 rfl (lv_at hl 2 rfl) ?_
  by_cases c16_0 : w = 0
  ·
    refine gtop (x' := 0) c16_0 ?_
    refine lv_tableIn (off := 52) (tgt := 68) S.1 S.2.1 dX9_ofSpurt_16 (by decide) (by decide) rfl (by decide) ?_
    refine lv_aload_n S.1 S.2.1 dX9_ofSpurt_68 rfl (lv_at hl 0 rfl) ?_
    refine gget S hE M (C := RX9) (T := TX9) (N := 28) (ci := 9) (index := 35) hwi 0 rfl rfl 13 (by decide) (by decide +kernel) rfl dX9_ofSpurt_69 ?_
    refine lv_iload_n S.1 S.2.1 dX9_ofSpurt_72 rfl (lv_at hl 1 rfl) ?_
    refine giald S hE M 7 rfl (vp_in_nI (by omega) (by omega)) dX9_ofSpurt_73 ?_
    refine gtop (x' := ((MdS.cnts z k).hd) k) (by rw [nI_clamp (by omega)]) ?_
    exact giret S hr hlk M (by unfold MdS.ofSpurt; rw [if_neg h5, nI_clamp (by omega)]; show _ = z.ofS k w; unfold MdS.ofS; rw [if_pos c16_0] <;> rfl) (by unfold MdS.ofSpurt; rw [if_neg h5, nI_clamp (by omega)]; rfl) dX9_ofSpurt_74
  by_cases c16_1 : w = 1
  ·
    refine gtop (x' := 1) c16_1 ?_
    refine lv_tableIn (off := 59) (tgt := 75) S.1 S.2.1 dX9_ofSpurt_16 (by decide) (by decide) rfl (by decide) ?_
    refine lv_aload_n S.1 S.2.1 dX9_ofSpurt_75 rfl (lv_at hl 0 rfl) ?_
    refine gget S hE M (C := RX9) (T := TX9) (N := 28) (ci := 9) (index := 38) hwi 0 rfl rfl 14 (by decide) (by decide +kernel) rfl dX9_ofSpurt_76 ?_
    refine lv_iload_n S.1 S.2.1 dX9_ofSpurt_79 rfl (lv_at hl 1 rfl) ?_
    refine giald S hE M 8 rfl (vp_in_nI (by omega) (by omega)) dX9_ofSpurt_80 ?_
    refine gtop (x' := ((MdS.cnts z k).ps) k) (by rw [nI_clamp (by omega)]) ?_
    exact giret S hr hlk M (by unfold MdS.ofSpurt; rw [if_neg h5, nI_clamp (by omega)]; show _ = z.ofS k w; unfold MdS.ofS; rw [if_neg c16_0, if_pos c16_1] <;> rfl) (by unfold MdS.ofSpurt; rw [if_neg h5, nI_clamp (by omega)]; rfl) dX9_ofSpurt_81
  by_cases c16_2 : w = 2
  ·
    refine gtop (x' := 2) c16_2 ?_
    refine lv_tableIn (off := 66) (tgt := 82) S.1 S.2.1 dX9_ofSpurt_16 (by decide) (by decide) rfl (by decide) ?_
    refine lv_aload_n S.1 S.2.1 dX9_ofSpurt_82 rfl (lv_at hl 0 rfl) ?_
    refine gget S hE M (C := RX9) (T := TX9) (N := 28) (ci := 9) (index := 41) hwi 0 rfl rfl 15 (by decide) (by decide +kernel) rfl dX9_ofSpurt_83 ?_
    refine lv_iload_n S.1 S.2.1 dX9_ofSpurt_86 rfl (lv_at hl 1 rfl) ?_
    refine giald S hE M 9 rfl (vp_in_nI (by omega) (by omega)) dX9_ofSpurt_87 ?_
    refine gtop (x' := ((MdS.cnts z k).tm) k) (by rw [nI_clamp (by omega)]) ?_
    refine lv_sipush (v := 10000) S.1 S.2.1 dX9_ofSpurt_88 (by decide) ?_
    refine lv_iadd S.1 S.2.1 dX9_ofSpurt_91 ?_
    exact giret S hr hlk M (by unfold MdS.ofSpurt; rw [if_neg h5, nI_clamp (by omega)]; show _ = z.ofS k w; unfold MdS.ofS; rw [if_neg c16_0, if_neg c16_1, if_pos c16_2] <;> rfl) (by unfold MdS.ofSpurt; rw [if_neg h5, nI_clamp (by omega)]; rfl) dX9_ofSpurt_92
  by_cases c16_3 : w = 3
  ·
    refine gtop (x' := 3) c16_3 ?_
    refine lv_tableIn (off := 77) (tgt := 93) S.1 S.2.1 dX9_ofSpurt_16 (by decide) (by decide) rfl (by decide) ?_
    refine lv_aload_n S.1 S.2.1 dX9_ofSpurt_93 rfl (lv_at hl 0 rfl) ?_
    refine gget S hE M (C := RX9) (T := TX9) (N := 28) (ci := 9) (index := 154) hwi 0 rfl rfl 23 (by decide) (by decide +kernel) rfl dX9_ofSpurt_94 ?_
    exact giret S hr hlk M (by unfold MdS.ofSpurt; rw [if_neg h5, nI_clamp (by omega)]; show _ = z.ofS k w; unfold MdS.ofS; rw [if_neg c16_0, if_neg c16_1, if_neg c16_2, if_pos c16_3] <;> rfl) (by unfold MdS.ofSpurt; rw [if_neg h5, nI_clamp (by omega)]; rfl) dX9_ofSpurt_97
  by_cases c16_4 : w = 4
  ·
    refine gtop (x' := 4) c16_4 ?_
    refine lv_tableIn (off := 82) (tgt := 98) S.1 S.2.1 dX9_ofSpurt_16 (by decide) (by decide) rfl (by decide) ?_
    refine lv_aload_n S.1 S.2.1 dX9_ofSpurt_98 rfl (lv_at hl 0 rfl) ?_
    refine gget S hE M (C := RX9) (T := TX9) (N := 28) (ci := 9) (index := 157) hwi 0 rfl rfl 24 (by decide) (by decide +kernel) rfl dX9_ofSpurt_99 ?_
    exact giret S hr hlk M (by unfold MdS.ofSpurt; rw [if_neg h5, nI_clamp (by omega)]; show _ = z.ofS k w; unfold MdS.ofS; rw [if_neg c16_0, if_neg c16_1, if_neg c16_2, if_neg c16_3, if_pos c16_4] <;> rfl) (by unfold MdS.ofSpurt; rw [if_neg h5, nI_clamp (by omega)]; rfl) dX9_ofSpurt_102
  by_cases c16_5 : w = 5
  ·
    refine gtop (x' := 5) c16_5 ?_
    refine lv_tableIn (off := 87) (tgt := 103) S.1 S.2.1 dX9_ofSpurt_16 (by decide) (by decide) rfl (by decide) ?_
    refine lv_aload_n S.1 S.2.1 dX9_ofSpurt_103 rfl (lv_at hl 0 rfl) ?_
    refine gget S hE M (C := RX9) (T := TX9) (N := 28) (ci := 9) (index := 154) hwi 0 rfl rfl 23 (by decide) (by decide +kernel) rfl dX9_ofSpurt_104 ?_
    refine lv_aload_n S.1 S.2.1 dX9_ofSpurt_107 rfl (lv_at hl 0 rfl) ?_
    refine gget S hE M (C := RX9) (T := TX9) (N := 28) (ci := 9) (index := 157) hwi 0 rfl rfl 24 (by decide) (by decide +kernel) rfl dX9_ofSpurt_108 ?_
    refine lv_isub S.1 S.2.1 dX9_ofSpurt_111 ?_
    exact giret S hr hlk M (by unfold MdS.ofSpurt; rw [if_neg h5, nI_clamp (by omega)]; show _ = z.ofS k w; unfold MdS.ofS; rw [if_neg c16_0, if_neg c16_1, if_neg c16_2, if_neg c16_3, if_neg c16_4, if_pos c16_5] <;> rfl) (by unfold MdS.ofSpurt; rw [if_neg h5, nI_clamp (by omega)]; rfl) dX9_ofSpurt_112
  by_cases c16_6 : w = 6
  ·
    refine gtop (x' := 6) c16_6 ?_
    refine lv_tableIn (off := 97) (tgt := 113) S.1 S.2.1 dX9_ofSpurt_16 (by decide) (by decide) rfl (by decide) ?_
    refine lv_aload_n S.1 S.2.1 dX9_ofSpurt_113 rfl (lv_at hl 0 rfl) ?_
    refine lv_iload_n S.1 S.2.1 dX9_ofSpurt_114 rfl (lv_at hl 1 rfl) ?_
    refine gcalli (L := []) (Mid := modGs E am (MdS.cnts z k)) (Rr := []) (Mid' := modGs E am ((MdS.cnts z k).cnts k)) hE M rfl (rfl) (rfl) (fun hgH => va_runV (As := [.int (nI k)]) (rest := []) S (c_X9_missing l E am (MdS.cnts z k) k  hk hc hsn _) (cwV 1 S.2.2.2.2 gX9_ofSpurt_X9_missing rfl rfl rfl kd_X9_missing ⟨Nat.le_of_ble_eq_true rfl, Nat.le_of_ble_eq_true rfl⟩) (hgH.V hE (show vwCl[9]? = some (RX9, TX9, 28) from rfl) rfl) rfl rfl hl.1 rfl (lv_room (Nat.le_of_ble_eq_true rfl)) dX9_ofSpurt_115 ⟨Nat.zero_le _, Nat.zero_le _⟩) (fun H locs M => ?_)
    have M : gM E A s.heap [[(am 0, .inr (9, [.ref (am 1), .ref (am 2), .int (nI ((MdS.cnts z k).cnts k).tn), .int (((MdS.cnts z k).cnts k).mn), .int (((MdS.cnts z k).cnts k).mk), .int (((MdS.cnts z k).cnts k).mg), .int (((MdS.cnts z k).cnts k).jp), .int (nI ((MdS.cnts z k).cnts k).ct), .ref (am 3), .ref (am 4), .ref (am 5), .ref (am 6), .int (nI ((MdS.cnts z k).cnts k).sp), .ref (am 7), .ref (am 8), .ref (am 9), .ref (am 10), .int (b2i ((MdS.cnts z k).cnts k).on), .int (((MdS.cnts z k).cnts k).ba), .int (((MdS.cnts z k).cnts k).bg), .ref (am 11), .long (((MdS.cnts z k).cnts k).up), .long (((MdS.cnts z k).cnts k).by_), .int (((MdS.cnts z k).cnts k).co), .int (((MdS.cnts z k).cnts k).po), .int (((MdS.cnts z k).cnts k).gr), .ref (am 12), .int (nI ((MdS.cnts z k).cnts k).wr)]))], [((am 1), .inl (xI E, 25, .inl (((MdS.cnts z k).cnts k).sg)))], [((am 2), .inl (xI E, 8, .inl (((MdS.cnts z k).cnts k).tp)))], [((am 3), .inl (xI E, 120, .inl (((MdS.cnts z k).cnts k).fr)))], [((am 4), .inl (xI E, 120, .inl (((MdS.cnts z k).cnts k).wh)))], [((am 5), .inl (xI E, 120, .inl (((MdS.cnts z k).cnts k).sn)))], [((am 6), .inl (xI E, 300, .inl (((MdS.cnts z k).cnts k).ca)))], [((am 7), .inl (xI E, 120, .inl (((MdS.cnts z k).cnts k).hd)))], [((am 8), .inl (xI E, 120, .inl (((MdS.cnts z k).cnts k).ps)))], [((am 9), .inl (xI E, 120, .inl (((MdS.cnts z k).cnts k).tm)))], [((am 10), .inl (xI E, 120, .inl (((MdS.cnts z k).cnts k).mm)))], [((am 11), .inl (xJ E, 120, .inr (.inl (((MdS.cnts z k).cnts k).se))))], [((am 12), .inl (xI E, 400, .inl (((MdS.cnts z k).cnts k).tx)))]] H locs := M
    exact giret S hr hlk M (by unfold MdS.ofSpurt; rw [if_neg h5, nI_clamp (by omega)]; show MdS.miss (MdS.cnts z k) k = z.ofS k w; unfold MdS.ofS; rw [miss_cnts, if_neg c16_0, if_neg c16_1, if_neg c16_2, if_neg c16_3, if_neg c16_4, if_neg c16_5, if_pos c16_6]) (by unfold MdS.ofSpurt; rw [if_neg h5, nI_clamp (by omega)]; show (modGs E am ((z.cnts k).cnts k)).flatten = (modGs E am (z.cnts k)).flatten; rw [cnts_idem]) dX9_ofSpurt_118
  by_cases c16_7 : w = 7
  ·
    refine gtop (x' := 7) c16_7 ?_
    refine lv_tableIn (off := 103) (tgt := 119) S.1 S.2.1 dX9_ofSpurt_16 (by decide) (by decide) rfl (by decide) ?_
    refine lv_aload_n S.1 S.2.1 dX9_ofSpurt_119 rfl (lv_at hl 0 rfl) ?_
    refine gget S hE M (C := RX9) (T := TX9) (N := 28) (ci := 9) (index := 160) hwi 0 rfl rfl 25 (by decide) (by decide +kernel) rfl dX9_ofSpurt_120 ?_
    exact giret S hr hlk M (by unfold MdS.ofSpurt; rw [if_neg h5, nI_clamp (by omega)]; show _ = z.ofS k w; unfold MdS.ofS; rw [if_neg c16_0, if_neg c16_1, if_neg c16_2, if_neg c16_3, if_neg c16_4, if_neg c16_5, if_neg c16_6, if_pos c16_7] <;> rfl) (by unfold MdS.ofSpurt; rw [if_neg h5, nI_clamp (by omega)]; rfl) dX9_ofSpurt_123
  by_cases c16_8 : w = 8
  ·
    refine gtop (x' := 8) c16_8 ?_
    refine lv_tableIn (off := 108) (tgt := 124) S.1 S.2.1 dX9_ofSpurt_16 (by decide) (by decide) rfl (by decide) ?_
    refine lv_aload_n S.1 S.2.1 dX9_ofSpurt_124 rfl (lv_at hl 0 rfl) ?_
    refine gget S hE M (C := RX9) (T := TX9) (N := 28) (ci := 9) (index := 44) hwi 0 rfl rfl 16 (by decide) (by decide +kernel) rfl dX9_ofSpurt_125 ?_
    refine lv_iload_n S.1 S.2.1 dX9_ofSpurt_128 rfl (lv_at hl 1 rfl) ?_
    refine giald S hE M 10 rfl (vp_in_nI (by omega) (by omega)) dX9_ofSpurt_129 ?_
    refine gtop (x' := ((MdS.cnts z k).mm) k) (by rw [nI_clamp (by omega)]) ?_
    exact giret S hr hlk M (by unfold MdS.ofSpurt; rw [if_neg h5, nI_clamp (by omega)]; show _ = z.ofS k w; unfold MdS.ofS; rw [if_neg c16_0, if_neg c16_1, if_neg c16_2, if_neg c16_3, if_neg c16_4, if_neg c16_5, if_neg c16_6, if_neg c16_7, if_pos c16_8] <;> rfl) (by unfold MdS.ofSpurt; rw [if_neg h5, nI_clamp (by omega)]; rfl) dX9_ofSpurt_130
  refine lv_tableOut (tgt := 131) S.1 S.2.1 dX9_ofSpurt_16 (by have hc16_0 := lv_neT c16_0 (a := 0) rfl; have hc16_1 := lv_neT c16_1 (a := 1) rfl; have hc16_2 := lv_neT c16_2 (a := 2) rfl; have hc16_3 := lv_neT c16_3 (a := 3) rfl; have hc16_4 := lv_neT c16_4 (a := 4) rfl; have hc16_5 := lv_neT c16_5 (a := 5) rfl; have hc16_6 := lv_neT c16_6 (a := 6) rfl; have hc16_7 := lv_neT c16_7 (a := 7) rfl; have hc16_8 := lv_neT c16_8 (a := 8) rfl; omega) (by decide) ?_
  refine lv_bipush (v := (-2)) S.1 S.2.1 dX9_ofSpurt_131 (by decide) ?_
  exact giret S hr hlk M (by unfold MdS.ofSpurt; rw [if_neg h5, nI_clamp (by omega)]; show _ = z.ofS k w; unfold MdS.ofS; rw [if_neg c16_0, if_neg c16_1, if_neg c16_2, if_neg c16_3, if_neg c16_4, if_neg c16_5, if_neg c16_6, if_neg c16_7, if_neg c16_8] <;> rfl) (by unfold MdS.ofSpurt; rw [if_neg h5, nI_clamp (by omega)]; rfl) dX9_ofSpurt_133

set_option maxHeartbeats 4000000 in
set_option maxRecDepth 100000 in
theorem c_X9_inOrder (l : Launch) (E : xE) (am : Nat → Nat) (z : MdS) (k : Int32) (hs : z.sp ≤ 120) : mI l yX9_inOrder wsX9_inOrder (xrm 0 0) E [.ref (am 0), .int k] (modGs E am z) (z.inOrder k) (modGs E am z) := by
  intro sz
  refine Met.ofW (cc := cX9_inOrder) (maxL := 5) (ret := (some .int)) (by decide +kernel) rfl ?_
  intro vp ve s vm args below meth vc s₁ B hml hv
  obtain ⟨rfl, S, hr, hlk, hnm, A, hA, hE, M⟩ := genter B hml hv
  rw [hA]
  obtain ⟨ls, hfr, hl⟩ := gst (m := vm) (as := [.ref (am 0), .int k]) (n := 5) (Nat.le_of_ble_eq_true rfl)
  rw [hfr]
  clear hfr hA
  have hl : lv_has ls 5 [(0, .ref (am 0)), (1, .int k)] := hl
  have M : gM E A s.heap [[(am 0, .inr (9, [.ref (am 1), .ref (am 2), .int (nI z.tn), .int z.mn, .int z.mk, .int z.mg, .int z.jp, .int (nI z.ct), .ref (am 3), .ref (am 4), .ref (am 5), .ref (am 6), .int (nI z.sp), .ref (am 7), .ref (am 8), .ref (am 9), .ref (am 10), .int (b2i z.on), .int z.ba, .int z.bg, .ref (am 11), .long z.up, .long z.by_, .int z.co, .int z.po, .int z.gr, .ref (am 12), .int (nI z.wr)]))], [((am 1), .inl (xI E, 25, .inl z.sg))], [((am 2), .inl (xI E, 8, .inl z.tp))], [((am 3), .inl (xI E, 120, .inl z.fr))], [((am 4), .inl (xI E, 120, .inl z.wh))], [((am 5), .inl (xI E, 120, .inl z.sn))], [((am 6), .inl (xI E, 300, .inl z.ca))], [((am 7), .inl (xI E, 120, .inl z.hd))], [((am 8), .inl (xI E, 120, .inl z.ps))], [((am 9), .inl (xI E, 120, .inl z.tm))], [((am 10), .inl (xI E, 120, .inl z.mm))], [((am 11), .inl (xJ E, 120, .inr (.inl z.se)))], [((am 12), .inl (xI E, 400, .inl z.tx))]] s.heap [] := M
  have hwi : ∀ w ∈ u_ws RX9 TX9 28, w ∈ wsX9_inOrder := by decide +kernel
  obtain ⟨Q, hQ⟩ : ∃ Q : State → Prop, MQ below (va_Qi (fun x (_ : Unit) => x = (z.inOrder k)) (fun _ => kQ E A (modGs E am z)) A) ([.ref (am 0), .int k] : List Value).toArray s 0 0 A = Q := ⟨_, rfl⟩
  rw [hQ]
  have hO : ∀ (n : Nat), ∀ (q : Nat), q + n = z.sp → z.inOrder k = iog z k n q → ∀ (H : Heap) (locs : List Loc), gM E A s.heap [[(am 0, .inr (9, [.ref (am 1), .ref (am 2), .int (nI z.tn), .int z.mn, .int z.mk, .int z.mg, .int z.jp, .int (nI z.ct), .ref (am 3), .ref (am 4), .ref (am 5), .ref (am 6), .int (nI z.sp), .ref (am 7), .ref (am 8), .ref (am 9), .ref (am 10), .int (b2i z.on), .int z.ba, .int z.bg, .ref (am 11), .long z.up, .long z.by_, .int z.co, .int z.po, .int z.gr, .ref (am 12), .int (nI z.wr)]))], [((am 1), .inl (xI E, 25, .inl z.sg))], [((am 2), .inl (xI E, 8, .inl z.tp))], [((am 3), .inl (xI E, 120, .inl z.fr))], [((am 4), .inl (xI E, 120, .inl z.wh))], [((am 5), .inl (xI E, 120, .inl z.sn))], [((am 6), .inl (xI E, 300, .inl z.ca))], [((am 7), .inl (xI E, 120, .inl z.hd))], [((am 8), .inl (xI E, 120, .inl z.ps))], [((am 9), .inl (xI E, 120, .inl z.tm))], [((am 10), .inl (xI E, 120, .inl z.mm))], [((am 11), .inl (xJ E, 120, .inr (.inl z.se)))], [((am 12), .inl (xI E, 400, .inl z.tx))]] H locs → ∀ ls : Array Slot, lv_has ls 5 [(0, .ref (am 0)), (1, .int k), (2, .int (nI q))] → W vp l ve (headSpec wsX9_inOrder (xrm 0 0)).room s vm ([.ref (am 0), .int k] : List Value).toArray below meth vc H locs 0 0 Q (F0 vm 2 ls []) := by
    intro n
    induction n with
    | zero =>
      intro q hi hI H locs M ls hl
      refine lv_iload_n S.1 S.2.1 dX9_inOrder_2 rfl (lv_at hl 2 rfl) ?_
      refine lv_aload_n S.1 S.2.1 dX9_inOrder_3 rfl (lv_at hl 0 rfl) ?_
      refine gget S hE M (C := RX9) (T := TX9) (N := 28) (ci := 9) (index := 75) hwi 0 rfl rfl 12 (by decide) (by decide +kernel) rfl dX9_inOrder_4 ?_
      refine lv_icmp_ge (tgt := 67) S.1 S.2.1 dX9_inOrder_7 (by decide) (fun _ => ?_) (fun c_ => absurd (nI_le (by omega) (by omega)) c_)
      refine lv_iconst (v := (-1)) S.1 S.2.1 dX9_inOrder_67 (by decide) ?_
      rw [← hQ]
      exact giret S hr hlk M (by rw [hI, iog]) (rfl) dX9_inOrder_68
    | succ n ih =>
      intro q hi hI H locs M ls hl
      have hN : ∀ (m : Nat), ∀ (x : Nat) (a : Int32), x + m = z.sp → iol z q z.sp 0 0 = iol z q m x a → ∀ (H : Heap) (locs : List Loc), gM E A s.heap [[(am 0, .inr (9, [.ref (am 1), .ref (am 2), .int (nI z.tn), .int z.mn, .int z.mk, .int z.mg, .int z.jp, .int (nI z.ct), .ref (am 3), .ref (am 4), .ref (am 5), .ref (am 6), .int (nI z.sp), .ref (am 7), .ref (am 8), .ref (am 9), .ref (am 10), .int (b2i z.on), .int z.ba, .int z.bg, .ref (am 11), .long z.up, .long z.by_, .int z.co, .int z.po, .int z.gr, .ref (am 12), .int (nI z.wr)]))], [((am 1), .inl (xI E, 25, .inl z.sg))], [((am 2), .inl (xI E, 8, .inl z.tp))], [((am 3), .inl (xI E, 120, .inl z.fr))], [((am 4), .inl (xI E, 120, .inl z.wh))], [((am 5), .inl (xI E, 120, .inl z.sn))], [((am 6), .inl (xI E, 300, .inl z.ca))], [((am 7), .inl (xI E, 120, .inl z.hd))], [((am 8), .inl (xI E, 120, .inl z.ps))], [((am 9), .inl (xI E, 120, .inl z.tm))], [((am 10), .inl (xI E, 120, .inl z.mm))], [((am 11), .inl (xJ E, 120, .inr (.inl z.se)))], [((am 12), .inl (xI E, 400, .inl z.tx))]] H locs → ∀ ls : Array Slot, lv_has ls 5 [(0, .ref (am 0)), (1, .int k), (2, .int (nI q)), (3, .int a), (4, .int (nI x))] → W vp l ve (headSpec wsX9_inOrder (xrm 0 0)).room s vm ([.ref (am 0), .int k] : List Value).toArray below meth vc H locs 0 0 Q (F0 vm 15 ls []) := by
        intro m
        induction m with
        | zero =>
          intro x a hj hJ H locs M ls hl
          refine lv_iload S.1 S.2.1 dX9_inOrder_15 (lv_at hl 4 rfl) ?_
          refine lv_aload_n S.1 S.2.1 dX9_inOrder_17 rfl (lv_at hl 0 rfl) ?_
          refine gget S hE M (C := RX9) (T := TX9) (N := 28) (ci := 9) (index := 75) hwi 0 rfl rfl 12 (by decide) (by decide +kernel) rfl dX9_inOrder_18 ?_
          refine lv_icmp_ge (tgt := 54) S.1 S.2.1 dX9_inOrder_21 (by decide) (fun _ => ?_) (fun c_ => absurd (nI_le (by omega) (by omega)) c_)
          refine lv_iload_n S.1 S.2.1 dX9_inOrder_54 rfl (lv_at hl 3 rfl) ?_
          refine lv_iload_n S.1 S.2.1 dX9_inOrder_55 rfl (lv_at hl 1 rfl) ?_
          refine lv_icmp_ne (tgt := 61) S.1 S.2.1 dX9_inOrder_56 (by decide) (fun c56 => ?_) (fun c56 => ?_)
          ·
            refine lv_iinc (v := nI (q + 1)) (lv' := [(2, .int (nI (q + 1))), (0, .ref (am 0)), (1, .int k), (3, .int a), (4, .int (nI x))]) S.1 S.2.1 dX9_inOrder_61 hl (k := 2) rfl (nI_1 _) (by decide) rfl (fun ls hl => ?_)
            refine lv_goto (tgt := 2) S.1 S.2.1 dX9_inOrder_64 (by decide) ?_
            exact ih (q + 1) (by omega) (by rw [hI, iog, hJ, iol, if_neg c56]) _ _ M ls (lv_sub hl [1, 2, 0] rfl)
          ·
            refine lv_iload_n S.1 S.2.1 dX9_inOrder_59 rfl (lv_at hl 2 rfl) ?_
            rw [← hQ]
            exact giret S hr hlk M (by rw [hI, iog, hJ, iol, if_pos c56]) (rfl) dX9_inOrder_60
        | succ m ih2 =>
          intro x a hj hJ H locs M ls hl
          refine lv_iload S.1 S.2.1 dX9_inOrder_15 (lv_at hl 4 rfl) ?_
          refine lv_aload_n S.1 S.2.1 dX9_inOrder_17 rfl (lv_at hl 0 rfl) ?_
          refine gget S hE M (C := RX9) (T := TX9) (N := 28) (ci := 9) (index := 75) hwi 0 rfl rfl 12 (by decide) (by decide +kernel) rfl dX9_inOrder_18 ?_
          refine lv_icmp_ge (tgt := 54) S.1 S.2.1 dX9_inOrder_21 (by decide) (fun c_ => absurd c_ (nI_ge (by omega) (by omega))) (fun _ => ?_)
          refine lv_iload_n S.1 S.2.1 dX9_inOrder_24 rfl (lv_at hl 3 rfl) ?_
          refine lv_aload_n S.1 S.2.1 dX9_inOrder_25 rfl (lv_at hl 0 rfl) ?_
          refine gget S hE M (C := RX9) (T := TX9) (N := 28) (ci := 9) (index := 35) hwi 0 rfl rfl 13 (by decide) (by decide +kernel) rfl dX9_inOrder_26 ?_
          refine lv_iload S.1 S.2.1 dX9_inOrder_29 (lv_at hl 4 rfl) ?_
          refine giald S hE M 7 rfl (vp_in_nI (by omega) (by omega)) dX9_inOrder_31 ?_
          refine gtop (x' := z.hd x) (by rw [nI_clamp (by omega)]) ?_
          refine lv_aload_n S.1 S.2.1 dX9_inOrder_32 rfl (lv_at hl 0 rfl) ?_
          refine gget S hE M (C := RX9) (T := TX9) (N := 28) (ci := 9) (index := 35) hwi 0 rfl rfl 13 (by decide) (by decide +kernel) rfl dX9_inOrder_33 ?_
          refine lv_iload_n S.1 S.2.1 dX9_inOrder_36 rfl (lv_at hl 2 rfl) ?_
          refine giald S hE M 7 rfl (vp_in_nI (by omega) (by omega)) dX9_inOrder_37 ?_
          refine gtop (x' := z.hd q) (by rw [nI_clamp (by omega)]) ?_
          refine lv_icmp_ge (tgt := 45) S.1 S.2.1 dX9_inOrder_38 (by decide) (fun c38 => ?_) (fun c38 => ?_)
          ·
            refine lv_iconst (v := 0) S.1 S.2.1 dX9_inOrder_45 (by decide) ?_
            refine lv_iadd S.1 S.2.1 dX9_inOrder_46 ?_
            refine lv_istore_n (lv' := [(3, .int (a + 0)), (0, .ref (am 0)), (1, .int k), (2, .int (nI q)), (4, .int (nI x))]) S.1 S.2.1 dX9_inOrder_47 rfl hl (by decide) rfl (fun ls hl => ?_)
            refine lv_iinc (v := nI (x + 1)) (lv' := [(4, .int (nI (x + 1))), (3, .int (a + 0)), (0, .ref (am 0)), (1, .int k), (2, .int (nI q))]) S.1 S.2.1 dX9_inOrder_48 hl (k := 4) rfl (nI_1 _) (by decide) rfl (fun ls hl => ?_)
            refine lv_goto (tgt := 15) S.1 S.2.1 dX9_inOrder_51 (by decide) ?_
            exact ih2 (x + 1) _ (by omega) (by rw [hJ, iol, if_pos c38]) _ _ M ls (lv_sub hl [2, 3, 4, 1, 0] rfl)
          ·
            refine lv_iconst (v := 1) S.1 S.2.1 dX9_inOrder_41 (by decide) ?_
            refine lv_goto (tgt := 46) S.1 S.2.1 dX9_inOrder_42 (by decide) ?_
            refine lv_iadd S.1 S.2.1 dX9_inOrder_46 ?_
            refine lv_istore_n (lv' := [(3, .int (a + 1)), (0, .ref (am 0)), (1, .int k), (2, .int (nI q)), (4, .int (nI x))]) S.1 S.2.1 dX9_inOrder_47 rfl hl (by decide) rfl (fun ls hl => ?_)
            refine lv_iinc (v := nI (x + 1)) (lv' := [(4, .int (nI (x + 1))), (3, .int (a + 1)), (0, .ref (am 0)), (1, .int k), (2, .int (nI q))]) S.1 S.2.1 dX9_inOrder_48 hl (k := 4) rfl (nI_1 _) (by decide) rfl (fun ls hl => ?_)
            refine lv_goto (tgt := 15) S.1 S.2.1 dX9_inOrder_51 (by decide) ?_
            exact ih2 (x + 1) _ (by omega) (by rw [hJ, iol, if_neg c38]) _ _ M ls (lv_sub hl [2, 3, 4, 1, 0] rfl)
      refine lv_iload_n S.1 S.2.1 dX9_inOrder_2 rfl (lv_at hl 2 rfl) ?_
      refine lv_aload_n S.1 S.2.1 dX9_inOrder_3 rfl (lv_at hl 0 rfl) ?_
      refine gget S hE M (C := RX9) (T := TX9) (N := 28) (ci := 9) (index := 75) hwi 0 rfl rfl 12 (by decide) (by decide +kernel) rfl dX9_inOrder_4 ?_
      refine lv_icmp_ge (tgt := 67) S.1 S.2.1 dX9_inOrder_7 (by decide) (fun c_ => absurd c_ (nI_ge (by omega) (by omega))) (fun _ => ?_)
      refine lv_iconst (v := 0) S.1 S.2.1 dX9_inOrder_10 (by decide) ?_
      refine lv_istore_n (lv' := [(3, .int 0), (0, .ref (am 0)), (1, .int k), (2, .int (nI q))]) S.1 S.2.1 dX9_inOrder_11 rfl hl (by decide) rfl (fun ls hl => ?_)
      refine lv_iconst (v := 0) S.1 S.2.1 dX9_inOrder_12 (by decide) ?_
      refine lv_istore (lv' := [(4, .int 0), (3, .int 0), (0, .ref (am 0)), (1, .int k), (2, .int (nI q))]) S.1 S.2.1 dX9_inOrder_13 hl (by decide) rfl (fun ls hl => ?_)
      exact hN z.sp 0 0 (by omega) rfl _ _ M ls (lv_sub hl [2, 3, 4, 1, 0] rfl)
  refine lv_iconst (v := 0) S.1 S.2.1 dX9_inOrder_0 (by decide) ?_
  refine lv_istore_n (lv' := [(2, .int 0), (0, .ref (am 0)), (1, .int k)]) S.1 S.2.1 dX9_inOrder_1 rfl hl (by decide) rfl (fun ls hl => ?_)
  exact hO z.sp 0 (by omega) rfl _ _ M ls (lv_sub hl [1, 2, 0] rfl)

set_option maxHeartbeats 4000000 in
set_option maxRecDepth 100000 in
theorem c_X9_wish (l : Launch) (E : xE) (am : Nat → Nat) (z : MdS) (h : Int32) (hc : z.ct ≤ 120) (hfr : ∀ a, a < z.ct → ∃ m, m < 300 ∧ z.fr a = nI m) : mI l yX9_wish wsX9_wish (xrm 4 103) E [.ref (am 0), .int h] (modGs E am z) ((MdS.wish z h).1) (modGs E am ((MdS.wish z h).2)) := by
  intro sz
  refine Met.ofW (cc := cX9_wish) (maxL := 2) (ret := (some .int)) (by decide +kernel) rfl ?_
  intro vp ve s vm args below meth vc s₁ B hml hv
  obtain ⟨rfl, S, hr, hlk, hnm, A, hA, hE, M⟩ := genter B hml hv
  rw [hA]
  obtain ⟨ls, hfr, hl⟩ := gst (m := vm) (as := [.ref (am 0), .int h]) (n := 2) (Nat.le_of_ble_eq_true rfl)
  rw [hfr]
  clear hfr hA
  have hl : lv_has ls 2 [(0, .ref (am 0)), (1, .int h)] := hl
  have M : gM E A s.heap [[(am 0, .inr (9, [.ref (am 1), .ref (am 2), .int (nI z.tn), .int z.mn, .int z.mk, .int z.mg, .int z.jp, .int (nI z.ct), .ref (am 3), .ref (am 4), .ref (am 5), .ref (am 6), .int (nI z.sp), .ref (am 7), .ref (am 8), .ref (am 9), .ref (am 10), .int (b2i z.on), .int z.ba, .int z.bg, .ref (am 11), .long z.up, .long z.by_, .int z.co, .int z.po, .int z.gr, .ref (am 12), .int (nI z.wr)]))], [((am 1), .inl (xI E, 25, .inl z.sg))], [((am 2), .inl (xI E, 8, .inl z.tp))], [((am 3), .inl (xI E, 120, .inl z.fr))], [((am 4), .inl (xI E, 120, .inl z.wh))], [((am 5), .inl (xI E, 120, .inl z.sn))], [((am 6), .inl (xI E, 300, .inl z.ca))], [((am 7), .inl (xI E, 120, .inl z.hd))], [((am 8), .inl (xI E, 120, .inl z.ps))], [((am 9), .inl (xI E, 120, .inl z.tm))], [((am 10), .inl (xI E, 120, .inl z.mm))], [((am 11), .inl (xJ E, 120, .inr (.inl z.se)))], [((am 12), .inl (xI E, 400, .inl z.tx))]] s.heap [] := M
  have hwi : ∀ w ∈ u_ws RX9 TX9 28, w ∈ wsX9_wish := by decide +kernel
  refine lv_iload_n S.1 S.2.1 dX9_wish_0 rfl (lv_at hl 1 rfl) ?_
  refine lv_iconst (v := 0) S.1 S.2.1 dX9_wish_1 (by decide) ?_
  refine lv_sipush (v := 299) S.1 S.2.1 dX9_wish_2 (by decide) ?_
  refine gcalli (L := []) (Mid := []) (Rr := [[(am 0, .inr (9, [.ref (am 1), .ref (am 2), .int (nI z.tn), .int z.mn, .int z.mk, .int z.mg, .int z.jp, .int (nI z.ct), .ref (am 3), .ref (am 4), .ref (am 5), .ref (am 6), .int (nI z.sp), .ref (am 7), .ref (am 8), .ref (am 9), .ref (am 10), .int (b2i z.on), .int z.ba, .int z.bg, .ref (am 11), .long z.up, .long z.by_, .int z.co, .int z.po, .int z.gr, .ref (am 12), .int (nI z.wr)]))], [((am 1), .inl (xI E, 25, .inl z.sg))], [((am 2), .inl (xI E, 8, .inl z.tp))], [((am 3), .inl (xI E, 120, .inl z.fr))], [((am 4), .inl (xI E, 120, .inl z.wh))], [((am 5), .inl (xI E, 120, .inl z.sn))], [((am 6), .inl (xI E, 300, .inl z.ca))], [((am 7), .inl (xI E, 120, .inl z.hd))], [((am 8), .inl (xI E, 120, .inl z.ps))], [((am 9), .inl (xI E, 120, .inl z.tm))], [((am 10), .inl (xI E, 120, .inl z.mm))], [((am 11), .inl (xJ E, 120, .inr (.inl z.se)))], [((am 12), .inl (xI E, 400, .inl z.tx))]]) (Mid' := []) hE M rfl (rfl) (rfl) (fun hgH => va_runS (As := [.int h, .int 0, .int 299]) (rest := []) S (c_X9_within l E h 0 299 _) (va_cwS 3 S.2.2.2.2 gX9_wish_X9_within rfl rfl rfl kd_X9_within.2 ⟨Nat.le_of_ble_eq_true rfl, Nat.le_of_ble_eq_true rfl⟩) hgH.S rfl rfl hl.1 rfl (lv_room (Nat.le_of_ble_eq_true rfl)) dX9_wish_5 ⟨Nat.zero_le _, Nat.zero_le _⟩) (fun H locs M => ?_)
  have M : gM E A s.heap [[(am 0, .inr (9, [.ref (am 1), .ref (am 2), .int (nI z.tn), .int z.mn, .int z.mk, .int z.mg, .int z.jp, .int (nI z.ct), .ref (am 3), .ref (am 4), .ref (am 5), .ref (am 6), .int (nI z.sp), .ref (am 7), .ref (am 8), .ref (am 9), .ref (am 10), .int (b2i z.on), .int z.ba, .int z.bg, .ref (am 11), .long z.up, .long z.by_, .int z.co, .int z.po, .int z.gr, .ref (am 12), .int (nI z.wr)]))], [((am 1), .inl (xI E, 25, .inl z.sg))], [((am 2), .inl (xI E, 8, .inl z.tp))], [((am 3), .inl (xI E, 120, .inl z.fr))], [((am 4), .inl (xI E, 120, .inl z.wh))], [((am 5), .inl (xI E, 120, .inl z.sn))], [((am 6), .inl (xI E, 300, .inl z.ca))], [((am 7), .inl (xI E, 120, .inl z.hd))], [((am 8), .inl (xI E, 120, .inl z.ps))], [((am 9), .inl (xI E, 120, .inl z.tm))], [((am 10), .inl (xI E, 120, .inl z.mm))], [((am 11), .inl (xJ E, 120, .inr (.inl z.se)))], [((am 12), .inl (xI E, 400, .inl z.tx))]] H locs := M
  refine lv_if_ne (tgt := 14) S.1 S.2.1 dX9_wish_8 (by decide) (fun c8 => ?_) (fun c8 => ?_)
  ·
    refine lv_aload_n S.1 S.2.1 dX9_wish_14 rfl (lv_at hl 0 rfl) ?_
    refine gget S hE M (C := RX9) (T := TX9) (N := 28) (ci := 9) (index := 78) hwi 0 rfl rfl 7 (by decide) (by decide +kernel) rfl dX9_wish_15 ?_
    refine lv_if_ne (tgt := 26) S.1 S.2.1 dX9_wish_18 (by decide) (fun c18 => ?_) (fun c18 => ?_)
    ·
      have hp0 : 0 < z.ct := Nat.pos_of_ne_zero fun q => c18 (by rw [q]; decide)
      refine lv_aload_n S.1 S.2.1 dX9_wish_26 rfl (lv_at hl 0 rfl) ?_
      refine lv_iload_n S.1 S.2.1 dX9_wish_27 rfl (lv_at hl 1 rfl) ?_
      refine gcalli (L := []) (Mid := modGs E am z) (Rr := []) (Mid' := modGs E am (z.wsh h)) hE M rfl (rfl) (rfl) (fun hgH => va_runV (As := [.int h]) (rest := []) S (c_X9_wishFor l E am z h  hc hfr hp0 _) (cwV 1 S.2.2.2.2 gX9_wish_X9_wishFor rfl rfl rfl kd_X9_wishFor ⟨Nat.le_of_ble_eq_true rfl, Nat.le_of_ble_eq_true rfl⟩) (hgH.V hE (show vwCl[9]? = some (RX9, TX9, 28) from rfl) rfl) rfl rfl hl.1 rfl (lv_room (Nat.le_of_ble_eq_true rfl)) dX9_wish_28 ⟨Nat.zero_le _, Nat.zero_le _⟩) (fun H locs M => ?_)
      have M : gM E A s.heap [[(am 0, .inr (9, [.ref (am 1), .ref (am 2), .int (nI (z.wsh h).tn), .int ((z.wsh h).mn), .int ((z.wsh h).mk), .int ((z.wsh h).mg), .int ((z.wsh h).jp), .int (nI (z.wsh h).ct), .ref (am 3), .ref (am 4), .ref (am 5), .ref (am 6), .int (nI (z.wsh h).sp), .ref (am 7), .ref (am 8), .ref (am 9), .ref (am 10), .int (b2i (z.wsh h).on), .int ((z.wsh h).ba), .int ((z.wsh h).bg), .ref (am 11), .long ((z.wsh h).up), .long ((z.wsh h).by_), .int ((z.wsh h).co), .int ((z.wsh h).po), .int ((z.wsh h).gr), .ref (am 12), .int (nI (z.wsh h).wr)]))], [((am 1), .inl (xI E, 25, .inl ((z.wsh h).sg)))], [((am 2), .inl (xI E, 8, .inl ((z.wsh h).tp)))], [((am 3), .inl (xI E, 120, .inl ((z.wsh h).fr)))], [((am 4), .inl (xI E, 120, .inl ((z.wsh h).wh)))], [((am 5), .inl (xI E, 120, .inl ((z.wsh h).sn)))], [((am 6), .inl (xI E, 300, .inl ((z.wsh h).ca)))], [((am 7), .inl (xI E, 120, .inl ((z.wsh h).hd)))], [((am 8), .inl (xI E, 120, .inl ((z.wsh h).ps)))], [((am 9), .inl (xI E, 120, .inl ((z.wsh h).tm)))], [((am 10), .inl (xI E, 120, .inl ((z.wsh h).mm)))], [((am 11), .inl (xJ E, 120, .inr (.inl ((z.wsh h).se))))], [((am 12), .inl (xI E, 400, .inl ((z.wsh h).tx)))]] H locs := M
      refine lv_sipush (v := 10000) S.1 S.2.1 dX9_wish_31 (by decide) ?_
      refine lv_iadd S.1 S.2.1 dX9_wish_34 ?_
      have he : MdS.wish z h = (((z.wsh h).wRR) + 10000, z.wsh h) := by unfold MdS.wish; rw [if_neg c8, if_neg c18] <;> rfl
      exact giret S hr hlk M (by rw [he]) (by rw [he]; rfl) dX9_wish_35
    ·
      refine lv_bipush (v := (-3)) S.1 S.2.1 dX9_wish_21 (by decide) ?_
      refine lv_goto (tgt := 35) S.1 S.2.1 dX9_wish_23 (by decide) ?_
      have he : MdS.wish z h = ((-3), z) := by unfold MdS.wish; rw [if_neg c8, if_pos c18] <;> rfl
      exact giret S hr hlk M (by rw [he]) (by rw [he]; rfl) dX9_wish_35
  ·
    refine lv_bipush (v := (-2)) S.1 S.2.1 dX9_wish_11 (by decide) ?_
    have he : MdS.wish z h = ((-2), z) := by unfold MdS.wish; rw [if_pos c8] <;> rfl
    exact giret S hr hlk M (by rw [he]) (by rw [he]; rfl) dX9_wish_13

set_option maxHeartbeats 4000000 in
set_option maxRecDepth 100000 in
theorem c_X9_spike (l : Launch) (E : xE) (am : Nat → Nat) (z : MdS) (w : Int32) : mI l yX9_spike wsX9_spike (xrm 1 22) E [.ref (am 0), .int w] (modGs E am z) (z.spike w) (modGs E am z) := by
  intro sz
  refine Met.ofW (cc := cX9_spike) (maxL := 2) (ret := (some .int)) (by decide +kernel) rfl ?_
  intro vp ve s vm args below meth vc s₁ B hml hv
  obtain ⟨rfl, S, hr, hlk, hnm, A, hA, hE, M⟩ := genter B hml hv
  rw [hA]
  obtain ⟨ls, hfr, hl⟩ := gst (m := vm) (as := [.ref (am 0), .int w]) (n := 2) (Nat.le_of_ble_eq_true rfl)
  rw [hfr]
  clear hfr hA
  have hl : lv_has ls 2 [(0, .ref (am 0)), (1, .int w)] := hl
  have M : gM E A s.heap [[(am 0, .inr (9, [.ref (am 1), .ref (am 2), .int (nI z.tn), .int z.mn, .int z.mk, .int z.mg, .int z.jp, .int (nI z.ct), .ref (am 3), .ref (am 4), .ref (am 5), .ref (am 6), .int (nI z.sp), .ref (am 7), .ref (am 8), .ref (am 9), .ref (am 10), .int (b2i z.on), .int z.ba, .int z.bg, .ref (am 11), .long z.up, .long z.by_, .int z.co, .int z.po, .int z.gr, .ref (am 12), .int (nI z.wr)]))], [((am 1), .inl (xI E, 25, .inl z.sg))], [((am 2), .inl (xI E, 8, .inl z.tp))], [((am 3), .inl (xI E, 120, .inl z.fr))], [((am 4), .inl (xI E, 120, .inl z.wh))], [((am 5), .inl (xI E, 120, .inl z.sn))], [((am 6), .inl (xI E, 300, .inl z.ca))], [((am 7), .inl (xI E, 120, .inl z.hd))], [((am 8), .inl (xI E, 120, .inl z.ps))], [((am 9), .inl (xI E, 120, .inl z.tm))], [((am 10), .inl (xI E, 120, .inl z.mm))], [((am 11), .inl (xJ E, 120, .inr (.inl z.se)))], [((am 12), .inl (xI E, 400, .inl z.tx))]] s.heap [] := M
  have hwi : ∀ w ∈ u_ws RX9 TX9 28, w ∈ wsX9_spike := by decide +kernel
  refine lv_iload_n S.1 S.2.1 dX9_spike_0 rfl (lv_at hl 1 rfl) ?_
  refine lv_iconst (v := 0) S.1 S.2.1 dX9_spike_1 (by decide) ?_
  refine lv_iconst (v := 1) S.1 S.2.1 dX9_spike_2 (by decide) ?_
  refine gcalli (L := []) (Mid := []) (Rr := [[(am 0, .inr (9, [.ref (am 1), .ref (am 2), .int (nI z.tn), .int z.mn, .int z.mk, .int z.mg, .int z.jp, .int (nI z.ct), .ref (am 3), .ref (am 4), .ref (am 5), .ref (am 6), .int (nI z.sp), .ref (am 7), .ref (am 8), .ref (am 9), .ref (am 10), .int (b2i z.on), .int z.ba, .int z.bg, .ref (am 11), .long z.up, .long z.by_, .int z.co, .int z.po, .int z.gr, .ref (am 12), .int (nI z.wr)]))], [((am 1), .inl (xI E, 25, .inl z.sg))], [((am 2), .inl (xI E, 8, .inl z.tp))], [((am 3), .inl (xI E, 120, .inl z.fr))], [((am 4), .inl (xI E, 120, .inl z.wh))], [((am 5), .inl (xI E, 120, .inl z.sn))], [((am 6), .inl (xI E, 300, .inl z.ca))], [((am 7), .inl (xI E, 120, .inl z.hd))], [((am 8), .inl (xI E, 120, .inl z.ps))], [((am 9), .inl (xI E, 120, .inl z.tm))], [((am 10), .inl (xI E, 120, .inl z.mm))], [((am 11), .inl (xJ E, 120, .inr (.inl z.se)))], [((am 12), .inl (xI E, 400, .inl z.tx))]]) (Mid' := []) hE M rfl (rfl) (rfl) (fun hgH => va_runS (As := [.int w, .int 0, .int 1]) (rest := []) S (c_X9_within l E w 0 1 _) (va_cwS 3 S.2.2.2.2 gX9_spike_X9_within rfl rfl rfl kd_X9_within.2 ⟨Nat.le_of_ble_eq_true rfl, Nat.le_of_ble_eq_true rfl⟩) hgH.S rfl rfl hl.1 rfl (lv_room (Nat.le_of_ble_eq_true rfl)) dX9_spike_3 ⟨Nat.zero_le _, Nat.zero_le _⟩) (fun H locs M => ?_)
  have M : gM E A s.heap [[(am 0, .inr (9, [.ref (am 1), .ref (am 2), .int (nI z.tn), .int z.mn, .int z.mk, .int z.mg, .int z.jp, .int (nI z.ct), .ref (am 3), .ref (am 4), .ref (am 5), .ref (am 6), .int (nI z.sp), .ref (am 7), .ref (am 8), .ref (am 9), .ref (am 10), .int (b2i z.on), .int z.ba, .int z.bg, .ref (am 11), .long z.up, .long z.by_, .int z.co, .int z.po, .int z.gr, .ref (am 12), .int (nI z.wr)]))], [((am 1), .inl (xI E, 25, .inl z.sg))], [((am 2), .inl (xI E, 8, .inl z.tp))], [((am 3), .inl (xI E, 120, .inl z.fr))], [((am 4), .inl (xI E, 120, .inl z.wh))], [((am 5), .inl (xI E, 120, .inl z.sn))], [((am 6), .inl (xI E, 300, .inl z.ca))], [((am 7), .inl (xI E, 120, .inl z.hd))], [((am 8), .inl (xI E, 120, .inl z.ps))], [((am 9), .inl (xI E, 120, .inl z.tm))], [((am 10), .inl (xI E, 120, .inl z.mm))], [((am 11), .inl (xJ E, 120, .inr (.inl z.se)))], [((am 12), .inl (xI E, 400, .inl z.tx))]] H locs := M
  refine lv_if_ne (tgt := 12) S.1 S.2.1 dX9_spike_6 (by decide) (fun c6 => ?_) (fun c6 => ?_)
  ·
    refine lv_iload_n S.1 S.2.1 dX9_spike_12 rfl (lv_at hl 1 rfl) ?_
    refine lv_if_ne (tgt := 31) S.1 S.2.1 dX9_spike_13 (by decide) (fun c13 => ?_) (fun c13 => ?_)
    ·
      refine lv_aload_n S.1 S.2.1 dX9_spike_31 rfl (lv_at hl 0 rfl) ?_
      refine gget S hE M (C := RX9) (T := TX9) (N := 28) (ci := 9) (index := 99) hwi 0 rfl rfl 17 (by decide) (by decide +kernel) rfl dX9_spike_32 ?_
      refine lv_if_eq (tgt := 49) S.1 S.2.1 dX9_spike_35 (by decide) (fun c35 => ?_) (fun c35 => ?_)
      ·
        refine lv_bipush (v := (-9)) S.1 S.2.1 dX9_spike_49 (by decide) ?_
        exact giret S hr hlk M (by unfold MdS.spike; rw [if_neg c6, if_neg c13, if_pos c35]) (rfl) dX9_spike_51
      ·
        refine lv_aload_n S.1 S.2.1 dX9_spike_38 rfl (lv_at hl 0 rfl) ?_
        refine gget S hE M (C := RX9) (T := TX9) (N := 28) (ci := 9) (index := 106) hwi 0 rfl rfl 18 (by decide) (by decide +kernel) rfl dX9_spike_39 ?_
        refine lv_sipush (v := 10000) S.1 S.2.1 dX9_spike_42 (by decide) ?_
        refine lv_iadd S.1 S.2.1 dX9_spike_45 ?_
        refine lv_goto (tgt := 51) S.1 S.2.1 dX9_spike_46 (by decide) ?_
        exact giret S hr hlk M (by unfold MdS.spike; rw [if_neg c6, if_neg c13, if_neg c35]) (rfl) dX9_spike_51
    ·
      refine lv_aload_n S.1 S.2.1 dX9_spike_16 rfl (lv_at hl 0 rfl) ?_
      refine gget S hE M (C := RX9) (T := TX9) (N := 28) (ci := 9) (index := 99) hwi 0 rfl rfl 17 (by decide) (by decide +kernel) rfl dX9_spike_17 ?_
      refine lv_if_eq (tgt := 27) S.1 S.2.1 dX9_spike_20 (by decide) (fun c20 => ?_) (fun c20 => ?_)
      ·
        refine lv_iconst (v := 0) S.1 S.2.1 dX9_spike_27 (by decide) ?_
        refine lv_goto (tgt := 51) S.1 S.2.1 dX9_spike_28 (by decide) ?_
        exact giret S hr hlk M (by unfold MdS.spike; rw [if_neg c6, if_pos c13, if_pos c20]) (rfl) dX9_spike_51
      ·
        refine lv_iconst (v := 1) S.1 S.2.1 dX9_spike_23 (by decide) ?_
        refine lv_goto (tgt := 51) S.1 S.2.1 dX9_spike_24 (by decide) ?_
        exact giret S hr hlk M (by unfold MdS.spike; rw [if_neg c6, if_pos c13, if_neg c20]) (rfl) dX9_spike_51
  ·
    refine lv_bipush (v := (-2)) S.1 S.2.1 dX9_spike_9 (by decide) ?_
    exact giret S hr hlk M (by unfold MdS.spike; rw [if_pos c6]) (rfl) dX9_spike_11

set_option maxHeartbeats 4000000 in
set_option maxRecDepth 100000 in
theorem c_X9_late (l : Launch) (E : xE) (am : Nat → Nat) (z : MdS) (v : Int32) (hc : z.ct ≤ 120) : mI l yX9_late wsX9_late (xrm 1 22) E [.ref (am 0), .int v] (modGs E am z) (z.late v) (modGs E am z) := by
  intro sz
  refine Met.ofW (cc := cX9_late) (maxL := 4) (ret := (some .int)) (by decide +kernel) rfl ?_
  intro vp ve s vm args below meth vc s₁ B hml hv
  obtain ⟨rfl, S, hr, hlk, hnm, A, hA, hE, M⟩ := genter B hml hv
  rw [hA]
  obtain ⟨ls, hfr, hl⟩ := gst (m := vm) (as := [.ref (am 0), .int v]) (n := 4) (Nat.le_of_ble_eq_true rfl)
  rw [hfr]
  clear hfr hA
  have hl : lv_has ls 4 [(0, .ref (am 0)), (1, .int v)] := hl
  have M : gM E A s.heap [[(am 0, .inr (9, [.ref (am 1), .ref (am 2), .int (nI z.tn), .int z.mn, .int z.mk, .int z.mg, .int z.jp, .int (nI z.ct), .ref (am 3), .ref (am 4), .ref (am 5), .ref (am 6), .int (nI z.sp), .ref (am 7), .ref (am 8), .ref (am 9), .ref (am 10), .int (b2i z.on), .int z.ba, .int z.bg, .ref (am 11), .long z.up, .long z.by_, .int z.co, .int z.po, .int z.gr, .ref (am 12), .int (nI z.wr)]))], [((am 1), .inl (xI E, 25, .inl z.sg))], [((am 2), .inl (xI E, 8, .inl z.tp))], [((am 3), .inl (xI E, 120, .inl z.fr))], [((am 4), .inl (xI E, 120, .inl z.wh))], [((am 5), .inl (xI E, 120, .inl z.sn))], [((am 6), .inl (xI E, 300, .inl z.ca))], [((am 7), .inl (xI E, 120, .inl z.hd))], [((am 8), .inl (xI E, 120, .inl z.ps))], [((am 9), .inl (xI E, 120, .inl z.tm))], [((am 10), .inl (xI E, 120, .inl z.mm))], [((am 11), .inl (xJ E, 120, .inr (.inl z.se)))], [((am 12), .inl (xI E, 400, .inl z.tx))]] s.heap [] := M
  have hwi : ∀ w ∈ u_ws RX9 TX9 28, w ∈ wsX9_late := by decide +kernel
  have ho9 : z.old ≤ z.ct := Nat.sub_le _ _
  obtain ⟨Q, hQ⟩ : ∃ Q : State → Prop, MQ below (va_Qi (fun x (_ : Unit) => x = (z.late v)) (fun _ => kQ E A (modGs E am z)) A) ([.ref (am 0), .int v] : List Value).toArray s 0 0 A = Q := ⟨_, rfl⟩
  rw [hQ]
  have hL : ∀ (n : Nat), ∀ (i : Nat) (a : Int32), ¬ win v (-10000) 40000 = 0 → i + n = z.ct → cgm z.dl v (z.ct - z.old) z.old 0 = cgm z.dl v n i a → ∀ (H : Heap) (locs : List Loc), gM E A s.heap [[(am 0, .inr (9, [.ref (am 1), .ref (am 2), .int (nI z.tn), .int z.mn, .int z.mk, .int z.mg, .int z.jp, .int (nI z.ct), .ref (am 3), .ref (am 4), .ref (am 5), .ref (am 6), .int (nI z.sp), .ref (am 7), .ref (am 8), .ref (am 9), .ref (am 10), .int (b2i z.on), .int z.ba, .int z.bg, .ref (am 11), .long z.up, .long z.by_, .int z.co, .int z.po, .int z.gr, .ref (am 12), .int (nI z.wr)]))], [((am 1), .inl (xI E, 25, .inl z.sg))], [((am 2), .inl (xI E, 8, .inl z.tp))], [((am 3), .inl (xI E, 120, .inl z.fr))], [((am 4), .inl (xI E, 120, .inl z.wh))], [((am 5), .inl (xI E, 120, .inl z.sn))], [((am 6), .inl (xI E, 300, .inl z.ca))], [((am 7), .inl (xI E, 120, .inl z.hd))], [((am 8), .inl (xI E, 120, .inl z.ps))], [((am 9), .inl (xI E, 120, .inl z.tm))], [((am 10), .inl (xI E, 120, .inl z.mm))], [((am 11), .inl (xJ E, 120, .inr (.inl z.se)))], [((am 12), .inl (xI E, 400, .inl z.tx))]] H locs → ∀ ls : Array Slot, lv_has ls 4 [(0, .ref (am 0)), (1, .int v), (2, .int a), (3, .int (nI i))] → W vp l ve (headSpec wsX9_late (xrm 1 22)).room s vm ([.ref (am 0), .int v] : List Value).toArray below meth vc H locs 0 0 Q (F0 vm 22 ls []) := by
    intro n
    induction n with
    | zero =>
      intro i a c9 hi hI H locs M ls hl
      refine lv_iload_n S.1 S.2.1 dX9_late_22 rfl (lv_at hl 3 rfl) ?_
      refine lv_aload_n S.1 S.2.1 dX9_late_23 rfl (lv_at hl 0 rfl) ?_
      refine gget S hE M (C := RX9) (T := TX9) (N := 28) (ci := 9) (index := 78) hwi 0 rfl rfl 7 (by decide) (by decide +kernel) rfl dX9_late_24 ?_
      refine lv_icmp_ge (tgt := 53) S.1 S.2.1 dX9_late_27 (by decide) (fun _ => ?_) (fun c_ => absurd (nI_le (by omega) (by omega)) c_)
      refine lv_iload_n S.1 S.2.1 dX9_late_53 rfl (lv_at hl 2 rfl) ?_
      rw [← hQ]
      exact giret S hr hlk M (by unfold MdS.late; rw [if_neg c9, hI, cgm]) (rfl) dX9_late_54
    | succ n ih =>
      intro i a c9 hi hI H locs M ls hl
      refine lv_iload_n S.1 S.2.1 dX9_late_22 rfl (lv_at hl 3 rfl) ?_
      refine lv_aload_n S.1 S.2.1 dX9_late_23 rfl (lv_at hl 0 rfl) ?_
      refine gget S hE M (C := RX9) (T := TX9) (N := 28) (ci := 9) (index := 78) hwi 0 rfl rfl 7 (by decide) (by decide +kernel) rfl dX9_late_24 ?_
      refine lv_icmp_ge (tgt := 53) S.1 S.2.1 dX9_late_27 (by decide) (fun c_ => absurd c_ (nI_ge (by omega) (by omega))) (fun _ => ?_)
      refine lv_iload_n S.1 S.2.1 dX9_late_30 rfl (lv_at hl 2 rfl) ?_
      refine lv_aload_n S.1 S.2.1 dX9_late_31 rfl (lv_at hl 0 rfl) ?_
      refine lv_iload_n S.1 S.2.1 dX9_late_32 rfl (lv_at hl 3 rfl) ?_
      refine gcalli (L := []) (Mid := modGs E am z) (Rr := []) (Mid' := modGs E am z) hE M rfl (rfl) (rfl) (fun hgH => va_runV (As := [.int (nI i)]) (rest := [.int a]) S (c_X9_delay l E am z i  (by omega) _) (cwV 1 S.2.2.2.2 gX9_late_X9_delay rfl rfl rfl kd_X9_delay ⟨Nat.le_of_ble_eq_true rfl, Nat.le_of_ble_eq_true rfl⟩) (hgH.V hE (show vwCl[9]? = some (RX9, TX9, 28) from rfl) rfl) rfl rfl hl.1 rfl (lv_room (Nat.le_of_ble_eq_true rfl)) dX9_late_33 ⟨Nat.zero_le _, Nat.zero_le _⟩) (fun H locs M => ?_)
      have M : gM E A s.heap [[(am 0, .inr (9, [.ref (am 1), .ref (am 2), .int (nI z.tn), .int z.mn, .int z.mk, .int z.mg, .int z.jp, .int (nI z.ct), .ref (am 3), .ref (am 4), .ref (am 5), .ref (am 6), .int (nI z.sp), .ref (am 7), .ref (am 8), .ref (am 9), .ref (am 10), .int (b2i z.on), .int z.ba, .int z.bg, .ref (am 11), .long z.up, .long z.by_, .int z.co, .int z.po, .int z.gr, .ref (am 12), .int (nI z.wr)]))], [((am 1), .inl (xI E, 25, .inl z.sg))], [((am 2), .inl (xI E, 8, .inl z.tp))], [((am 3), .inl (xI E, 120, .inl z.fr))], [((am 4), .inl (xI E, 120, .inl z.wh))], [((am 5), .inl (xI E, 120, .inl z.sn))], [((am 6), .inl (xI E, 300, .inl z.ca))], [((am 7), .inl (xI E, 120, .inl z.hd))], [((am 8), .inl (xI E, 120, .inl z.ps))], [((am 9), .inl (xI E, 120, .inl z.tm))], [((am 10), .inl (xI E, 120, .inl z.mm))], [((am 11), .inl (xJ E, 120, .inr (.inl z.se)))], [((am 12), .inl (xI E, 400, .inl z.tx))]] H locs := M
      refine lv_iload_n S.1 S.2.1 dX9_late_36 rfl (lv_at hl 1 rfl) ?_
      refine lv_icmp_le (tgt := 44) S.1 S.2.1 dX9_late_37 (by decide) (fun c37 => ?_) (fun c37 => ?_)
      ·
        refine lv_iconst (v := 0) S.1 S.2.1 dX9_late_44 (by decide) ?_
        refine lv_iadd S.1 S.2.1 dX9_late_45 ?_
        refine lv_istore_n (lv' := [(2, .int (a + 0)), (0, .ref (am 0)), (1, .int v), (3, .int (nI i))]) S.1 S.2.1 dX9_late_46 rfl hl (by decide) rfl (fun ls hl => ?_)
        refine lv_iinc (v := nI (i + 1)) (lv' := [(3, .int (nI (i + 1))), (2, .int (a + 0)), (0, .ref (am 0)), (1, .int v)]) S.1 S.2.1 dX9_late_47 hl (k := 3) rfl (nI_1 _) (by decide) rfl (fun ls hl => ?_)
        refine lv_goto (tgt := 22) S.1 S.2.1 dX9_late_50 (by decide) ?_
        exact ih (i + 1) _ c9 (by omega) (by rw [hI, cgm, if_pos c37]) _ _ M ls (lv_sub hl [2, 3, 1, 0] rfl)
      ·
        refine lv_iconst (v := 1) S.1 S.2.1 dX9_late_40 (by decide) ?_
        refine lv_goto (tgt := 45) S.1 S.2.1 dX9_late_41 (by decide) ?_
        refine lv_iadd S.1 S.2.1 dX9_late_45 ?_
        refine lv_istore_n (lv' := [(2, .int (a + 1)), (0, .ref (am 0)), (1, .int v), (3, .int (nI i))]) S.1 S.2.1 dX9_late_46 rfl hl (by decide) rfl (fun ls hl => ?_)
        refine lv_iinc (v := nI (i + 1)) (lv' := [(3, .int (nI (i + 1))), (2, .int (a + 1)), (0, .ref (am 0)), (1, .int v)]) S.1 S.2.1 dX9_late_47 hl (k := 3) rfl (nI_1 _) (by decide) rfl (fun ls hl => ?_)
        refine lv_goto (tgt := 22) S.1 S.2.1 dX9_late_50 (by decide) ?_
        exact ih (i + 1) _ c9 (by omega) (by rw [hI, cgm, if_neg c37]) _ _ M ls (lv_sub hl [2, 3, 1, 0] rfl)
  refine lv_iload_n S.1 S.2.1 dX9_late_0 rfl (lv_at hl 1 rfl) ?_
  refine lv_sipush (v := (-10000)) S.1 S.2.1 dX9_late_1 (by decide) ?_
  refine lv_ldc (v := 40000) S.1 S.2.1 S.2.2.2.1 (S.2.2.2.2 (.constant RX9 172 40000) (by decide +kernel)) dX9_late_4 ?_
  refine gcalli (L := []) (Mid := []) (Rr := [[(am 0, .inr (9, [.ref (am 1), .ref (am 2), .int (nI z.tn), .int z.mn, .int z.mk, .int z.mg, .int z.jp, .int (nI z.ct), .ref (am 3), .ref (am 4), .ref (am 5), .ref (am 6), .int (nI z.sp), .ref (am 7), .ref (am 8), .ref (am 9), .ref (am 10), .int (b2i z.on), .int z.ba, .int z.bg, .ref (am 11), .long z.up, .long z.by_, .int z.co, .int z.po, .int z.gr, .ref (am 12), .int (nI z.wr)]))], [((am 1), .inl (xI E, 25, .inl z.sg))], [((am 2), .inl (xI E, 8, .inl z.tp))], [((am 3), .inl (xI E, 120, .inl z.fr))], [((am 4), .inl (xI E, 120, .inl z.wh))], [((am 5), .inl (xI E, 120, .inl z.sn))], [((am 6), .inl (xI E, 300, .inl z.ca))], [((am 7), .inl (xI E, 120, .inl z.hd))], [((am 8), .inl (xI E, 120, .inl z.ps))], [((am 9), .inl (xI E, 120, .inl z.tm))], [((am 10), .inl (xI E, 120, .inl z.mm))], [((am 11), .inl (xJ E, 120, .inr (.inl z.se)))], [((am 12), .inl (xI E, 400, .inl z.tx))]]) (Mid' := []) hE M rfl (rfl) (rfl) (fun hgH => va_runS (As := [.int v, .int (-10000), .int 40000]) (rest := []) S (c_X9_within l E v (-10000) 40000 _) (va_cwS 3 S.2.2.2.2 gX9_late_X9_within rfl rfl rfl kd_X9_within.2 ⟨Nat.le_of_ble_eq_true rfl, Nat.le_of_ble_eq_true rfl⟩) hgH.S rfl rfl hl.1 rfl (lv_room (Nat.le_of_ble_eq_true rfl)) dX9_late_6 ⟨Nat.zero_le _, Nat.zero_le _⟩) (fun H locs M => ?_)
  have M : gM E A s.heap [[(am 0, .inr (9, [.ref (am 1), .ref (am 2), .int (nI z.tn), .int z.mn, .int z.mk, .int z.mg, .int z.jp, .int (nI z.ct), .ref (am 3), .ref (am 4), .ref (am 5), .ref (am 6), .int (nI z.sp), .ref (am 7), .ref (am 8), .ref (am 9), .ref (am 10), .int (b2i z.on), .int z.ba, .int z.bg, .ref (am 11), .long z.up, .long z.by_, .int z.co, .int z.po, .int z.gr, .ref (am 12), .int (nI z.wr)]))], [((am 1), .inl (xI E, 25, .inl z.sg))], [((am 2), .inl (xI E, 8, .inl z.tp))], [((am 3), .inl (xI E, 120, .inl z.fr))], [((am 4), .inl (xI E, 120, .inl z.wh))], [((am 5), .inl (xI E, 120, .inl z.sn))], [((am 6), .inl (xI E, 300, .inl z.ca))], [((am 7), .inl (xI E, 120, .inl z.hd))], [((am 8), .inl (xI E, 120, .inl z.ps))], [((am 9), .inl (xI E, 120, .inl z.tm))], [((am 10), .inl (xI E, 120, .inl z.mm))], [((am 11), .inl (xJ E, 120, .inr (.inl z.se)))], [((am 12), .inl (xI E, 400, .inl z.tx))]] H locs := M
  refine lv_if_ne (tgt := 15) S.1 S.2.1 dX9_late_9 (by decide) (fun c9 => ?_) (fun c9 => ?_)
  ·
    refine lv_iconst (v := 0) S.1 S.2.1 dX9_late_15 (by decide) ?_
    refine lv_istore_n (lv' := [(2, .int 0), (0, .ref (am 0)), (1, .int v)]) S.1 S.2.1 dX9_late_16 rfl hl (by decide) rfl (fun ls hl => ?_)
    refine lv_aload_n S.1 S.2.1 dX9_late_17 rfl (lv_at hl 1 rfl) ?_
    refine gcalli (L := []) (Mid := modGs E am z) (Rr := []) (Mid' := modGs E am z) hE M rfl (rfl) (rfl) (fun hgH => va_runV (As := []) (rest := []) S (c_X9_oldest l E am z   hc _) (cwV 0 S.2.2.2.2 gX9_late_X9_oldest rfl rfl rfl kd_X9_oldest ⟨Nat.le_of_ble_eq_true rfl, Nat.le_of_ble_eq_true rfl⟩) (hgH.V hE (show vwCl[9]? = some (RX9, TX9, 28) from rfl) rfl) rfl rfl hl.1 rfl (lv_room (Nat.le_of_ble_eq_true rfl)) dX9_late_18 ⟨Nat.zero_le _, Nat.zero_le _⟩) (fun H locs M => ?_)
    have M : gM E A s.heap [[(am 0, .inr (9, [.ref (am 1), .ref (am 2), .int (nI z.tn), .int z.mn, .int z.mk, .int z.mg, .int z.jp, .int (nI z.ct), .ref (am 3), .ref (am 4), .ref (am 5), .ref (am 6), .int (nI z.sp), .ref (am 7), .ref (am 8), .ref (am 9), .ref (am 10), .int (b2i z.on), .int z.ba, .int z.bg, .ref (am 11), .long z.up, .long z.by_, .int z.co, .int z.po, .int z.gr, .ref (am 12), .int (nI z.wr)]))], [((am 1), .inl (xI E, 25, .inl z.sg))], [((am 2), .inl (xI E, 8, .inl z.tp))], [((am 3), .inl (xI E, 120, .inl z.fr))], [((am 4), .inl (xI E, 120, .inl z.wh))], [((am 5), .inl (xI E, 120, .inl z.sn))], [((am 6), .inl (xI E, 300, .inl z.ca))], [((am 7), .inl (xI E, 120, .inl z.hd))], [((am 8), .inl (xI E, 120, .inl z.ps))], [((am 9), .inl (xI E, 120, .inl z.tm))], [((am 10), .inl (xI E, 120, .inl z.mm))], [((am 11), .inl (xJ E, 120, .inr (.inl z.se)))], [((am 12), .inl (xI E, 400, .inl z.tx))]] H locs := M
    refine lv_istore_n (lv' := [(3, .int (nI z.old)), (2, .int 0), (0, .ref (am 0)), (1, .int v)]) S.1 S.2.1 dX9_late_21 rfl hl (by decide) rfl (fun ls hl => ?_)
    exact hL (z.ct - z.old) z.old 0 c9 (by omega) rfl _ _ M ls (lv_sub hl [2, 3, 1, 0] rfl)
  ·
    refine lv_bipush (v := (-2)) S.1 S.2.1 dX9_late_12 (by decide) ?_
    rw [← hQ]
    exact giret S hr hlk M (by unfold MdS.late; rw [if_pos c9]) (rfl) dX9_late_14

set_option maxHeartbeats 4000000 in
set_option maxRecDepth 100000 in
theorem c_X9_loss (l : Launch) (E : xE) (am : Nat → Nat) (z : MdS) (v : Int32) (hc : z.ct ≤ 120) : mI l yX9_loss wsX9_loss (xrm 1 22) E [.ref (am 0), .int v] (modGs E am z) (z.loss v) (modGs E am z) := by
  intro sz
  refine Met.ofW (cc := cX9_loss) (maxL := 4) (ret := (some .int)) (by decide +kernel) rfl ?_
  intro vp ve s vm args below meth vc s₁ B hml hv
  obtain ⟨rfl, S, hr, hlk, hnm, A, hA, hE, M⟩ := genter B hml hv
  rw [hA]
  obtain ⟨ls, hfr, hl⟩ := gst (m := vm) (as := [.ref (am 0), .int v]) (n := 4) (Nat.le_of_ble_eq_true rfl)
  rw [hfr]
  clear hfr hA
  have hl : lv_has ls 4 [(0, .ref (am 0)), (1, .int v)] := hl
  have M : gM E A s.heap [[(am 0, .inr (9, [.ref (am 1), .ref (am 2), .int (nI z.tn), .int z.mn, .int z.mk, .int z.mg, .int z.jp, .int (nI z.ct), .ref (am 3), .ref (am 4), .ref (am 5), .ref (am 6), .int (nI z.sp), .ref (am 7), .ref (am 8), .ref (am 9), .ref (am 10), .int (b2i z.on), .int z.ba, .int z.bg, .ref (am 11), .long z.up, .long z.by_, .int z.co, .int z.po, .int z.gr, .ref (am 12), .int (nI z.wr)]))], [((am 1), .inl (xI E, 25, .inl z.sg))], [((am 2), .inl (xI E, 8, .inl z.tp))], [((am 3), .inl (xI E, 120, .inl z.fr))], [((am 4), .inl (xI E, 120, .inl z.wh))], [((am 5), .inl (xI E, 120, .inl z.sn))], [((am 6), .inl (xI E, 300, .inl z.ca))], [((am 7), .inl (xI E, 120, .inl z.hd))], [((am 8), .inl (xI E, 120, .inl z.ps))], [((am 9), .inl (xI E, 120, .inl z.tm))], [((am 10), .inl (xI E, 120, .inl z.mm))], [((am 11), .inl (xJ E, 120, .inr (.inl z.se)))], [((am 12), .inl (xI E, 400, .inl z.tx))]] s.heap [] := M
  have hwi : ∀ w ∈ u_ws RX9 TX9 28, w ∈ wsX9_loss := by decide +kernel
  obtain ⟨Q, hQ⟩ : ∃ Q : State → Prop, MQ below (va_Qi (fun x (_ : Unit) => x = (z.loss v)) (fun _ => kQ E A (modGs E am z)) A) ([.ref (am 0), .int v] : List Value).toArray s 0 0 A = Q := ⟨_, rfl⟩
  rw [hQ]
  have hL : ∀ (n : Nat), ∀ (i : Nat) (a : Int32), ¬ win v (-10000) 40000 = 0 → i + n = z.ct → cgm z.dl v z.ct 0 0 = cgm z.dl v n i a → ∀ (H : Heap) (locs : List Loc), gM E A s.heap [[(am 0, .inr (9, [.ref (am 1), .ref (am 2), .int (nI z.tn), .int z.mn, .int z.mk, .int z.mg, .int z.jp, .int (nI z.ct), .ref (am 3), .ref (am 4), .ref (am 5), .ref (am 6), .int (nI z.sp), .ref (am 7), .ref (am 8), .ref (am 9), .ref (am 10), .int (b2i z.on), .int z.ba, .int z.bg, .ref (am 11), .long z.up, .long z.by_, .int z.co, .int z.po, .int z.gr, .ref (am 12), .int (nI z.wr)]))], [((am 1), .inl (xI E, 25, .inl z.sg))], [((am 2), .inl (xI E, 8, .inl z.tp))], [((am 3), .inl (xI E, 120, .inl z.fr))], [((am 4), .inl (xI E, 120, .inl z.wh))], [((am 5), .inl (xI E, 120, .inl z.sn))], [((am 6), .inl (xI E, 300, .inl z.ca))], [((am 7), .inl (xI E, 120, .inl z.hd))], [((am 8), .inl (xI E, 120, .inl z.ps))], [((am 9), .inl (xI E, 120, .inl z.tm))], [((am 10), .inl (xI E, 120, .inl z.mm))], [((am 11), .inl (xJ E, 120, .inr (.inl z.se)))], [((am 12), .inl (xI E, 400, .inl z.tx))]] H locs → ∀ ls : Array Slot, lv_has ls 4 [(0, .ref (am 0)), (1, .int v), (2, .int a), (3, .int (nI i))] → W vp l ve (headSpec wsX9_loss (xrm 1 22)).room s vm ([.ref (am 0), .int v] : List Value).toArray below meth vc H locs 0 0 Q (F0 vm 19 ls []) := by
    intro n
    induction n with
    | zero =>
      intro i a c9 hi hI H locs M ls hl
      refine lv_iload_n S.1 S.2.1 dX9_loss_19 rfl (lv_at hl 3 rfl) ?_
      refine lv_aload_n S.1 S.2.1 dX9_loss_20 rfl (lv_at hl 0 rfl) ?_
      refine gget S hE M (C := RX9) (T := TX9) (N := 28) (ci := 9) (index := 78) hwi 0 rfl rfl 7 (by decide) (by decide +kernel) rfl dX9_loss_21 ?_
      refine lv_icmp_ge (tgt := 50) S.1 S.2.1 dX9_loss_24 (by decide) (fun _ => ?_) (fun c_ => absurd (nI_le (by omega) (by omega)) c_)
      refine lv_iload_n S.1 S.2.1 dX9_loss_50 rfl (lv_at hl 2 rfl) ?_
      rw [← hQ]
      exact giret S hr hlk M (by unfold MdS.loss; rw [if_neg c9, hI, cgm]) (rfl) dX9_loss_51
    | succ n ih =>
      intro i a c9 hi hI H locs M ls hl
      refine lv_iload_n S.1 S.2.1 dX9_loss_19 rfl (lv_at hl 3 rfl) ?_
      refine lv_aload_n S.1 S.2.1 dX9_loss_20 rfl (lv_at hl 0 rfl) ?_
      refine gget S hE M (C := RX9) (T := TX9) (N := 28) (ci := 9) (index := 78) hwi 0 rfl rfl 7 (by decide) (by decide +kernel) rfl dX9_loss_21 ?_
      refine lv_icmp_ge (tgt := 50) S.1 S.2.1 dX9_loss_24 (by decide) (fun c_ => absurd c_ (nI_ge (by omega) (by omega))) (fun _ => ?_)
      refine lv_iload_n S.1 S.2.1 dX9_loss_27 rfl (lv_at hl 2 rfl) ?_
      refine lv_aload_n S.1 S.2.1 dX9_loss_28 rfl (lv_at hl 0 rfl) ?_
      refine lv_iload_n S.1 S.2.1 dX9_loss_29 rfl (lv_at hl 3 rfl) ?_
      refine gcalli (L := []) (Mid := modGs E am z) (Rr := []) (Mid' := modGs E am z) hE M rfl (rfl) (rfl) (fun hgH => va_runV (As := [.int (nI i)]) (rest := [.int a]) S (c_X9_delay l E am z i  (by omega) _) (cwV 1 S.2.2.2.2 gX9_loss_X9_delay rfl rfl rfl kd_X9_delay ⟨Nat.le_of_ble_eq_true rfl, Nat.le_of_ble_eq_true rfl⟩) (hgH.V hE (show vwCl[9]? = some (RX9, TX9, 28) from rfl) rfl) rfl rfl hl.1 rfl (lv_room (Nat.le_of_ble_eq_true rfl)) dX9_loss_30 ⟨Nat.zero_le _, Nat.zero_le _⟩) (fun H locs M => ?_)
      have M : gM E A s.heap [[(am 0, .inr (9, [.ref (am 1), .ref (am 2), .int (nI z.tn), .int z.mn, .int z.mk, .int z.mg, .int z.jp, .int (nI z.ct), .ref (am 3), .ref (am 4), .ref (am 5), .ref (am 6), .int (nI z.sp), .ref (am 7), .ref (am 8), .ref (am 9), .ref (am 10), .int (b2i z.on), .int z.ba, .int z.bg, .ref (am 11), .long z.up, .long z.by_, .int z.co, .int z.po, .int z.gr, .ref (am 12), .int (nI z.wr)]))], [((am 1), .inl (xI E, 25, .inl z.sg))], [((am 2), .inl (xI E, 8, .inl z.tp))], [((am 3), .inl (xI E, 120, .inl z.fr))], [((am 4), .inl (xI E, 120, .inl z.wh))], [((am 5), .inl (xI E, 120, .inl z.sn))], [((am 6), .inl (xI E, 300, .inl z.ca))], [((am 7), .inl (xI E, 120, .inl z.hd))], [((am 8), .inl (xI E, 120, .inl z.ps))], [((am 9), .inl (xI E, 120, .inl z.tm))], [((am 10), .inl (xI E, 120, .inl z.mm))], [((am 11), .inl (xJ E, 120, .inr (.inl z.se)))], [((am 12), .inl (xI E, 400, .inl z.tx))]] H locs := M
      refine lv_iload_n S.1 S.2.1 dX9_loss_33 rfl (lv_at hl 1 rfl) ?_
      refine lv_icmp_le (tgt := 41) S.1 S.2.1 dX9_loss_34 (by decide) (fun c34 => ?_) (fun c34 => ?_)
      ·
        refine lv_iconst (v := 0) S.1 S.2.1 dX9_loss_41 (by decide) ?_
        refine lv_iadd S.1 S.2.1 dX9_loss_42 ?_
        refine lv_istore_n (lv' := [(2, .int (a + 0)), (0, .ref (am 0)), (1, .int v), (3, .int (nI i))]) S.1 S.2.1 dX9_loss_43 rfl hl (by decide) rfl (fun ls hl => ?_)
        refine lv_iinc (v := nI (i + 1)) (lv' := [(3, .int (nI (i + 1))), (2, .int (a + 0)), (0, .ref (am 0)), (1, .int v)]) S.1 S.2.1 dX9_loss_44 hl (k := 3) rfl (nI_1 _) (by decide) rfl (fun ls hl => ?_)
        refine lv_goto (tgt := 19) S.1 S.2.1 dX9_loss_47 (by decide) ?_
        exact ih (i + 1) _ c9 (by omega) (by rw [hI, cgm, if_pos c34]) _ _ M ls (lv_sub hl [2, 3, 1, 0] rfl)
      ·
        refine lv_iconst (v := 1) S.1 S.2.1 dX9_loss_37 (by decide) ?_
        refine lv_goto (tgt := 42) S.1 S.2.1 dX9_loss_38 (by decide) ?_
        refine lv_iadd S.1 S.2.1 dX9_loss_42 ?_
        refine lv_istore_n (lv' := [(2, .int (a + 1)), (0, .ref (am 0)), (1, .int v), (3, .int (nI i))]) S.1 S.2.1 dX9_loss_43 rfl hl (by decide) rfl (fun ls hl => ?_)
        refine lv_iinc (v := nI (i + 1)) (lv' := [(3, .int (nI (i + 1))), (2, .int (a + 1)), (0, .ref (am 0)), (1, .int v)]) S.1 S.2.1 dX9_loss_44 hl (k := 3) rfl (nI_1 _) (by decide) rfl (fun ls hl => ?_)
        refine lv_goto (tgt := 19) S.1 S.2.1 dX9_loss_47 (by decide) ?_
        exact ih (i + 1) _ c9 (by omega) (by rw [hI, cgm, if_neg c34]) _ _ M ls (lv_sub hl [2, 3, 1, 0] rfl)
  refine lv_iload_n S.1 S.2.1 dX9_loss_0 rfl (lv_at hl 1 rfl) ?_
  refine lv_sipush (v := (-10000)) S.1 S.2.1 dX9_loss_1 (by decide) ?_
  refine lv_ldc (v := 40000) S.1 S.2.1 S.2.2.2.1 (S.2.2.2.2 (.constant RX9 172 40000) (by decide +kernel)) dX9_loss_4 ?_
  refine gcalli (L := []) (Mid := []) (Rr := [[(am 0, .inr (9, [.ref (am 1), .ref (am 2), .int (nI z.tn), .int z.mn, .int z.mk, .int z.mg, .int z.jp, .int (nI z.ct), .ref (am 3), .ref (am 4), .ref (am 5), .ref (am 6), .int (nI z.sp), .ref (am 7), .ref (am 8), .ref (am 9), .ref (am 10), .int (b2i z.on), .int z.ba, .int z.bg, .ref (am 11), .long z.up, .long z.by_, .int z.co, .int z.po, .int z.gr, .ref (am 12), .int (nI z.wr)]))], [((am 1), .inl (xI E, 25, .inl z.sg))], [((am 2), .inl (xI E, 8, .inl z.tp))], [((am 3), .inl (xI E, 120, .inl z.fr))], [((am 4), .inl (xI E, 120, .inl z.wh))], [((am 5), .inl (xI E, 120, .inl z.sn))], [((am 6), .inl (xI E, 300, .inl z.ca))], [((am 7), .inl (xI E, 120, .inl z.hd))], [((am 8), .inl (xI E, 120, .inl z.ps))], [((am 9), .inl (xI E, 120, .inl z.tm))], [((am 10), .inl (xI E, 120, .inl z.mm))], [((am 11), .inl (xJ E, 120, .inr (.inl z.se)))], [((am 12), .inl (xI E, 400, .inl z.tx))]]) (Mid' := []) hE M rfl (rfl) (rfl) (fun hgH => va_runS (As := [.int v, .int (-10000), .int 40000]) (rest := []) S (c_X9_within l E v (-10000) 40000 _) (va_cwS 3 S.2.2.2.2 gX9_loss_X9_within rfl rfl rfl kd_X9_within.2 ⟨Nat.le_of_ble_eq_true rfl, Nat.le_of_ble_eq_true rfl⟩) hgH.S rfl rfl hl.1 rfl (lv_room (Nat.le_of_ble_eq_true rfl)) dX9_loss_6 ⟨Nat.zero_le _, Nat.zero_le _⟩) (fun H locs M => ?_)
  have M : gM E A s.heap [[(am 0, .inr (9, [.ref (am 1), .ref (am 2), .int (nI z.tn), .int z.mn, .int z.mk, .int z.mg, .int z.jp, .int (nI z.ct), .ref (am 3), .ref (am 4), .ref (am 5), .ref (am 6), .int (nI z.sp), .ref (am 7), .ref (am 8), .ref (am 9), .ref (am 10), .int (b2i z.on), .int z.ba, .int z.bg, .ref (am 11), .long z.up, .long z.by_, .int z.co, .int z.po, .int z.gr, .ref (am 12), .int (nI z.wr)]))], [((am 1), .inl (xI E, 25, .inl z.sg))], [((am 2), .inl (xI E, 8, .inl z.tp))], [((am 3), .inl (xI E, 120, .inl z.fr))], [((am 4), .inl (xI E, 120, .inl z.wh))], [((am 5), .inl (xI E, 120, .inl z.sn))], [((am 6), .inl (xI E, 300, .inl z.ca))], [((am 7), .inl (xI E, 120, .inl z.hd))], [((am 8), .inl (xI E, 120, .inl z.ps))], [((am 9), .inl (xI E, 120, .inl z.tm))], [((am 10), .inl (xI E, 120, .inl z.mm))], [((am 11), .inl (xJ E, 120, .inr (.inl z.se)))], [((am 12), .inl (xI E, 400, .inl z.tx))]] H locs := M
  refine lv_if_ne (tgt := 15) S.1 S.2.1 dX9_loss_9 (by decide) (fun c9 => ?_) (fun c9 => ?_)
  ·
    refine lv_iconst (v := 0) S.1 S.2.1 dX9_loss_15 (by decide) ?_
    refine lv_istore_n (lv' := [(2, .int 0), (0, .ref (am 0)), (1, .int v)]) S.1 S.2.1 dX9_loss_16 rfl hl (by decide) rfl (fun ls hl => ?_)
    refine lv_iconst (v := 0) S.1 S.2.1 dX9_loss_17 (by decide) ?_
    refine lv_istore_n (lv' := [(3, .int 0), (2, .int 0), (0, .ref (am 0)), (1, .int v)]) S.1 S.2.1 dX9_loss_18 rfl hl (by decide) rfl (fun ls hl => ?_)
    exact hL z.ct 0 0 c9 (by omega) rfl _ _ M ls (lv_sub hl [2, 3, 1, 0] rfl)
  ·
    refine lv_bipush (v := (-2)) S.1 S.2.1 dX9_loss_12 (by decide) ?_
    rw [← hQ]
    exact giret S hr hlk M (by unfold MdS.loss; rw [if_pos c9]) (rfl) dX9_loss_14

set_option maxHeartbeats 4000000 in
set_option maxRecDepth 100000 in
theorem c_X9_history (l : Launch) (E : xE) (am : Nat → Nat) (z : MdS) (k : Int32) (hc : z.ct ≤ 120) : mI l yX9_history wsX9_history (xrm 1 22) E [.ref (am 0), .int k] (modGs E am z) (z.history k) (modGs E am z) := by
  intro sz
  refine Met.ofW (cc := cX9_history) (maxL := 2) (ret := (some .int)) (by decide +kernel) rfl ?_
  intro vp ve s vm args below meth vc s₁ B hml hv
  obtain ⟨rfl, S, hr, hlk, hnm, A, hA, hE, M⟩ := genter B hml hv
  rw [hA]
  obtain ⟨ls, hfr, hl⟩ := gst (m := vm) (as := [.ref (am 0), .int k]) (n := 2) (Nat.le_of_ble_eq_true rfl)
  rw [hfr]
  clear hfr hA
  have hl : lv_has ls 2 [(0, .ref (am 0)), (1, .int k)] := hl
  have M : gM E A s.heap [[(am 0, .inr (9, [.ref (am 1), .ref (am 2), .int (nI z.tn), .int z.mn, .int z.mk, .int z.mg, .int z.jp, .int (nI z.ct), .ref (am 3), .ref (am 4), .ref (am 5), .ref (am 6), .int (nI z.sp), .ref (am 7), .ref (am 8), .ref (am 9), .ref (am 10), .int (b2i z.on), .int z.ba, .int z.bg, .ref (am 11), .long z.up, .long z.by_, .int z.co, .int z.po, .int z.gr, .ref (am 12), .int (nI z.wr)]))], [((am 1), .inl (xI E, 25, .inl z.sg))], [((am 2), .inl (xI E, 8, .inl z.tp))], [((am 3), .inl (xI E, 120, .inl z.fr))], [((am 4), .inl (xI E, 120, .inl z.wh))], [((am 5), .inl (xI E, 120, .inl z.sn))], [((am 6), .inl (xI E, 300, .inl z.ca))], [((am 7), .inl (xI E, 120, .inl z.hd))], [((am 8), .inl (xI E, 120, .inl z.ps))], [((am 9), .inl (xI E, 120, .inl z.tm))], [((am 10), .inl (xI E, 120, .inl z.mm))], [((am 11), .inl (xJ E, 120, .inr (.inl z.se)))], [((am 12), .inl (xI E, 400, .inl z.tx))]] s.heap [] := M
  have hwi : ∀ w ∈ u_ws RX9 TX9 28, w ∈ wsX9_history := by decide +kernel
  refine lv_iload_n S.1 S.2.1 dX9_history_0 rfl (lv_at hl 1 rfl) ?_
  refine lv_iconst (v := 0) S.1 S.2.1 dX9_history_1 (by decide) ?_
  refine lv_bipush (v := 31) S.1 S.2.1 dX9_history_2 (by decide) ?_
  refine gcalli (L := []) (Mid := []) (Rr := [[(am 0, .inr (9, [.ref (am 1), .ref (am 2), .int (nI z.tn), .int z.mn, .int z.mk, .int z.mg, .int z.jp, .int (nI z.ct), .ref (am 3), .ref (am 4), .ref (am 5), .ref (am 6), .int (nI z.sp), .ref (am 7), .ref (am 8), .ref (am 9), .ref (am 10), .int (b2i z.on), .int z.ba, .int z.bg, .ref (am 11), .long z.up, .long z.by_, .int z.co, .int z.po, .int z.gr, .ref (am 12), .int (nI z.wr)]))], [((am 1), .inl (xI E, 25, .inl z.sg))], [((am 2), .inl (xI E, 8, .inl z.tp))], [((am 3), .inl (xI E, 120, .inl z.fr))], [((am 4), .inl (xI E, 120, .inl z.wh))], [((am 5), .inl (xI E, 120, .inl z.sn))], [((am 6), .inl (xI E, 300, .inl z.ca))], [((am 7), .inl (xI E, 120, .inl z.hd))], [((am 8), .inl (xI E, 120, .inl z.ps))], [((am 9), .inl (xI E, 120, .inl z.tm))], [((am 10), .inl (xI E, 120, .inl z.mm))], [((am 11), .inl (xJ E, 120, .inr (.inl z.se)))], [((am 12), .inl (xI E, 400, .inl z.tx))]]) (Mid' := []) hE M rfl (rfl) (rfl) (fun hgH => va_runS (As := [.int k, .int 0, .int 31]) (rest := []) S (c_X9_within l E k 0 31 _) (va_cwS 3 S.2.2.2.2 gX9_history_X9_within rfl rfl rfl kd_X9_within.2 ⟨Nat.le_of_ble_eq_true rfl, Nat.le_of_ble_eq_true rfl⟩) hgH.S rfl rfl hl.1 rfl (lv_room (Nat.le_of_ble_eq_true rfl)) dX9_history_4 ⟨Nat.zero_le _, Nat.zero_le _⟩) (fun H locs M => ?_)
  have M : gM E A s.heap [[(am 0, .inr (9, [.ref (am 1), .ref (am 2), .int (nI z.tn), .int z.mn, .int z.mk, .int z.mg, .int z.jp, .int (nI z.ct), .ref (am 3), .ref (am 4), .ref (am 5), .ref (am 6), .int (nI z.sp), .ref (am 7), .ref (am 8), .ref (am 9), .ref (am 10), .int (b2i z.on), .int z.ba, .int z.bg, .ref (am 11), .long z.up, .long z.by_, .int z.co, .int z.po, .int z.gr, .ref (am 12), .int (nI z.wr)]))], [((am 1), .inl (xI E, 25, .inl z.sg))], [((am 2), .inl (xI E, 8, .inl z.tp))], [((am 3), .inl (xI E, 120, .inl z.fr))], [((am 4), .inl (xI E, 120, .inl z.wh))], [((am 5), .inl (xI E, 120, .inl z.sn))], [((am 6), .inl (xI E, 300, .inl z.ca))], [((am 7), .inl (xI E, 120, .inl z.hd))], [((am 8), .inl (xI E, 120, .inl z.ps))], [((am 9), .inl (xI E, 120, .inl z.tm))], [((am 10), .inl (xI E, 120, .inl z.mm))], [((am 11), .inl (xJ E, 120, .inr (.inl z.se)))], [((am 12), .inl (xI E, 400, .inl z.tx))]] H locs := M
  refine lv_if_ne (tgt := 13) S.1 S.2.1 dX9_history_7 (by decide) (fun c7 => ?_) (fun c7 => ?_)
  ·
    refine lv_iload_n S.1 S.2.1 dX9_history_13 rfl (lv_at hl 1 rfl) ?_
    refine lv_aload_n S.1 S.2.1 dX9_history_14 rfl (lv_at hl 0 rfl) ?_
    refine gget S hE M (C := RX9) (T := TX9) (N := 28) (ci := 9) (index := 78) hwi 0 rfl rfl 7 (by decide) (by decide +kernel) rfl dX9_history_15 ?_
    refine lv_icmp_ge (tgt := 40) S.1 S.2.1 dX9_history_18 (by decide) (fun c18 => ?_) (fun c18 => ?_)
    ·
      refine lv_bipush (v := (-9)) S.1 S.2.1 dX9_history_40 (by decide) ?_
      exact giret S hr hlk M (by unfold MdS.history; rw [if_neg c7, if_pos c18]) (rfl) dX9_history_42
    ·
      obtain ⟨j, hj, ej⟩ := his_at c7 c18 hc
      refine lv_aload_n S.1 S.2.1 dX9_history_21 rfl (lv_at hl 0 rfl) ?_
      refine lv_aload_n S.1 S.2.1 dX9_history_22 rfl (lv_at hl 0 rfl) ?_
      refine gget S hE M (C := RX9) (T := TX9) (N := 28) (ci := 9) (index := 78) hwi 0 rfl rfl 7 (by decide) (by decide +kernel) rfl dX9_history_23 ?_
      refine lv_iconst (v := 1) S.1 S.2.1 dX9_history_26 (by decide) ?_
      refine lv_isub S.1 S.2.1 dX9_history_27 ?_
      refine lv_iload_n S.1 S.2.1 dX9_history_28 rfl (lv_at hl 1 rfl) ?_
      refine lv_isub S.1 S.2.1 dX9_history_29 ?_
      refine gtop (x' := nI j) (ej) ?_
      refine gcalli (L := []) (Mid := modGs E am z) (Rr := []) (Mid' := modGs E am z) hE M rfl (rfl) (rfl) (fun hgH => va_runV (As := [.int (nI j)]) (rest := []) S (c_X9_delay l E am z j  (by omega) _) (cwV 1 S.2.2.2.2 gX9_history_X9_delay rfl rfl rfl kd_X9_delay ⟨Nat.le_of_ble_eq_true rfl, Nat.le_of_ble_eq_true rfl⟩) (hgH.V hE (show vwCl[9]? = some (RX9, TX9, 28) from rfl) rfl) rfl rfl hl.1 rfl (lv_room (Nat.le_of_ble_eq_true rfl)) dX9_history_30 ⟨Nat.zero_le _, Nat.zero_le _⟩) (fun H locs M => ?_)
      have M : gM E A s.heap [[(am 0, .inr (9, [.ref (am 1), .ref (am 2), .int (nI z.tn), .int z.mn, .int z.mk, .int z.mg, .int z.jp, .int (nI z.ct), .ref (am 3), .ref (am 4), .ref (am 5), .ref (am 6), .int (nI z.sp), .ref (am 7), .ref (am 8), .ref (am 9), .ref (am 10), .int (b2i z.on), .int z.ba, .int z.bg, .ref (am 11), .long z.up, .long z.by_, .int z.co, .int z.po, .int z.gr, .ref (am 12), .int (nI z.wr)]))], [((am 1), .inl (xI E, 25, .inl z.sg))], [((am 2), .inl (xI E, 8, .inl z.tp))], [((am 3), .inl (xI E, 120, .inl z.fr))], [((am 4), .inl (xI E, 120, .inl z.wh))], [((am 5), .inl (xI E, 120, .inl z.sn))], [((am 6), .inl (xI E, 300, .inl z.ca))], [((am 7), .inl (xI E, 120, .inl z.hd))], [((am 8), .inl (xI E, 120, .inl z.ps))], [((am 9), .inl (xI E, 120, .inl z.tm))], [((am 10), .inl (xI E, 120, .inl z.mm))], [((am 11), .inl (xJ E, 120, .inr (.inl z.se)))], [((am 12), .inl (xI E, 400, .inl z.tx))]] H locs := M
      refine lv_sipush (v := 10000) S.1 S.2.1 dX9_history_33 (by decide) ?_
      refine lv_iadd S.1 S.2.1 dX9_history_36 ?_
      refine lv_goto (tgt := 42) S.1 S.2.1 dX9_history_37 (by decide) ?_
      exact giret S hr hlk M (by unfold MdS.history; rw [if_neg c7, if_neg c18, ej, nI_clamp (by omega)]) (rfl) dX9_history_42
  ·
    refine lv_bipush (v := (-2)) S.1 S.2.1 dX9_history_10 (by decide) ?_
    exact giret S hr hlk M (by unfold MdS.history; rw [if_pos c7]) (rfl) dX9_history_12

set_option maxHeartbeats 4000000 in
set_option maxRecDepth 100000 in
theorem c_X9_drift (l : Launch) (E : xE) (am : Nat → Nat) (z : MdS) (w : Int32) (hc : z.ct ≤ 120) (hfr : ∀ a, a < z.ct → ∃ m, m < 300 ∧ z.fr a = nI m) : mL l yX9_drift wsX9_drift (xrm 3 79) E [.ref (am 0), .int w] (modGs E am z) ((MdS.drift z w).1) (modGs E am ((MdS.drift z w).2)) := by
  intro sz
  refine Met.ofW (cc := cX9_drift) (maxL := 2) (ret := (some .long)) (by decide +kernel) rfl ?_
  intro vp ve s vm args below meth vc s₁ B hml hv
  obtain ⟨rfl, S, hr, hlk, hnm, A, hA, hE, M⟩ := genter B hml hv
  rw [hA]
  obtain ⟨ls, hfr, hl⟩ := gst (m := vm) (as := [.ref (am 0), .int w]) (n := 2) (Nat.le_of_ble_eq_true rfl)
  rw [hfr]
  clear hfr hA
  have hl : lv_has ls 2 [(0, .ref (am 0)), (1, .int w)] := hl
  have M : gM E A s.heap [[(am 0, .inr (9, [.ref (am 1), .ref (am 2), .int (nI z.tn), .int z.mn, .int z.mk, .int z.mg, .int z.jp, .int (nI z.ct), .ref (am 3), .ref (am 4), .ref (am 5), .ref (am 6), .int (nI z.sp), .ref (am 7), .ref (am 8), .ref (am 9), .ref (am 10), .int (b2i z.on), .int z.ba, .int z.bg, .ref (am 11), .long z.up, .long z.by_, .int z.co, .int z.po, .int z.gr, .ref (am 12), .int (nI z.wr)]))], [((am 1), .inl (xI E, 25, .inl z.sg))], [((am 2), .inl (xI E, 8, .inl z.tp))], [((am 3), .inl (xI E, 120, .inl z.fr))], [((am 4), .inl (xI E, 120, .inl z.wh))], [((am 5), .inl (xI E, 120, .inl z.sn))], [((am 6), .inl (xI E, 300, .inl z.ca))], [((am 7), .inl (xI E, 120, .inl z.hd))], [((am 8), .inl (xI E, 120, .inl z.ps))], [((am 9), .inl (xI E, 120, .inl z.tm))], [((am 10), .inl (xI E, 120, .inl z.mm))], [((am 11), .inl (xJ E, 120, .inr (.inl z.se)))], [((am 12), .inl (xI E, 400, .inl z.tx))]] s.heap [] := M
  have hwi : ∀ w ∈ u_ws RX9 TX9 28, w ∈ wsX9_drift := by decide +kernel
  refine lv_iload_n S.1 S.2.1 dX9_drift_0 rfl (lv_at hl 1 rfl) ?_
  refine lv_iconst (v := 0) S.1 S.2.1 dX9_drift_1 (by decide) ?_
  refine lv_iconst (v := 1) S.1 S.2.1 dX9_drift_2 (by decide) ?_
  refine gcalli (L := []) (Mid := []) (Rr := [[(am 0, .inr (9, [.ref (am 1), .ref (am 2), .int (nI z.tn), .int z.mn, .int z.mk, .int z.mg, .int z.jp, .int (nI z.ct), .ref (am 3), .ref (am 4), .ref (am 5), .ref (am 6), .int (nI z.sp), .ref (am 7), .ref (am 8), .ref (am 9), .ref (am 10), .int (b2i z.on), .int z.ba, .int z.bg, .ref (am 11), .long z.up, .long z.by_, .int z.co, .int z.po, .int z.gr, .ref (am 12), .int (nI z.wr)]))], [((am 1), .inl (xI E, 25, .inl z.sg))], [((am 2), .inl (xI E, 8, .inl z.tp))], [((am 3), .inl (xI E, 120, .inl z.fr))], [((am 4), .inl (xI E, 120, .inl z.wh))], [((am 5), .inl (xI E, 120, .inl z.sn))], [((am 6), .inl (xI E, 300, .inl z.ca))], [((am 7), .inl (xI E, 120, .inl z.hd))], [((am 8), .inl (xI E, 120, .inl z.ps))], [((am 9), .inl (xI E, 120, .inl z.tm))], [((am 10), .inl (xI E, 120, .inl z.mm))], [((am 11), .inl (xJ E, 120, .inr (.inl z.se)))], [((am 12), .inl (xI E, 400, .inl z.tx))]]) (Mid' := []) hE M rfl (rfl) (rfl) (fun hgH => va_runS (As := [.int w, .int 0, .int 1]) (rest := []) S (c_X9_within l E w 0 1 _) (va_cwS 3 S.2.2.2.2 gX9_drift_X9_within rfl rfl rfl kd_X9_within.2 ⟨Nat.le_of_ble_eq_true rfl, Nat.le_of_ble_eq_true rfl⟩) hgH.S rfl rfl hl.1 rfl (lv_room (Nat.le_of_ble_eq_true rfl)) dX9_drift_3 ⟨Nat.zero_le _, Nat.zero_le _⟩) (fun H locs M => ?_)
  have M : gM E A s.heap [[(am 0, .inr (9, [.ref (am 1), .ref (am 2), .int (nI z.tn), .int z.mn, .int z.mk, .int z.mg, .int z.jp, .int (nI z.ct), .ref (am 3), .ref (am 4), .ref (am 5), .ref (am 6), .int (nI z.sp), .ref (am 7), .ref (am 8), .ref (am 9), .ref (am 10), .int (b2i z.on), .int z.ba, .int z.bg, .ref (am 11), .long z.up, .long z.by_, .int z.co, .int z.po, .int z.gr, .ref (am 12), .int (nI z.wr)]))], [((am 1), .inl (xI E, 25, .inl z.sg))], [((am 2), .inl (xI E, 8, .inl z.tp))], [((am 3), .inl (xI E, 120, .inl z.fr))], [((am 4), .inl (xI E, 120, .inl z.wh))], [((am 5), .inl (xI E, 120, .inl z.sn))], [((am 6), .inl (xI E, 300, .inl z.ca))], [((am 7), .inl (xI E, 120, .inl z.hd))], [((am 8), .inl (xI E, 120, .inl z.ps))], [((am 9), .inl (xI E, 120, .inl z.tm))], [((am 10), .inl (xI E, 120, .inl z.mm))], [((am 11), .inl (xJ E, 120, .inr (.inl z.se)))], [((am 12), .inl (xI E, 400, .inl z.tx))]] H locs := M
  refine lv_if_ne (tgt := 13) S.1 S.2.1 dX9_drift_6 (by decide) (fun c6 => ?_) (fun c6 => ?_)
  ·
    refine lv_aload_n S.1 S.2.1 dX9_drift_13 rfl (lv_at hl 0 rfl) ?_
    refine gcallv (L := []) (Mid := modGs E am z) (Rr := []) (Mid' := modGs E am z.fdr) hE M rfl (rfl) (rfl) (fun hgH => va_runV (As := []) (rest := []) S (c_X9_findDrift l E am z   hc hfr _) (cwV 0 S.2.2.2.2 gX9_drift_X9_findDrift rfl rfl rfl kd_X9_findDrift ⟨Nat.le_of_ble_eq_true rfl, Nat.le_of_ble_eq_true rfl⟩) (hgH.V hE (show vwCl[9]? = some (RX9, TX9, 28) from rfl) rfl) rfl rfl hl.1 rfl (lv_room (Nat.le_of_ble_eq_true rfl)) dX9_drift_14 ⟨Nat.zero_le _, Nat.zero_le _⟩) (fun H locs M => ?_)
    have M : gM E A s.heap [[(am 0, .inr (9, [.ref (am 1), .ref (am 2), .int (nI z.fdr.tn), .int z.fdr.mn, .int z.fdr.mk, .int z.fdr.mg, .int z.fdr.jp, .int (nI z.fdr.ct), .ref (am 3), .ref (am 4), .ref (am 5), .ref (am 6), .int (nI z.fdr.sp), .ref (am 7), .ref (am 8), .ref (am 9), .ref (am 10), .int (b2i z.fdr.on), .int z.fdr.ba, .int z.fdr.bg, .ref (am 11), .long z.fdr.up, .long z.fdr.by_, .int z.fdr.co, .int z.fdr.po, .int z.fdr.gr, .ref (am 12), .int (nI z.fdr.wr)]))], [((am 1), .inl (xI E, 25, .inl z.fdr.sg))], [((am 2), .inl (xI E, 8, .inl z.fdr.tp))], [((am 3), .inl (xI E, 120, .inl z.fdr.fr))], [((am 4), .inl (xI E, 120, .inl z.fdr.wh))], [((am 5), .inl (xI E, 120, .inl z.fdr.sn))], [((am 6), .inl (xI E, 300, .inl z.fdr.ca))], [((am 7), .inl (xI E, 120, .inl z.fdr.hd))], [((am 8), .inl (xI E, 120, .inl z.fdr.ps))], [((am 9), .inl (xI E, 120, .inl z.fdr.tm))], [((am 10), .inl (xI E, 120, .inl z.fdr.mm))], [((am 11), .inl (xJ E, 120, .inr (.inl z.fdr.se)))], [((am 12), .inl (xI E, 400, .inl z.fdr.tx))]] H locs := M
    refine lv_iload_n S.1 S.2.1 dX9_drift_17 rfl (lv_at hl 1 rfl) ?_
    refine lv_if_ne (tgt := 28) S.1 S.2.1 dX9_drift_18 (by decide) (fun c18 => ?_) (fun c18 => ?_)
    ·
      refine lv_aload_n S.1 S.2.1 dX9_drift_28 rfl (lv_at hl 0 rfl) ?_
      refine gget S hE M (C := RX9) (T := TX9) (N := 28) (ci := 9) (index := 126) hwi 0 rfl rfl 22 (by decide) (by decide +kernel) rfl dX9_drift_29 ?_
      have he : MdS.drift z w = (z.fdr.by_, z.fdr) := by unfold MdS.drift; rw [if_neg c6, if_neg c18] <;> rfl
      exact glret S hr hlk M (by rw [he]) (by rw [he]; rfl) dX9_drift_32
    ·
      refine lv_aload_n S.1 S.2.1 dX9_drift_21 rfl (lv_at hl 0 rfl) ?_
      refine gget S hE M (C := RX9) (T := TX9) (N := 28) (ci := 9) (index := 122) hwi 0 rfl rfl 21 (by decide) (by decide +kernel) rfl dX9_drift_22 ?_
      refine lv_goto (tgt := 32) S.1 S.2.1 dX9_drift_25 (by decide) ?_
      have he : MdS.drift z w = (z.fdr.up, z.fdr) := by unfold MdS.drift; rw [if_neg c6, if_pos c18] <;> rfl
      exact glret S hr hlk M (by rw [he]) (by rw [he]; rfl) dX9_drift_32
  ·
    refine lv_ldc2 (v := (-9223372036854775808)) S.1 S.2.1 S.2.2.2.1 (S.2.2.2.2 (.constantLong RX9 177 (-9223372036854775808)) (by decide +kernel)) dX9_drift_9 ?_
    have he : MdS.drift z w = ((-9223372036854775808), z) := by unfold MdS.drift; rw [if_pos c6] <;> rfl
    exact glret S hr hlk M (by rw [he]) (by rw [he]; rfl) dX9_drift_12

set_option maxHeartbeats 4000000 in
set_option maxRecDepth 100000 in
theorem c_X9_waiting (l : Launch) (E : xE) (am : Nat → Nat) (z : MdS) (t : Int32) (hc : z.ct ≤ 120) (hsn : ∀ a, a < z.ct → vp_in (z.sn a) 120) : mI l yX9_waiting wsX9_waiting (xrm 2 42) E [.ref (am 0), .int t] (modGs E am z) (z.waiting t) (modGs E am z) := by
  intro sz
  refine Met.ofW (cc := cX9_waiting) (maxL := 4) (ret := (some .int)) (by decide +kernel) rfl ?_
  intro vp ve s vm args below meth vc s₁ B hml hv
  obtain ⟨rfl, S, hr, hlk, hnm, A, hA, hE, M⟩ := genter B hml hv
  rw [hA]
  obtain ⟨ls, hfr, hl⟩ := gst (m := vm) (as := [.ref (am 0), .int t]) (n := 4) (Nat.le_of_ble_eq_true rfl)
  rw [hfr]
  clear hfr hA
  have hl : lv_has ls 4 [(0, .ref (am 0)), (1, .int t)] := hl
  have M : gM E A s.heap [[(am 0, .inr (9, [.ref (am 1), .ref (am 2), .int (nI z.tn), .int z.mn, .int z.mk, .int z.mg, .int z.jp, .int (nI z.ct), .ref (am 3), .ref (am 4), .ref (am 5), .ref (am 6), .int (nI z.sp), .ref (am 7), .ref (am 8), .ref (am 9), .ref (am 10), .int (b2i z.on), .int z.ba, .int z.bg, .ref (am 11), .long z.up, .long z.by_, .int z.co, .int z.po, .int z.gr, .ref (am 12), .int (nI z.wr)]))], [((am 1), .inl (xI E, 25, .inl z.sg))], [((am 2), .inl (xI E, 8, .inl z.tp))], [((am 3), .inl (xI E, 120, .inl z.fr))], [((am 4), .inl (xI E, 120, .inl z.wh))], [((am 5), .inl (xI E, 120, .inl z.sn))], [((am 6), .inl (xI E, 300, .inl z.ca))], [((am 7), .inl (xI E, 120, .inl z.hd))], [((am 8), .inl (xI E, 120, .inl z.ps))], [((am 9), .inl (xI E, 120, .inl z.tm))], [((am 10), .inl (xI E, 120, .inl z.mm))], [((am 11), .inl (xJ E, 120, .inr (.inl z.se)))], [((am 12), .inl (xI E, 400, .inl z.tx))]] s.heap [] := M
  have hwi : ∀ w ∈ u_ws RX9 TX9 28, w ∈ wsX9_waiting := by decide +kernel
  obtain ⟨Q, hQ⟩ : ∃ Q : State → Prop, MQ below (va_Qi (fun x (_ : Unit) => x = (z.waiting t)) (fun _ => kQ E A (modGs E am z)) A) ([.ref (am 0), .int t] : List Value).toArray s 0 0 A = Q := ⟨_, rfl⟩
  rw [hQ]
  have hL : ∀ (n : Nat), ∀ (i : Nat) (a : Int32), ¬ win t 0 100000 = 0 → i + n = z.ct → wai z t z.ct 0 0 = wai z t n i a → ∀ (H : Heap) (locs : List Loc), gM E A s.heap [[(am 0, .inr (9, [.ref (am 1), .ref (am 2), .int (nI z.tn), .int z.mn, .int z.mk, .int z.mg, .int z.jp, .int (nI z.ct), .ref (am 3), .ref (am 4), .ref (am 5), .ref (am 6), .int (nI z.sp), .ref (am 7), .ref (am 8), .ref (am 9), .ref (am 10), .int (b2i z.on), .int z.ba, .int z.bg, .ref (am 11), .long z.up, .long z.by_, .int z.co, .int z.po, .int z.gr, .ref (am 12), .int (nI z.wr)]))], [((am 1), .inl (xI E, 25, .inl z.sg))], [((am 2), .inl (xI E, 8, .inl z.tp))], [((am 3), .inl (xI E, 120, .inl z.fr))], [((am 4), .inl (xI E, 120, .inl z.wh))], [((am 5), .inl (xI E, 120, .inl z.sn))], [((am 6), .inl (xI E, 300, .inl z.ca))], [((am 7), .inl (xI E, 120, .inl z.hd))], [((am 8), .inl (xI E, 120, .inl z.ps))], [((am 9), .inl (xI E, 120, .inl z.tm))], [((am 10), .inl (xI E, 120, .inl z.mm))], [((am 11), .inl (xJ E, 120, .inr (.inl z.se)))], [((am 12), .inl (xI E, 400, .inl z.tx))]] H locs → ∀ ls : Array Slot, lv_has ls 4 [(0, .ref (am 0)), (1, .int t), (2, .int a), (3, .int (nI i))] → W vp l ve (headSpec wsX9_waiting (xrm 2 42)).room s vm ([.ref (am 0), .int t] : List Value).toArray below meth vc H locs 0 0 Q (F0 vm 17 ls []) := by
    intro n
    induction n with
    | zero =>
      intro i a c7 hi hI H locs M ls hl
      refine lv_iload_n S.1 S.2.1 dX9_waiting_17 rfl (lv_at hl 3 rfl) ?_
      refine lv_aload_n S.1 S.2.1 dX9_waiting_18 rfl (lv_at hl 0 rfl) ?_
      refine gget S hE M (C := RX9) (T := TX9) (N := 28) (ci := 9) (index := 78) hwi 0 rfl rfl 7 (by decide) (by decide +kernel) rfl dX9_waiting_19 ?_
      refine lv_icmp_ge (tgt := 66) S.1 S.2.1 dX9_waiting_22 (by decide) (fun _ => ?_) (fun c_ => absurd (nI_le (by omega) (by omega)) c_)
      refine lv_iload_n S.1 S.2.1 dX9_waiting_66 rfl (lv_at hl 2 rfl) ?_
      rw [← hQ]
      exact giret S hr hlk M (by unfold MdS.waiting; rw [if_neg c7, hI, wai]) (rfl) dX9_waiting_67
    | succ n ih =>
      intro i a c7 hi hI H locs M ls hl
      refine lv_iload_n S.1 S.2.1 dX9_waiting_17 rfl (lv_at hl 3 rfl) ?_
      refine lv_aload_n S.1 S.2.1 dX9_waiting_18 rfl (lv_at hl 0 rfl) ?_
      refine gget S hE M (C := RX9) (T := TX9) (N := 28) (ci := 9) (index := 78) hwi 0 rfl rfl 7 (by decide) (by decide +kernel) rfl dX9_waiting_19 ?_
      refine lv_icmp_ge (tgt := 66) S.1 S.2.1 dX9_waiting_22 (by decide) (fun c_ => absurd c_ (nI_ge (by omega) (by omega))) (fun _ => ?_)
      refine lv_iload_n S.1 S.2.1 dX9_waiting_25 rfl (lv_at hl 2 rfl) ?_
      refine lv_aload_n S.1 S.2.1 dX9_waiting_26 rfl (lv_at hl 0 rfl) ?_
      refine gget S hE M (C := RX9) (T := TX9) (N := 28) (ci := 9) (index := 26) hwi 0 rfl rfl 9 (by decide) (by decide +kernel) rfl dX9_waiting_27 ?_
      refine lv_iload_n S.1 S.2.1 dX9_waiting_30 rfl (lv_at hl 3 rfl) ?_
      refine giald S hE M 4 rfl (vp_in_nI (by omega) (by omega)) dX9_waiting_31 ?_
      refine gtop (x' := z.wh i) (by rw [nI_clamp (by omega)]) ?_
      refine lv_iload_n S.1 S.2.1 dX9_waiting_32 rfl (lv_at hl 1 rfl) ?_
      refine lv_icmp_gt (tgt := 57) S.1 S.2.1 dX9_waiting_33 (by decide) (fun c33 => ?_) (fun c33 => ?_)
      ·
        refine lv_iconst (v := 0) S.1 S.2.1 dX9_waiting_57 (by decide) ?_
        refine lv_iadd S.1 S.2.1 dX9_waiting_58 ?_
        refine lv_istore_n (lv' := [(2, .int (a + 0)), (0, .ref (am 0)), (1, .int t), (3, .int (nI i))]) S.1 S.2.1 dX9_waiting_59 rfl hl (by decide) rfl (fun ls hl => ?_)
        refine lv_iinc (v := nI (i + 1)) (lv' := [(3, .int (nI (i + 1))), (2, .int (a + 0)), (0, .ref (am 0)), (1, .int t)]) S.1 S.2.1 dX9_waiting_60 hl (k := 3) rfl (nI_1 _) (by decide) rfl (fun ls hl => ?_)
        refine lv_goto (tgt := 17) S.1 S.2.1 dX9_waiting_63 (by decide) ?_
        exact ih (i + 1) _ c7 (by omega) (by rw [hI, wai, if_pos c33]) _ _ M ls (lv_sub hl [2, 3, 1, 0] rfl)
      ·
        refine lv_aload_n S.1 S.2.1 dX9_waiting_36 rfl (lv_at hl 0 rfl) ?_
        refine lv_iload_n S.1 S.2.1 dX9_waiting_37 rfl (lv_at hl 3 rfl) ?_
        refine gcalli (L := []) (Mid := modGs E am z) (Rr := []) (Mid' := modGs E am z) hE M rfl (rfl) (rfl) (fun hgH => va_runV (As := [.int (nI i)]) (rest := [.int a]) S (c_X9_isPlayed l E am z i  (by omega) (hsn i (by omega)) _) (cwV 1 S.2.2.2.2 gX9_waiting_X9_isPlayed rfl rfl rfl kd_X9_isPlayed ⟨Nat.le_of_ble_eq_true rfl, Nat.le_of_ble_eq_true rfl⟩) (hgH.V hE (show vwCl[9]? = some (RX9, TX9, 28) from rfl) rfl) rfl rfl hl.1 rfl (lv_room (Nat.le_of_ble_eq_true rfl)) dX9_waiting_38 ⟨Nat.zero_le _, Nat.zero_le _⟩) (fun H locs M => ?_)
        have M : gM E A s.heap [[(am 0, .inr (9, [.ref (am 1), .ref (am 2), .int (nI z.tn), .int z.mn, .int z.mk, .int z.mg, .int z.jp, .int (nI z.ct), .ref (am 3), .ref (am 4), .ref (am 5), .ref (am 6), .int (nI z.sp), .ref (am 7), .ref (am 8), .ref (am 9), .ref (am 10), .int (b2i z.on), .int z.ba, .int z.bg, .ref (am 11), .long z.up, .long z.by_, .int z.co, .int z.po, .int z.gr, .ref (am 12), .int (nI z.wr)]))], [((am 1), .inl (xI E, 25, .inl z.sg))], [((am 2), .inl (xI E, 8, .inl z.tp))], [((am 3), .inl (xI E, 120, .inl z.fr))], [((am 4), .inl (xI E, 120, .inl z.wh))], [((am 5), .inl (xI E, 120, .inl z.sn))], [((am 6), .inl (xI E, 300, .inl z.ca))], [((am 7), .inl (xI E, 120, .inl z.hd))], [((am 8), .inl (xI E, 120, .inl z.ps))], [((am 9), .inl (xI E, 120, .inl z.tm))], [((am 10), .inl (xI E, 120, .inl z.mm))], [((am 11), .inl (xJ E, 120, .inr (.inl z.se)))], [((am 12), .inl (xI E, 400, .inl z.tx))]] H locs := M
        refine lv_if_eq (tgt := 57) S.1 S.2.1 dX9_waiting_41 (by decide) (fun c41 => ?_) (fun c41 => ?_)
        ·
          refine lv_iconst (v := 0) S.1 S.2.1 dX9_waiting_57 (by decide) ?_
          refine lv_iadd S.1 S.2.1 dX9_waiting_58 ?_
          refine lv_istore_n (lv' := [(2, .int (a + 0)), (0, .ref (am 0)), (1, .int t), (3, .int (nI i))]) S.1 S.2.1 dX9_waiting_59 rfl hl (by decide) rfl (fun ls hl => ?_)
          refine lv_iinc (v := nI (i + 1)) (lv' := [(3, .int (nI (i + 1))), (2, .int (a + 0)), (0, .ref (am 0)), (1, .int t)]) S.1 S.2.1 dX9_waiting_60 hl (k := 3) rfl (nI_1 _) (by decide) rfl (fun ls hl => ?_)
          refine lv_goto (tgt := 17) S.1 S.2.1 dX9_waiting_63 (by decide) ?_
          exact ih (i + 1) _ c7 (by omega) (by rw [hI, wai, if_neg c33, if_pos c41]) _ _ M ls (lv_sub hl [2, 3, 1, 0] rfl)
        ·
          refine lv_aload_n S.1 S.2.1 dX9_waiting_44 rfl (lv_at hl 0 rfl) ?_
          refine lv_iload_n S.1 S.2.1 dX9_waiting_45 rfl (lv_at hl 3 rfl) ?_
          refine gcalli (L := []) (Mid := modGs E am z) (Rr := []) (Mid' := modGs E am z) hE M rfl (rfl) (rfl) (fun hgH => va_runV (As := [.int (nI i)]) (rest := [.int a]) S (c_X9_playedAt l E am z i  (by omega) (hsn i (by omega)) _) (cwV 1 S.2.2.2.2 gX9_waiting_X9_playedAt rfl rfl rfl kd_X9_playedAt ⟨Nat.le_of_ble_eq_true rfl, Nat.le_of_ble_eq_true rfl⟩) (hgH.V hE (show vwCl[9]? = some (RX9, TX9, 28) from rfl) rfl) rfl rfl hl.1 rfl (lv_room (Nat.le_of_ble_eq_true rfl)) dX9_waiting_46 ⟨Nat.zero_le _, Nat.zero_le _⟩) (fun H locs M => ?_)
          have M : gM E A s.heap [[(am 0, .inr (9, [.ref (am 1), .ref (am 2), .int (nI z.tn), .int z.mn, .int z.mk, .int z.mg, .int z.jp, .int (nI z.ct), .ref (am 3), .ref (am 4), .ref (am 5), .ref (am 6), .int (nI z.sp), .ref (am 7), .ref (am 8), .ref (am 9), .ref (am 10), .int (b2i z.on), .int z.ba, .int z.bg, .ref (am 11), .long z.up, .long z.by_, .int z.co, .int z.po, .int z.gr, .ref (am 12), .int (nI z.wr)]))], [((am 1), .inl (xI E, 25, .inl z.sg))], [((am 2), .inl (xI E, 8, .inl z.tp))], [((am 3), .inl (xI E, 120, .inl z.fr))], [((am 4), .inl (xI E, 120, .inl z.wh))], [((am 5), .inl (xI E, 120, .inl z.sn))], [((am 6), .inl (xI E, 300, .inl z.ca))], [((am 7), .inl (xI E, 120, .inl z.hd))], [((am 8), .inl (xI E, 120, .inl z.ps))], [((am 9), .inl (xI E, 120, .inl z.tm))], [((am 10), .inl (xI E, 120, .inl z.mm))], [((am 11), .inl (xJ E, 120, .inr (.inl z.se)))], [((am 12), .inl (xI E, 400, .inl z.tx))]] H locs := M
          refine lv_iload_n S.1 S.2.1 dX9_waiting_49 rfl (lv_at hl 1 rfl) ?_
          refine lv_icmp_le (tgt := 57) S.1 S.2.1 dX9_waiting_50 (by decide) (fun c50 => ?_) (fun c50 => ?_)
          ·
            refine lv_iconst (v := 0) S.1 S.2.1 dX9_waiting_57 (by decide) ?_
            refine lv_iadd S.1 S.2.1 dX9_waiting_58 ?_
            refine lv_istore_n (lv' := [(2, .int (a + 0)), (0, .ref (am 0)), (1, .int t), (3, .int (nI i))]) S.1 S.2.1 dX9_waiting_59 rfl hl (by decide) rfl (fun ls hl => ?_)
            refine lv_iinc (v := nI (i + 1)) (lv' := [(3, .int (nI (i + 1))), (2, .int (a + 0)), (0, .ref (am 0)), (1, .int t)]) S.1 S.2.1 dX9_waiting_60 hl (k := 3) rfl (nI_1 _) (by decide) rfl (fun ls hl => ?_)
            refine lv_goto (tgt := 17) S.1 S.2.1 dX9_waiting_63 (by decide) ?_
            exact ih (i + 1) _ c7 (by omega) (by rw [hI, wai, if_neg c33, if_neg c41, if_pos c50]) _ _ M ls (lv_sub hl [2, 3, 1, 0] rfl)
          ·
            refine lv_iconst (v := 1) S.1 S.2.1 dX9_waiting_53 (by decide) ?_
            refine lv_goto (tgt := 58) S.1 S.2.1 dX9_waiting_54 (by decide) ?_
            refine lv_iadd S.1 S.2.1 dX9_waiting_58 ?_
            refine lv_istore_n (lv' := [(2, .int (a + 1)), (0, .ref (am 0)), (1, .int t), (3, .int (nI i))]) S.1 S.2.1 dX9_waiting_59 rfl hl (by decide) rfl (fun ls hl => ?_)
            refine lv_iinc (v := nI (i + 1)) (lv' := [(3, .int (nI (i + 1))), (2, .int (a + 1)), (0, .ref (am 0)), (1, .int t)]) S.1 S.2.1 dX9_waiting_60 hl (k := 3) rfl (nI_1 _) (by decide) rfl (fun ls hl => ?_)
            refine lv_goto (tgt := 17) S.1 S.2.1 dX9_waiting_63 (by decide) ?_
            exact ih (i + 1) _ c7 (by omega) (by rw [hI, wai, if_neg c33, if_neg c41, if_neg c50]) _ _ M ls (lv_sub hl [2, 3, 1, 0] rfl)
  refine lv_iload_n S.1 S.2.1 dX9_waiting_0 rfl (lv_at hl 1 rfl) ?_
  refine lv_iconst (v := 0) S.1 S.2.1 dX9_waiting_1 (by decide) ?_
  refine lv_ldc (v := 100000) S.1 S.2.1 S.2.2.2.1 (S.2.2.2.2 (.constant RX9 179 100000) (by decide +kernel)) dX9_waiting_2 ?_
  refine gcalli (L := []) (Mid := []) (Rr := [[(am 0, .inr (9, [.ref (am 1), .ref (am 2), .int (nI z.tn), .int z.mn, .int z.mk, .int z.mg, .int z.jp, .int (nI z.ct), .ref (am 3), .ref (am 4), .ref (am 5), .ref (am 6), .int (nI z.sp), .ref (am 7), .ref (am 8), .ref (am 9), .ref (am 10), .int (b2i z.on), .int z.ba, .int z.bg, .ref (am 11), .long z.up, .long z.by_, .int z.co, .int z.po, .int z.gr, .ref (am 12), .int (nI z.wr)]))], [((am 1), .inl (xI E, 25, .inl z.sg))], [((am 2), .inl (xI E, 8, .inl z.tp))], [((am 3), .inl (xI E, 120, .inl z.fr))], [((am 4), .inl (xI E, 120, .inl z.wh))], [((am 5), .inl (xI E, 120, .inl z.sn))], [((am 6), .inl (xI E, 300, .inl z.ca))], [((am 7), .inl (xI E, 120, .inl z.hd))], [((am 8), .inl (xI E, 120, .inl z.ps))], [((am 9), .inl (xI E, 120, .inl z.tm))], [((am 10), .inl (xI E, 120, .inl z.mm))], [((am 11), .inl (xJ E, 120, .inr (.inl z.se)))], [((am 12), .inl (xI E, 400, .inl z.tx))]]) (Mid' := []) hE M rfl (rfl) (rfl) (fun hgH => va_runS (As := [.int t, .int 0, .int 100000]) (rest := []) S (c_X9_within l E t 0 100000 _) (va_cwS 3 S.2.2.2.2 gX9_waiting_X9_within rfl rfl rfl kd_X9_within.2 ⟨Nat.le_of_ble_eq_true rfl, Nat.le_of_ble_eq_true rfl⟩) hgH.S rfl rfl hl.1 rfl (lv_room (Nat.le_of_ble_eq_true rfl)) dX9_waiting_4 ⟨Nat.zero_le _, Nat.zero_le _⟩) (fun H locs M => ?_)
  have M : gM E A s.heap [[(am 0, .inr (9, [.ref (am 1), .ref (am 2), .int (nI z.tn), .int z.mn, .int z.mk, .int z.mg, .int z.jp, .int (nI z.ct), .ref (am 3), .ref (am 4), .ref (am 5), .ref (am 6), .int (nI z.sp), .ref (am 7), .ref (am 8), .ref (am 9), .ref (am 10), .int (b2i z.on), .int z.ba, .int z.bg, .ref (am 11), .long z.up, .long z.by_, .int z.co, .int z.po, .int z.gr, .ref (am 12), .int (nI z.wr)]))], [((am 1), .inl (xI E, 25, .inl z.sg))], [((am 2), .inl (xI E, 8, .inl z.tp))], [((am 3), .inl (xI E, 120, .inl z.fr))], [((am 4), .inl (xI E, 120, .inl z.wh))], [((am 5), .inl (xI E, 120, .inl z.sn))], [((am 6), .inl (xI E, 300, .inl z.ca))], [((am 7), .inl (xI E, 120, .inl z.hd))], [((am 8), .inl (xI E, 120, .inl z.ps))], [((am 9), .inl (xI E, 120, .inl z.tm))], [((am 10), .inl (xI E, 120, .inl z.mm))], [((am 11), .inl (xJ E, 120, .inr (.inl z.se)))], [((am 12), .inl (xI E, 400, .inl z.tx))]] H locs := M
  refine lv_if_ne (tgt := 13) S.1 S.2.1 dX9_waiting_7 (by decide) (fun c7 => ?_) (fun c7 => ?_)
  ·
    refine lv_iconst (v := 0) S.1 S.2.1 dX9_waiting_13 (by decide) ?_
    refine lv_istore_n (lv' := [(2, .int 0), (0, .ref (am 0)), (1, .int t)]) S.1 S.2.1 dX9_waiting_14 rfl hl (by decide) rfl (fun ls hl => ?_)
    refine lv_iconst (v := 0) S.1 S.2.1 dX9_waiting_15 (by decide) ?_
    refine lv_istore_n (lv' := [(3, .int 0), (2, .int 0), (0, .ref (am 0)), (1, .int t)]) S.1 S.2.1 dX9_waiting_16 rfl hl (by decide) rfl (fun ls hl => ?_)
    exact hL z.ct 0 0 c7 (by omega) rfl _ _ M ls (lv_sub hl [2, 3, 1, 0] rfl)
  ·
    refine lv_bipush (v := (-2)) S.1 S.2.1 dX9_waiting_10 (by decide) ?_
    rw [← hQ]
    exact giret S hr hlk M (by unfold MdS.waiting; rw [if_pos c7]) (rfl) dX9_waiting_12

set_option maxHeartbeats 4000000 in
set_option maxRecDepth 100000 in
theorem c_X9_playing (l : Launch) (E : xE) (am : Nat → Nat) (z : MdS) (t : Int32) (hc : z.ct ≤ 120) (hsn : ∀ a, a < z.ct → vp_in (z.sn a) 120) : mI l yX9_playing wsX9_playing (xrm 2 42) E [.ref (am 0), .int t] (modGs E am z) (z.playing t) (modGs E am z) := by
  intro sz
  refine Met.ofW (cc := cX9_playing) (maxL := 3) (ret := (some .int)) (by decide +kernel) rfl ?_
  intro vp ve s vm args below meth vc s₁ B hml hv
  obtain ⟨rfl, S, hr, hlk, hnm, A, hA, hE, M⟩ := genter B hml hv
  rw [hA]
  obtain ⟨ls, hfr, hl⟩ := gst (m := vm) (as := [.ref (am 0), .int t]) (n := 3) (Nat.le_of_ble_eq_true rfl)
  rw [hfr]
  clear hfr hA
  have hl : lv_has ls 3 [(0, .ref (am 0)), (1, .int t)] := hl
  have M : gM E A s.heap [[(am 0, .inr (9, [.ref (am 1), .ref (am 2), .int (nI z.tn), .int z.mn, .int z.mk, .int z.mg, .int z.jp, .int (nI z.ct), .ref (am 3), .ref (am 4), .ref (am 5), .ref (am 6), .int (nI z.sp), .ref (am 7), .ref (am 8), .ref (am 9), .ref (am 10), .int (b2i z.on), .int z.ba, .int z.bg, .ref (am 11), .long z.up, .long z.by_, .int z.co, .int z.po, .int z.gr, .ref (am 12), .int (nI z.wr)]))], [((am 1), .inl (xI E, 25, .inl z.sg))], [((am 2), .inl (xI E, 8, .inl z.tp))], [((am 3), .inl (xI E, 120, .inl z.fr))], [((am 4), .inl (xI E, 120, .inl z.wh))], [((am 5), .inl (xI E, 120, .inl z.sn))], [((am 6), .inl (xI E, 300, .inl z.ca))], [((am 7), .inl (xI E, 120, .inl z.hd))], [((am 8), .inl (xI E, 120, .inl z.ps))], [((am 9), .inl (xI E, 120, .inl z.tm))], [((am 10), .inl (xI E, 120, .inl z.mm))], [((am 11), .inl (xJ E, 120, .inr (.inl z.se)))], [((am 12), .inl (xI E, 400, .inl z.tx))]] s.heap [] := M
  have hwi : ∀ w ∈ u_ws RX9 TX9 28, w ∈ wsX9_playing := by decide +kernel
  obtain ⟨Q, hQ⟩ : ∃ Q : State → Prop, MQ below (va_Qi (fun x (_ : Unit) => x = (z.playing t)) (fun _ => kQ E A (modGs E am z)) A) ([.ref (am 0), .int t] : List Value).toArray s 0 0 A = Q := ⟨_, rfl⟩
  rw [hQ]
  have hL : ∀ (n : Nat), ∀ (i : Nat), ¬ win t 0 100000 = 0 → i + n = z.ct → pla z t z.ct 0 = pla z t n i → ∀ (H : Heap) (locs : List Loc), gM E A s.heap [[(am 0, .inr (9, [.ref (am 1), .ref (am 2), .int (nI z.tn), .int z.mn, .int z.mk, .int z.mg, .int z.jp, .int (nI z.ct), .ref (am 3), .ref (am 4), .ref (am 5), .ref (am 6), .int (nI z.sp), .ref (am 7), .ref (am 8), .ref (am 9), .ref (am 10), .int (b2i z.on), .int z.ba, .int z.bg, .ref (am 11), .long z.up, .long z.by_, .int z.co, .int z.po, .int z.gr, .ref (am 12), .int (nI z.wr)]))], [((am 1), .inl (xI E, 25, .inl z.sg))], [((am 2), .inl (xI E, 8, .inl z.tp))], [((am 3), .inl (xI E, 120, .inl z.fr))], [((am 4), .inl (xI E, 120, .inl z.wh))], [((am 5), .inl (xI E, 120, .inl z.sn))], [((am 6), .inl (xI E, 300, .inl z.ca))], [((am 7), .inl (xI E, 120, .inl z.hd))], [((am 8), .inl (xI E, 120, .inl z.ps))], [((am 9), .inl (xI E, 120, .inl z.tm))], [((am 10), .inl (xI E, 120, .inl z.mm))], [((am 11), .inl (xJ E, 120, .inr (.inl z.se)))], [((am 12), .inl (xI E, 400, .inl z.tx))]] H locs → ∀ ls : Array Slot, lv_has ls 3 [(0, .ref (am 0)), (1, .int t), (2, .int (nI i))] → W vp l ve (headSpec wsX9_playing (xrm 2 42)).room s vm ([.ref (am 0), .int t] : List Value).toArray below meth vc H locs 0 0 Q (F0 vm 15 ls []) := by
    intro n
    induction n with
    | zero =>
      intro i c7 hi hI H locs M ls hl
      refine lv_iload_n S.1 S.2.1 dX9_playing_15 rfl (lv_at hl 2 rfl) ?_
      refine lv_aload_n S.1 S.2.1 dX9_playing_16 rfl (lv_at hl 0 rfl) ?_
      refine gget S hE M (C := RX9) (T := TX9) (N := 28) (ci := 9) (index := 78) hwi 0 rfl rfl 7 (by decide) (by decide +kernel) rfl dX9_playing_17 ?_
      refine lv_icmp_ge (tgt := 65) S.1 S.2.1 dX9_playing_20 (by decide) (fun _ => ?_) (fun c_ => absurd (nI_le (by omega) (by omega)) c_)
      refine lv_bipush (v := (-9)) S.1 S.2.1 dX9_playing_65 (by decide) ?_
      rw [← hQ]
      exact giret S hr hlk M (by unfold MdS.playing; rw [if_neg c7, hI, pla]) (rfl) dX9_playing_67
    | succ n ih =>
      intro i c7 hi hI H locs M ls hl
      refine lv_iload_n S.1 S.2.1 dX9_playing_15 rfl (lv_at hl 2 rfl) ?_
      refine lv_aload_n S.1 S.2.1 dX9_playing_16 rfl (lv_at hl 0 rfl) ?_
      refine gget S hE M (C := RX9) (T := TX9) (N := 28) (ci := 9) (index := 78) hwi 0 rfl rfl 7 (by decide) (by decide +kernel) rfl dX9_playing_17 ?_
      refine lv_icmp_ge (tgt := 65) S.1 S.2.1 dX9_playing_20 (by decide) (fun c_ => absurd c_ (nI_ge (by omega) (by omega))) (fun _ => ?_)
      refine lv_aload_n S.1 S.2.1 dX9_playing_23 rfl (lv_at hl 0 rfl) ?_
      refine lv_iload_n S.1 S.2.1 dX9_playing_24 rfl (lv_at hl 2 rfl) ?_
      refine gcalli (L := []) (Mid := modGs E am z) (Rr := []) (Mid' := modGs E am z) hE M rfl (rfl) (rfl) (fun hgH => va_runV (As := [.int (nI i)]) (rest := []) S (c_X9_isPlayed l E am z i  (by omega) (hsn i (by omega)) _) (cwV 1 S.2.2.2.2 gX9_playing_X9_isPlayed rfl rfl rfl kd_X9_isPlayed ⟨Nat.le_of_ble_eq_true rfl, Nat.le_of_ble_eq_true rfl⟩) (hgH.V hE (show vwCl[9]? = some (RX9, TX9, 28) from rfl) rfl) rfl rfl hl.1 rfl (lv_room (Nat.le_of_ble_eq_true rfl)) dX9_playing_25 ⟨Nat.zero_le _, Nat.zero_le _⟩) (fun H locs M => ?_)
      have M : gM E A s.heap [[(am 0, .inr (9, [.ref (am 1), .ref (am 2), .int (nI z.tn), .int z.mn, .int z.mk, .int z.mg, .int z.jp, .int (nI z.ct), .ref (am 3), .ref (am 4), .ref (am 5), .ref (am 6), .int (nI z.sp), .ref (am 7), .ref (am 8), .ref (am 9), .ref (am 10), .int (b2i z.on), .int z.ba, .int z.bg, .ref (am 11), .long z.up, .long z.by_, .int z.co, .int z.po, .int z.gr, .ref (am 12), .int (nI z.wr)]))], [((am 1), .inl (xI E, 25, .inl z.sg))], [((am 2), .inl (xI E, 8, .inl z.tp))], [((am 3), .inl (xI E, 120, .inl z.fr))], [((am 4), .inl (xI E, 120, .inl z.wh))], [((am 5), .inl (xI E, 120, .inl z.sn))], [((am 6), .inl (xI E, 300, .inl z.ca))], [((am 7), .inl (xI E, 120, .inl z.hd))], [((am 8), .inl (xI E, 120, .inl z.ps))], [((am 9), .inl (xI E, 120, .inl z.tm))], [((am 10), .inl (xI E, 120, .inl z.mm))], [((am 11), .inl (xJ E, 120, .inr (.inl z.se)))], [((am 12), .inl (xI E, 400, .inl z.tx))]] H locs := M
      refine lv_if_eq (tgt := 59) S.1 S.2.1 dX9_playing_28 (by decide) (fun c28 => ?_) (fun c28 => ?_)
      ·
        refine lv_iinc (v := nI (i + 1)) (lv' := [(2, .int (nI (i + 1))), (0, .ref (am 0)), (1, .int t)]) S.1 S.2.1 dX9_playing_59 hl (k := 2) rfl (nI_1 _) (by decide) rfl (fun ls hl => ?_)
        refine lv_goto (tgt := 15) S.1 S.2.1 dX9_playing_62 (by decide) ?_
        exact ih (i + 1) c7 (by omega) (by rw [hI, pla, if_pos c28]) _ _ M ls (lv_sub hl [1, 2, 0] rfl)
      ·
        refine lv_aload_n S.1 S.2.1 dX9_playing_31 rfl (lv_at hl 0 rfl) ?_
        refine lv_iload_n S.1 S.2.1 dX9_playing_32 rfl (lv_at hl 2 rfl) ?_
        refine gcalli (L := []) (Mid := modGs E am z) (Rr := []) (Mid' := modGs E am z) hE M rfl (rfl) (rfl) (fun hgH => va_runV (As := [.int (nI i)]) (rest := []) S (c_X9_playedAt l E am z i  (by omega) (hsn i (by omega)) _) (cwV 1 S.2.2.2.2 gX9_playing_X9_playedAt rfl rfl rfl kd_X9_playedAt ⟨Nat.le_of_ble_eq_true rfl, Nat.le_of_ble_eq_true rfl⟩) (hgH.V hE (show vwCl[9]? = some (RX9, TX9, 28) from rfl) rfl) rfl rfl hl.1 rfl (lv_room (Nat.le_of_ble_eq_true rfl)) dX9_playing_33 ⟨Nat.zero_le _, Nat.zero_le _⟩) (fun H locs M => ?_)
        have M : gM E A s.heap [[(am 0, .inr (9, [.ref (am 1), .ref (am 2), .int (nI z.tn), .int z.mn, .int z.mk, .int z.mg, .int z.jp, .int (nI z.ct), .ref (am 3), .ref (am 4), .ref (am 5), .ref (am 6), .int (nI z.sp), .ref (am 7), .ref (am 8), .ref (am 9), .ref (am 10), .int (b2i z.on), .int z.ba, .int z.bg, .ref (am 11), .long z.up, .long z.by_, .int z.co, .int z.po, .int z.gr, .ref (am 12), .int (nI z.wr)]))], [((am 1), .inl (xI E, 25, .inl z.sg))], [((am 2), .inl (xI E, 8, .inl z.tp))], [((am 3), .inl (xI E, 120, .inl z.fr))], [((am 4), .inl (xI E, 120, .inl z.wh))], [((am 5), .inl (xI E, 120, .inl z.sn))], [((am 6), .inl (xI E, 300, .inl z.ca))], [((am 7), .inl (xI E, 120, .inl z.hd))], [((am 8), .inl (xI E, 120, .inl z.ps))], [((am 9), .inl (xI E, 120, .inl z.tm))], [((am 10), .inl (xI E, 120, .inl z.mm))], [((am 11), .inl (xJ E, 120, .inr (.inl z.se)))], [((am 12), .inl (xI E, 400, .inl z.tx))]] H locs := M
        refine lv_iload_n S.1 S.2.1 dX9_playing_36 rfl (lv_at hl 1 rfl) ?_
        refine lv_icmp_gt (tgt := 59) S.1 S.2.1 dX9_playing_37 (by decide) (fun c37 => ?_) (fun c37 => ?_)
        ·
          refine lv_iinc (v := nI (i + 1)) (lv' := [(2, .int (nI (i + 1))), (0, .ref (am 0)), (1, .int t)]) S.1 S.2.1 dX9_playing_59 hl (k := 2) rfl (nI_1 _) (by decide) rfl (fun ls hl => ?_)
          refine lv_goto (tgt := 15) S.1 S.2.1 dX9_playing_62 (by decide) ?_
          exact ih (i + 1) c7 (by omega) (by rw [hI, pla, if_neg c28, if_pos c37]) _ _ M ls (lv_sub hl [1, 2, 0] rfl)
        ·
          refine lv_aload_n S.1 S.2.1 dX9_playing_40 rfl (lv_at hl 0 rfl) ?_
          refine lv_iload_n S.1 S.2.1 dX9_playing_41 rfl (lv_at hl 2 rfl) ?_
          refine gcalli (L := []) (Mid := modGs E am z) (Rr := []) (Mid' := modGs E am z) hE M rfl (rfl) (rfl) (fun hgH => va_runV (As := [.int (nI i)]) (rest := []) S (c_X9_playedAt l E am z i  (by omega) (hsn i (by omega)) _) (cwV 1 S.2.2.2.2 gX9_playing_X9_playedAt rfl rfl rfl kd_X9_playedAt ⟨Nat.le_of_ble_eq_true rfl, Nat.le_of_ble_eq_true rfl⟩) (hgH.V hE (show vwCl[9]? = some (RX9, TX9, 28) from rfl) rfl) rfl rfl hl.1 rfl (lv_room (Nat.le_of_ble_eq_true rfl)) dX9_playing_42 ⟨Nat.zero_le _, Nat.zero_le _⟩) (fun H locs M => ?_)
          have M : gM E A s.heap [[(am 0, .inr (9, [.ref (am 1), .ref (am 2), .int (nI z.tn), .int z.mn, .int z.mk, .int z.mg, .int z.jp, .int (nI z.ct), .ref (am 3), .ref (am 4), .ref (am 5), .ref (am 6), .int (nI z.sp), .ref (am 7), .ref (am 8), .ref (am 9), .ref (am 10), .int (b2i z.on), .int z.ba, .int z.bg, .ref (am 11), .long z.up, .long z.by_, .int z.co, .int z.po, .int z.gr, .ref (am 12), .int (nI z.wr)]))], [((am 1), .inl (xI E, 25, .inl z.sg))], [((am 2), .inl (xI E, 8, .inl z.tp))], [((am 3), .inl (xI E, 120, .inl z.fr))], [((am 4), .inl (xI E, 120, .inl z.wh))], [((am 5), .inl (xI E, 120, .inl z.sn))], [((am 6), .inl (xI E, 300, .inl z.ca))], [((am 7), .inl (xI E, 120, .inl z.hd))], [((am 8), .inl (xI E, 120, .inl z.ps))], [((am 9), .inl (xI E, 120, .inl z.tm))], [((am 10), .inl (xI E, 120, .inl z.mm))], [((am 11), .inl (xJ E, 120, .inr (.inl z.se)))], [((am 12), .inl (xI E, 400, .inl z.tx))]] H locs := M
          refine lv_iload_n S.1 S.2.1 dX9_playing_45 rfl (lv_at hl 1 rfl) ?_
          refine lv_bipush (v := 20) S.1 S.2.1 dX9_playing_46 (by decide) ?_
          refine lv_isub S.1 S.2.1 dX9_playing_48 ?_
          refine lv_icmp_le (tgt := 59) S.1 S.2.1 dX9_playing_49 (by decide) (fun c49 => ?_) (fun c49 => ?_)
          ·
            refine lv_iinc (v := nI (i + 1)) (lv' := [(2, .int (nI (i + 1))), (0, .ref (am 0)), (1, .int t)]) S.1 S.2.1 dX9_playing_59 hl (k := 2) rfl (nI_1 _) (by decide) rfl (fun ls hl => ?_)
            refine lv_goto (tgt := 15) S.1 S.2.1 dX9_playing_62 (by decide) ?_
            exact ih (i + 1) c7 (by omega) (by rw [hI, pla, if_neg c28, if_neg c37, if_pos c49]) _ _ M ls (lv_sub hl [1, 2, 0] rfl)
          ·
            refine lv_aload_n S.1 S.2.1 dX9_playing_52 rfl (lv_at hl 0 rfl) ?_
            refine gget S hE M (C := RX9) (T := TX9) (N := 28) (ci := 9) (index := 23) hwi 0 rfl rfl 8 (by decide) (by decide +kernel) rfl dX9_playing_53 ?_
            refine lv_iload_n S.1 S.2.1 dX9_playing_56 rfl (lv_at hl 2 rfl) ?_
            refine giald S hE M 3 rfl (vp_in_nI (by omega) (by omega)) dX9_playing_57 ?_
            refine gtop (x' := z.fr i) (by rw [nI_clamp (by omega)]) ?_
            rw [← hQ]
            exact giret S hr hlk M (by unfold MdS.playing; rw [if_neg c7, hI, pla, if_neg c28, if_neg c37, if_neg c49]) (rfl) dX9_playing_58
  refine lv_iload_n S.1 S.2.1 dX9_playing_0 rfl (lv_at hl 1 rfl) ?_
  refine lv_iconst (v := 0) S.1 S.2.1 dX9_playing_1 (by decide) ?_
  refine lv_ldc (v := 100000) S.1 S.2.1 S.2.2.2.1 (S.2.2.2.2 (.constant RX9 179 100000) (by decide +kernel)) dX9_playing_2 ?_
  refine gcalli (L := []) (Mid := []) (Rr := [[(am 0, .inr (9, [.ref (am 1), .ref (am 2), .int (nI z.tn), .int z.mn, .int z.mk, .int z.mg, .int z.jp, .int (nI z.ct), .ref (am 3), .ref (am 4), .ref (am 5), .ref (am 6), .int (nI z.sp), .ref (am 7), .ref (am 8), .ref (am 9), .ref (am 10), .int (b2i z.on), .int z.ba, .int z.bg, .ref (am 11), .long z.up, .long z.by_, .int z.co, .int z.po, .int z.gr, .ref (am 12), .int (nI z.wr)]))], [((am 1), .inl (xI E, 25, .inl z.sg))], [((am 2), .inl (xI E, 8, .inl z.tp))], [((am 3), .inl (xI E, 120, .inl z.fr))], [((am 4), .inl (xI E, 120, .inl z.wh))], [((am 5), .inl (xI E, 120, .inl z.sn))], [((am 6), .inl (xI E, 300, .inl z.ca))], [((am 7), .inl (xI E, 120, .inl z.hd))], [((am 8), .inl (xI E, 120, .inl z.ps))], [((am 9), .inl (xI E, 120, .inl z.tm))], [((am 10), .inl (xI E, 120, .inl z.mm))], [((am 11), .inl (xJ E, 120, .inr (.inl z.se)))], [((am 12), .inl (xI E, 400, .inl z.tx))]]) (Mid' := []) hE M rfl (rfl) (rfl) (fun hgH => va_runS (As := [.int t, .int 0, .int 100000]) (rest := []) S (c_X9_within l E t 0 100000 _) (va_cwS 3 S.2.2.2.2 gX9_playing_X9_within rfl rfl rfl kd_X9_within.2 ⟨Nat.le_of_ble_eq_true rfl, Nat.le_of_ble_eq_true rfl⟩) hgH.S rfl rfl hl.1 rfl (lv_room (Nat.le_of_ble_eq_true rfl)) dX9_playing_4 ⟨Nat.zero_le _, Nat.zero_le _⟩) (fun H locs M => ?_)
  have M : gM E A s.heap [[(am 0, .inr (9, [.ref (am 1), .ref (am 2), .int (nI z.tn), .int z.mn, .int z.mk, .int z.mg, .int z.jp, .int (nI z.ct), .ref (am 3), .ref (am 4), .ref (am 5), .ref (am 6), .int (nI z.sp), .ref (am 7), .ref (am 8), .ref (am 9), .ref (am 10), .int (b2i z.on), .int z.ba, .int z.bg, .ref (am 11), .long z.up, .long z.by_, .int z.co, .int z.po, .int z.gr, .ref (am 12), .int (nI z.wr)]))], [((am 1), .inl (xI E, 25, .inl z.sg))], [((am 2), .inl (xI E, 8, .inl z.tp))], [((am 3), .inl (xI E, 120, .inl z.fr))], [((am 4), .inl (xI E, 120, .inl z.wh))], [((am 5), .inl (xI E, 120, .inl z.sn))], [((am 6), .inl (xI E, 300, .inl z.ca))], [((am 7), .inl (xI E, 120, .inl z.hd))], [((am 8), .inl (xI E, 120, .inl z.ps))], [((am 9), .inl (xI E, 120, .inl z.tm))], [((am 10), .inl (xI E, 120, .inl z.mm))], [((am 11), .inl (xJ E, 120, .inr (.inl z.se)))], [((am 12), .inl (xI E, 400, .inl z.tx))]] H locs := M
  refine lv_if_ne (tgt := 13) S.1 S.2.1 dX9_playing_7 (by decide) (fun c7 => ?_) (fun c7 => ?_)
  ·
    refine lv_iconst (v := 0) S.1 S.2.1 dX9_playing_13 (by decide) ?_
    refine lv_istore_n (lv' := [(2, .int 0), (0, .ref (am 0)), (1, .int t)]) S.1 S.2.1 dX9_playing_14 rfl hl (by decide) rfl (fun ls hl => ?_)
    exact hL z.ct 0 c7 (by omega) rfl _ _ M ls (lv_sub hl [1, 2, 0] rfl)
  ·
    refine lv_bipush (v := (-2)) S.1 S.2.1 dX9_playing_10 (by decide) ?_
    rw [← hQ]
    exact giret S hr hlk M (by unfold MdS.playing; rw [if_pos c7]) (rfl) dX9_playing_12

set_option maxHeartbeats 4000000 in
set_option maxRecDepth 100000 in
theorem c_X9_arrive_out (l : Launch) (E : xE) (am : Nat → Nat) (z : MdS) (n : Int32) (h : Int32) (p : Int32) (t : Int32) (h8 : win n 0 299 = 0) : mI l yX9_arrive wsX9_arrive (xrm 1 22) E [.ref (am 0), .int n, .int h, .int p, .int t] (modGs E am z) ((MdS.arrive z n h p t).1) (modGs E am ((MdS.arrive z n h p t).2)) := by
  intro sz
  refine Met.ofW (cc := cX9_arrive) (maxL := 6) (ret := (some .int)) (by decide +kernel) rfl ?_
  intro vp ve s vm args below meth vc s₁ B hml hv
  obtain ⟨rfl, S, hr, hlk, hnm, A, hA, hE, M⟩ := genter B hml hv
  rw [hA]
  obtain ⟨ls, hfr, hl⟩ := gst (m := vm) (as := [.ref (am 0), .int n, .int h, .int p, .int t]) (n := 6) (Nat.le_of_ble_eq_true rfl)
  rw [hfr]
  clear hfr hA
  have hl : lv_has ls 6 [(0, .ref (am 0)), (1, .int n), (2, .int h), (3, .int p), (4, .int t)] := hl
  have M : gM E A s.heap [[(am 0, .inr (9, [.ref (am 1), .ref (am 2), .int (nI z.tn), .int z.mn, .int z.mk, .int z.mg, .int z.jp, .int (nI z.ct), .ref (am 3), .ref (am 4), .ref (am 5), .ref (am 6), .int (nI z.sp), .ref (am 7), .ref (am 8), .ref (am 9), .ref (am 10), .int (b2i z.on), .int z.ba, .int z.bg, .ref (am 11), .long z.up, .long z.by_, .int z.co, .int z.po, .int z.gr, .ref (am 12), .int (nI z.wr)]))], [((am 1), .inl (xI E, 25, .inl z.sg))], [((am 2), .inl (xI E, 8, .inl z.tp))], [((am 3), .inl (xI E, 120, .inl z.fr))], [((am 4), .inl (xI E, 120, .inl z.wh))], [((am 5), .inl (xI E, 120, .inl z.sn))], [((am 6), .inl (xI E, 300, .inl z.ca))], [((am 7), .inl (xI E, 120, .inl z.hd))], [((am 8), .inl (xI E, 120, .inl z.ps))], [((am 9), .inl (xI E, 120, .inl z.tm))], [((am 10), .inl (xI E, 120, .inl z.mm))], [((am 11), .inl (xJ E, 120, .inr (.inl z.se)))], [((am 12), .inl (xI E, 400, .inl z.tx))]] s.heap [] := M
  have hwi : ∀ w ∈ u_ws RX9 TX9 28, w ∈ wsX9_arrive := by decide +kernel
  refine lv_iload_n S.1 S.2.1 dX9_arrive_0 rfl (lv_at hl 1 rfl) ?_
  refine lv_iconst (v := 0) S.1 S.2.1 dX9_arrive_1 (by decide) ?_
  refine lv_sipush (v := 299) S.1 S.2.1 dX9_arrive_2 (by decide) ?_
  refine gcalli (L := []) (Mid := []) (Rr := [[(am 0, .inr (9, [.ref (am 1), .ref (am 2), .int (nI z.tn), .int z.mn, .int z.mk, .int z.mg, .int z.jp, .int (nI z.ct), .ref (am 3), .ref (am 4), .ref (am 5), .ref (am 6), .int (nI z.sp), .ref (am 7), .ref (am 8), .ref (am 9), .ref (am 10), .int (b2i z.on), .int z.ba, .int z.bg, .ref (am 11), .long z.up, .long z.by_, .int z.co, .int z.po, .int z.gr, .ref (am 12), .int (nI z.wr)]))], [((am 1), .inl (xI E, 25, .inl z.sg))], [((am 2), .inl (xI E, 8, .inl z.tp))], [((am 3), .inl (xI E, 120, .inl z.fr))], [((am 4), .inl (xI E, 120, .inl z.wh))], [((am 5), .inl (xI E, 120, .inl z.sn))], [((am 6), .inl (xI E, 300, .inl z.ca))], [((am 7), .inl (xI E, 120, .inl z.hd))], [((am 8), .inl (xI E, 120, .inl z.ps))], [((am 9), .inl (xI E, 120, .inl z.tm))], [((am 10), .inl (xI E, 120, .inl z.mm))], [((am 11), .inl (xJ E, 120, .inr (.inl z.se)))], [((am 12), .inl (xI E, 400, .inl z.tx))]]) (Mid' := []) hE M rfl (rfl) (rfl) (fun hgH => va_runS (As := [.int n, .int 0, .int 299]) (rest := []) S (c_X9_within l E n 0 299 _) (va_cwS 3 S.2.2.2.2 gX9_arrive_X9_within rfl rfl rfl kd_X9_within.2 ⟨Nat.le_of_ble_eq_true rfl, Nat.le_of_ble_eq_true rfl⟩) hgH.S rfl rfl hl.1 rfl (lv_room (Nat.le_of_ble_eq_true rfl)) dX9_arrive_5 ⟨Nat.zero_le _, Nat.zero_le _⟩) (fun H locs M => ?_)
  have M : gM E A s.heap [[(am 0, .inr (9, [.ref (am 1), .ref (am 2), .int (nI z.tn), .int z.mn, .int z.mk, .int z.mg, .int z.jp, .int (nI z.ct), .ref (am 3), .ref (am 4), .ref (am 5), .ref (am 6), .int (nI z.sp), .ref (am 7), .ref (am 8), .ref (am 9), .ref (am 10), .int (b2i z.on), .int z.ba, .int z.bg, .ref (am 11), .long z.up, .long z.by_, .int z.co, .int z.po, .int z.gr, .ref (am 12), .int (nI z.wr)]))], [((am 1), .inl (xI E, 25, .inl z.sg))], [((am 2), .inl (xI E, 8, .inl z.tp))], [((am 3), .inl (xI E, 120, .inl z.fr))], [((am 4), .inl (xI E, 120, .inl z.wh))], [((am 5), .inl (xI E, 120, .inl z.sn))], [((am 6), .inl (xI E, 300, .inl z.ca))], [((am 7), .inl (xI E, 120, .inl z.hd))], [((am 8), .inl (xI E, 120, .inl z.ps))], [((am 9), .inl (xI E, 120, .inl z.tm))], [((am 10), .inl (xI E, 120, .inl z.mm))], [((am 11), .inl (xJ E, 120, .inr (.inl z.se)))], [((am 12), .inl (xI E, 400, .inl z.tx))]] H locs := M
  refine lv_if_eq (tgt := 41) S.1 S.2.1 dX9_arrive_8 (by decide) (fun _ => ?_) (fun c_ => absurd (h8) c_)
  refine lv_bipush (v := (-2)) S.1 S.2.1 dX9_arrive_41 (by decide) ?_
  have he : MdS.arrive z n h p t = ((-2), z) := by unfold MdS.arrive; rw [if_pos h8]
  exact giret S hr hlk M (by rw [he]) (by rw [he]; rfl) dX9_arrive_43

set_option maxHeartbeats 4000000 in
set_option maxRecDepth 100000 in
theorem c_X9_arrive_in (l : Launch) (E : xE) (am : Nat → Nat) (z : MdS) (n : Nat) (h : Int32) (p : Int32) (t : Int32) (h8 : ¬ win (nI n) 0 299 = 0) (hn : n < 300) (hc : z.ct ≤ 120) (hs : z.sp ≤ 120) (hfr : ∀ a, a < z.ct → ∃ m, m < 300 ∧ z.fr a = nI m) (hsc : z.sp ≤ z.ct) : mI l yX9_arrive wsX9_arrive (xrm 5 128) E [.ref (am 0), .int (nI n), .int h, .int p, .int t] (modGs E am z) ((MdS.arrive z (nI n) h p t).1) (modGs E am ((MdS.arrive z (nI n) h p t).2)) := by
  intro sz
  refine Met.ofW (cc := cX9_arrive) (maxL := 6) (ret := (some .int)) (by decide +kernel) rfl ?_
  intro vp ve s vm args below meth vc s₁ B hml hv
  obtain ⟨rfl, S, hr, hlk, hnm, A, hA, hE, M⟩ := genter B hml hv
  rw [hA]
  obtain ⟨ls, hfr, hl⟩ := gst (m := vm) (as := [.ref (am 0), .int (nI n), .int h, .int p, .int t]) (n := 6) (Nat.le_of_ble_eq_true rfl)
  rw [hfr]
  clear hfr hA
  have hl : lv_has ls 6 [(0, .ref (am 0)), (1, .int (nI n)), (2, .int h), (3, .int p), (4, .int t)] := hl
  have M : gM E A s.heap [[(am 0, .inr (9, [.ref (am 1), .ref (am 2), .int (nI z.tn), .int z.mn, .int z.mk, .int z.mg, .int z.jp, .int (nI z.ct), .ref (am 3), .ref (am 4), .ref (am 5), .ref (am 6), .int (nI z.sp), .ref (am 7), .ref (am 8), .ref (am 9), .ref (am 10), .int (b2i z.on), .int z.ba, .int z.bg, .ref (am 11), .long z.up, .long z.by_, .int z.co, .int z.po, .int z.gr, .ref (am 12), .int (nI z.wr)]))], [((am 1), .inl (xI E, 25, .inl z.sg))], [((am 2), .inl (xI E, 8, .inl z.tp))], [((am 3), .inl (xI E, 120, .inl z.fr))], [((am 4), .inl (xI E, 120, .inl z.wh))], [((am 5), .inl (xI E, 120, .inl z.sn))], [((am 6), .inl (xI E, 300, .inl z.ca))], [((am 7), .inl (xI E, 120, .inl z.hd))], [((am 8), .inl (xI E, 120, .inl z.ps))], [((am 9), .inl (xI E, 120, .inl z.tm))], [((am 10), .inl (xI E, 120, .inl z.mm))], [((am 11), .inl (xJ E, 120, .inr (.inl z.se)))], [((am 12), .inl (xI E, 400, .inl z.tx))]] s.heap [] := M
  have hwi : ∀ w ∈ u_ws RX9 TX9 28, w ∈ wsX9_arrive := by decide +kernel
  refine lv_iload_n S.1 S.2.1 dX9_arrive_0 rfl (lv_at hl 1 rfl) ?_
  refine lv_iconst (v := 0) S.1 S.2.1 dX9_arrive_1 (by decide) ?_
  refine lv_sipush (v := 299) S.1 S.2.1 dX9_arrive_2 (by decide) ?_
  refine gcalli (L := []) (Mid := []) (Rr := [[(am 0, .inr (9, [.ref (am 1), .ref (am 2), .int (nI z.tn), .int z.mn, .int z.mk, .int z.mg, .int z.jp, .int (nI z.ct), .ref (am 3), .ref (am 4), .ref (am 5), .ref (am 6), .int (nI z.sp), .ref (am 7), .ref (am 8), .ref (am 9), .ref (am 10), .int (b2i z.on), .int z.ba, .int z.bg, .ref (am 11), .long z.up, .long z.by_, .int z.co, .int z.po, .int z.gr, .ref (am 12), .int (nI z.wr)]))], [((am 1), .inl (xI E, 25, .inl z.sg))], [((am 2), .inl (xI E, 8, .inl z.tp))], [((am 3), .inl (xI E, 120, .inl z.fr))], [((am 4), .inl (xI E, 120, .inl z.wh))], [((am 5), .inl (xI E, 120, .inl z.sn))], [((am 6), .inl (xI E, 300, .inl z.ca))], [((am 7), .inl (xI E, 120, .inl z.hd))], [((am 8), .inl (xI E, 120, .inl z.ps))], [((am 9), .inl (xI E, 120, .inl z.tm))], [((am 10), .inl (xI E, 120, .inl z.mm))], [((am 11), .inl (xJ E, 120, .inr (.inl z.se)))], [((am 12), .inl (xI E, 400, .inl z.tx))]]) (Mid' := []) hE M rfl (rfl) (rfl) (fun hgH => va_runS (As := [.int (nI n), .int 0, .int 299]) (rest := []) S (c_X9_within l E (nI n) 0 299 _) (va_cwS 3 S.2.2.2.2 gX9_arrive_X9_within rfl rfl rfl kd_X9_within.2 ⟨Nat.le_of_ble_eq_true rfl, Nat.le_of_ble_eq_true rfl⟩) hgH.S rfl rfl hl.1 rfl (lv_room (Nat.le_of_ble_eq_true rfl)) dX9_arrive_5 ⟨Nat.zero_le _, Nat.zero_le _⟩) (fun H locs M => ?_)
  have M : gM E A s.heap [[(am 0, .inr (9, [.ref (am 1), .ref (am 2), .int (nI z.tn), .int z.mn, .int z.mk, .int z.mg, .int z.jp, .int (nI z.ct), .ref (am 3), .ref (am 4), .ref (am 5), .ref (am 6), .int (nI z.sp), .ref (am 7), .ref (am 8), .ref (am 9), .ref (am 10), .int (b2i z.on), .int z.ba, .int z.bg, .ref (am 11), .long z.up, .long z.by_, .int z.co, .int z.po, .int z.gr, .ref (am 12), .int (nI z.wr)]))], [((am 1), .inl (xI E, 25, .inl z.sg))], [((am 2), .inl (xI E, 8, .inl z.tp))], [((am 3), .inl (xI E, 120, .inl z.fr))], [((am 4), .inl (xI E, 120, .inl z.wh))], [((am 5), .inl (xI E, 120, .inl z.sn))], [((am 6), .inl (xI E, 300, .inl z.ca))], [((am 7), .inl (xI E, 120, .inl z.hd))], [((am 8), .inl (xI E, 120, .inl z.ps))], [((am 9), .inl (xI E, 120, .inl z.tm))], [((am 10), .inl (xI E, 120, .inl z.mm))], [((am 11), .inl (xJ E, 120, .inr (.inl z.se)))], [((am 12), .inl (xI E, 400, .inl z.tx))]] H locs := M
  refine lv_if_eq (tgt := 41) S.1 S.2.1 dX9_arrive_8 (by decide) (fun c_ => absurd c_ (h8)) (fun _ => ?_)
  refine lv_iload_n S.1 S.2.1 dX9_arrive_11 rfl (lv_at hl 2 rfl) ?_
  refine lv_iconst (v := 0) S.1 S.2.1 dX9_arrive_12 (by decide) ?_
  refine lv_iload_n S.1 S.2.1 dX9_arrive_13 rfl (lv_at hl 1 rfl) ?_
  refine gcalli (L := []) (Mid := []) (Rr := [[(am 0, .inr (9, [.ref (am 1), .ref (am 2), .int (nI z.tn), .int z.mn, .int z.mk, .int z.mg, .int z.jp, .int (nI z.ct), .ref (am 3), .ref (am 4), .ref (am 5), .ref (am 6), .int (nI z.sp), .ref (am 7), .ref (am 8), .ref (am 9), .ref (am 10), .int (b2i z.on), .int z.ba, .int z.bg, .ref (am 11), .long z.up, .long z.by_, .int z.co, .int z.po, .int z.gr, .ref (am 12), .int (nI z.wr)]))], [((am 1), .inl (xI E, 25, .inl z.sg))], [((am 2), .inl (xI E, 8, .inl z.tp))], [((am 3), .inl (xI E, 120, .inl z.fr))], [((am 4), .inl (xI E, 120, .inl z.wh))], [((am 5), .inl (xI E, 120, .inl z.sn))], [((am 6), .inl (xI E, 300, .inl z.ca))], [((am 7), .inl (xI E, 120, .inl z.hd))], [((am 8), .inl (xI E, 120, .inl z.ps))], [((am 9), .inl (xI E, 120, .inl z.tm))], [((am 10), .inl (xI E, 120, .inl z.mm))], [((am 11), .inl (xJ E, 120, .inr (.inl z.se)))], [((am 12), .inl (xI E, 400, .inl z.tx))]]) (Mid' := []) hE M rfl (rfl) (rfl) (fun hgH => va_runS (As := [.int h, .int 0, .int (nI n)]) (rest := []) S (c_X9_within l E h 0 (nI n) _) (va_cwS 3 S.2.2.2.2 gX9_arrive_X9_within rfl rfl rfl kd_X9_within.2 ⟨Nat.le_of_ble_eq_true rfl, Nat.le_of_ble_eq_true rfl⟩) hgH.S rfl rfl hl.1 rfl (lv_room (Nat.le_of_ble_eq_true rfl)) dX9_arrive_14 ⟨Nat.zero_le _, Nat.zero_le _⟩) (fun H locs M => ?_)
  have M : gM E A s.heap [[(am 0, .inr (9, [.ref (am 1), .ref (am 2), .int (nI z.tn), .int z.mn, .int z.mk, .int z.mg, .int z.jp, .int (nI z.ct), .ref (am 3), .ref (am 4), .ref (am 5), .ref (am 6), .int (nI z.sp), .ref (am 7), .ref (am 8), .ref (am 9), .ref (am 10), .int (b2i z.on), .int z.ba, .int z.bg, .ref (am 11), .long z.up, .long z.by_, .int z.co, .int z.po, .int z.gr, .ref (am 12), .int (nI z.wr)]))], [((am 1), .inl (xI E, 25, .inl z.sg))], [((am 2), .inl (xI E, 8, .inl z.tp))], [((am 3), .inl (xI E, 120, .inl z.fr))], [((am 4), .inl (xI E, 120, .inl z.wh))], [((am 5), .inl (xI E, 120, .inl z.sn))], [((am 6), .inl (xI E, 300, .inl z.ca))], [((am 7), .inl (xI E, 120, .inl z.hd))], [((am 8), .inl (xI E, 120, .inl z.ps))], [((am 9), .inl (xI E, 120, .inl z.tm))], [((am 10), .inl (xI E, 120, .inl z.mm))], [((am 11), .inl (xJ E, 120, .inr (.inl z.se)))], [((am 12), .inl (xI E, 400, .inl z.tx))]] H locs := M
  refine lv_if_eq (tgt := 41) S.1 S.2.1 dX9_arrive_17 (by decide) (fun c17 => ?_) (fun c17 => ?_)
  ·
    refine lv_bipush (v := (-2)) S.1 S.2.1 dX9_arrive_41 (by decide) ?_
    have he : MdS.arrive z (nI n) h p t = ((-2), z) := by unfold MdS.arrive; rw [if_neg h8, if_pos c17]
    exact giret S hr hlk M (by rw [he]) (by rw [he]; rfl) dX9_arrive_43
  ·
    refine lv_iload_n S.1 S.2.1 dX9_arrive_20 rfl (lv_at hl 3 rfl) ?_
    refine lv_iconst (v := 0) S.1 S.2.1 dX9_arrive_21 (by decide) ?_
    refine lv_iload_n S.1 S.2.1 dX9_arrive_22 rfl (lv_at hl 2 rfl) ?_
    refine gcalli (L := []) (Mid := []) (Rr := [[(am 0, .inr (9, [.ref (am 1), .ref (am 2), .int (nI z.tn), .int z.mn, .int z.mk, .int z.mg, .int z.jp, .int (nI z.ct), .ref (am 3), .ref (am 4), .ref (am 5), .ref (am 6), .int (nI z.sp), .ref (am 7), .ref (am 8), .ref (am 9), .ref (am 10), .int (b2i z.on), .int z.ba, .int z.bg, .ref (am 11), .long z.up, .long z.by_, .int z.co, .int z.po, .int z.gr, .ref (am 12), .int (nI z.wr)]))], [((am 1), .inl (xI E, 25, .inl z.sg))], [((am 2), .inl (xI E, 8, .inl z.tp))], [((am 3), .inl (xI E, 120, .inl z.fr))], [((am 4), .inl (xI E, 120, .inl z.wh))], [((am 5), .inl (xI E, 120, .inl z.sn))], [((am 6), .inl (xI E, 300, .inl z.ca))], [((am 7), .inl (xI E, 120, .inl z.hd))], [((am 8), .inl (xI E, 120, .inl z.ps))], [((am 9), .inl (xI E, 120, .inl z.tm))], [((am 10), .inl (xI E, 120, .inl z.mm))], [((am 11), .inl (xJ E, 120, .inr (.inl z.se)))], [((am 12), .inl (xI E, 400, .inl z.tx))]]) (Mid' := []) hE M rfl (rfl) (rfl) (fun hgH => va_runS (As := [.int p, .int 0, .int h]) (rest := []) S (c_X9_within l E p 0 h _) (va_cwS 3 S.2.2.2.2 gX9_arrive_X9_within rfl rfl rfl kd_X9_within.2 ⟨Nat.le_of_ble_eq_true rfl, Nat.le_of_ble_eq_true rfl⟩) hgH.S rfl rfl hl.1 rfl (lv_room (Nat.le_of_ble_eq_true rfl)) dX9_arrive_23 ⟨Nat.zero_le _, Nat.zero_le _⟩) (fun H locs M => ?_)
    have M : gM E A s.heap [[(am 0, .inr (9, [.ref (am 1), .ref (am 2), .int (nI z.tn), .int z.mn, .int z.mk, .int z.mg, .int z.jp, .int (nI z.ct), .ref (am 3), .ref (am 4), .ref (am 5), .ref (am 6), .int (nI z.sp), .ref (am 7), .ref (am 8), .ref (am 9), .ref (am 10), .int (b2i z.on), .int z.ba, .int z.bg, .ref (am 11), .long z.up, .long z.by_, .int z.co, .int z.po, .int z.gr, .ref (am 12), .int (nI z.wr)]))], [((am 1), .inl (xI E, 25, .inl z.sg))], [((am 2), .inl (xI E, 8, .inl z.tp))], [((am 3), .inl (xI E, 120, .inl z.fr))], [((am 4), .inl (xI E, 120, .inl z.wh))], [((am 5), .inl (xI E, 120, .inl z.sn))], [((am 6), .inl (xI E, 300, .inl z.ca))], [((am 7), .inl (xI E, 120, .inl z.hd))], [((am 8), .inl (xI E, 120, .inl z.ps))], [((am 9), .inl (xI E, 120, .inl z.tm))], [((am 10), .inl (xI E, 120, .inl z.mm))], [((am 11), .inl (xJ E, 120, .inr (.inl z.se)))], [((am 12), .inl (xI E, 400, .inl z.tx))]] H locs := M
    refine lv_if_eq (tgt := 41) S.1 S.2.1 dX9_arrive_26 (by decide) (fun c26 => ?_) (fun c26 => ?_)
    ·
      refine lv_bipush (v := (-2)) S.1 S.2.1 dX9_arrive_41 (by decide) ?_
      have he : MdS.arrive z (nI n) h p t = ((-2), z) := by unfold MdS.arrive; rw [if_neg h8, if_neg c17, if_pos c26]
      exact giret S hr hlk M (by rw [he]) (by rw [he]; rfl) dX9_arrive_43
    ·
      refine lv_iload S.1 S.2.1 dX9_arrive_29 (lv_at hl 4 rfl) ?_
      refine lv_iconst (v := 0) S.1 S.2.1 dX9_arrive_31 (by decide) ?_
      refine lv_sipush (v := 30000) S.1 S.2.1 dX9_arrive_32 (by decide) ?_
      refine gcalli (L := []) (Mid := []) (Rr := [[(am 0, .inr (9, [.ref (am 1), .ref (am 2), .int (nI z.tn), .int z.mn, .int z.mk, .int z.mg, .int z.jp, .int (nI z.ct), .ref (am 3), .ref (am 4), .ref (am 5), .ref (am 6), .int (nI z.sp), .ref (am 7), .ref (am 8), .ref (am 9), .ref (am 10), .int (b2i z.on), .int z.ba, .int z.bg, .ref (am 11), .long z.up, .long z.by_, .int z.co, .int z.po, .int z.gr, .ref (am 12), .int (nI z.wr)]))], [((am 1), .inl (xI E, 25, .inl z.sg))], [((am 2), .inl (xI E, 8, .inl z.tp))], [((am 3), .inl (xI E, 120, .inl z.fr))], [((am 4), .inl (xI E, 120, .inl z.wh))], [((am 5), .inl (xI E, 120, .inl z.sn))], [((am 6), .inl (xI E, 300, .inl z.ca))], [((am 7), .inl (xI E, 120, .inl z.hd))], [((am 8), .inl (xI E, 120, .inl z.ps))], [((am 9), .inl (xI E, 120, .inl z.tm))], [((am 10), .inl (xI E, 120, .inl z.mm))], [((am 11), .inl (xJ E, 120, .inr (.inl z.se)))], [((am 12), .inl (xI E, 400, .inl z.tx))]]) (Mid' := []) hE M rfl (rfl) (rfl) (fun hgH => va_runS (As := [.int t, .int 0, .int 30000]) (rest := []) S (c_X9_within l E t 0 30000 _) (va_cwS 3 S.2.2.2.2 gX9_arrive_X9_within rfl rfl rfl kd_X9_within.2 ⟨Nat.le_of_ble_eq_true rfl, Nat.le_of_ble_eq_true rfl⟩) hgH.S rfl rfl hl.1 rfl (lv_room (Nat.le_of_ble_eq_true rfl)) dX9_arrive_35 ⟨Nat.zero_le _, Nat.zero_le _⟩) (fun H locs M => ?_)
      have M : gM E A s.heap [[(am 0, .inr (9, [.ref (am 1), .ref (am 2), .int (nI z.tn), .int z.mn, .int z.mk, .int z.mg, .int z.jp, .int (nI z.ct), .ref (am 3), .ref (am 4), .ref (am 5), .ref (am 6), .int (nI z.sp), .ref (am 7), .ref (am 8), .ref (am 9), .ref (am 10), .int (b2i z.on), .int z.ba, .int z.bg, .ref (am 11), .long z.up, .long z.by_, .int z.co, .int z.po, .int z.gr, .ref (am 12), .int (nI z.wr)]))], [((am 1), .inl (xI E, 25, .inl z.sg))], [((am 2), .inl (xI E, 8, .inl z.tp))], [((am 3), .inl (xI E, 120, .inl z.fr))], [((am 4), .inl (xI E, 120, .inl z.wh))], [((am 5), .inl (xI E, 120, .inl z.sn))], [((am 6), .inl (xI E, 300, .inl z.ca))], [((am 7), .inl (xI E, 120, .inl z.hd))], [((am 8), .inl (xI E, 120, .inl z.ps))], [((am 9), .inl (xI E, 120, .inl z.tm))], [((am 10), .inl (xI E, 120, .inl z.mm))], [((am 11), .inl (xJ E, 120, .inr (.inl z.se)))], [((am 12), .inl (xI E, 400, .inl z.tx))]] H locs := M
      refine lv_if_ne (tgt := 44) S.1 S.2.1 dX9_arrive_38 (by decide) (fun c38 => ?_) (fun c38 => ?_)
      ·
        refine lv_aload_n S.1 S.2.1 dX9_arrive_44 rfl (lv_at hl 0 rfl) ?_
        refine lv_iload_n S.1 S.2.1 dX9_arrive_45 rfl (lv_at hl 1 rfl) ?_
        refine lv_iload_n S.1 S.2.1 dX9_arrive_46 rfl (lv_at hl 2 rfl) ?_
        refine lv_iload_n S.1 S.2.1 dX9_arrive_47 rfl (lv_at hl 3 rfl) ?_
        refine lv_iload S.1 S.2.1 dX9_arrive_48 (lv_at hl 4 rfl) ?_
        refine gcalli (L := []) (Mid := modGs E am z) (Rr := []) (Mid' := modGs E am z) hE M rfl (rfl) (rfl) (fun hgH => va_runV (As := [.int (nI n), .int h, .int p, .int t]) (rest := []) S (c_X9_isShut l E am z (nI n) h p t  (vp_in_nI hn (by omega)) hc hs _) (cwV 4 S.2.2.2.2 gX9_arrive_X9_isShut rfl rfl rfl kd_X9_isShut ⟨Nat.le_of_ble_eq_true rfl, Nat.le_of_ble_eq_true rfl⟩) (hgH.V hE (show vwCl[9]? = some (RX9, TX9, 28) from rfl) rfl) rfl rfl hl.1 rfl (lv_room (Nat.le_of_ble_eq_true rfl)) dX9_arrive_50 ⟨Nat.zero_le _, Nat.zero_le _⟩) (fun H locs M => ?_)
        have M : gM E A s.heap [[(am 0, .inr (9, [.ref (am 1), .ref (am 2), .int (nI z.tn), .int z.mn, .int z.mk, .int z.mg, .int z.jp, .int (nI z.ct), .ref (am 3), .ref (am 4), .ref (am 5), .ref (am 6), .int (nI z.sp), .ref (am 7), .ref (am 8), .ref (am 9), .ref (am 10), .int (b2i z.on), .int z.ba, .int z.bg, .ref (am 11), .long z.up, .long z.by_, .int z.co, .int z.po, .int z.gr, .ref (am 12), .int (nI z.wr)]))], [((am 1), .inl (xI E, 25, .inl z.sg))], [((am 2), .inl (xI E, 8, .inl z.tp))], [((am 3), .inl (xI E, 120, .inl z.fr))], [((am 4), .inl (xI E, 120, .inl z.wh))], [((am 5), .inl (xI E, 120, .inl z.sn))], [((am 6), .inl (xI E, 300, .inl z.ca))], [((am 7), .inl (xI E, 120, .inl z.hd))], [((am 8), .inl (xI E, 120, .inl z.ps))], [((am 9), .inl (xI E, 120, .inl z.tm))], [((am 10), .inl (xI E, 120, .inl z.mm))], [((am 11), .inl (xJ E, 120, .inr (.inl z.se)))], [((am 12), .inl (xI E, 400, .inl z.tx))]] H locs := M
        refine lv_if_eq (tgt := 59) S.1 S.2.1 dX9_arrive_53 (by decide) (fun c53 => ?_) (fun c53 => ?_)
        ·
          refine lv_aload_n S.1 S.2.1 dX9_arrive_59 rfl (lv_at hl 0 rfl) ?_
          refine gget S hE M (C := RX9) (T := TX9) (N := 28) (ci := 9) (index := 78) hwi 0 rfl rfl 7 (by decide) (by decide +kernel) rfl dX9_arrive_60 ?_
          refine lv_bipush (v := 120) S.1 S.2.1 dX9_arrive_63 (by decide) ?_
          refine lv_icmp_ne (tgt := 71) S.1 S.2.1 dX9_arrive_65 (by decide) (fun c65 => ?_) (fun c65 => ?_)
          ·
            have hc1 : z.ct < 120 := Nat.lt_of_le_of_ne hc fun q => c65 (by rw [q]; decide)
            refine lv_aload_n S.1 S.2.1 dX9_arrive_71 rfl (lv_at hl 0 rfl) ?_
            refine gget S hE M (C := RX9) (T := TX9) (N := 28) (ci := 9) (index := 23) hwi 0 rfl rfl 8 (by decide) (by decide +kernel) rfl dX9_arrive_72 ?_
            refine lv_aload_n S.1 S.2.1 dX9_arrive_75 rfl (lv_at hl 0 rfl) ?_
            refine gget S hE M (C := RX9) (T := TX9) (N := 28) (ci := 9) (index := 78) hwi 0 rfl rfl 7 (by decide) (by decide +kernel) rfl dX9_arrive_76 ?_
            refine lv_iload_n S.1 S.2.1 dX9_arrive_79 rfl (lv_at hl 1 rfl) ?_
            refine giast S hE M (Gs' := [[(am 0, .inr (9, [.ref (am 1), .ref (am 2), .int (nI z.tn), .int z.mn, .int z.mk, .int z.mg, .int z.jp, .int (nI z.ct), .ref (am 3), .ref (am 4), .ref (am 5), .ref (am 6), .int (nI z.sp), .ref (am 7), .ref (am 8), .ref (am 9), .ref (am 10), .int (b2i z.on), .int z.ba, .int z.bg, .ref (am 11), .long z.up, .long z.by_, .int z.co, .int z.po, .int z.gr, .ref (am 12), .int (nI z.wr)]))], [((am 1), .inl (xI E, 25, .inl z.sg))], [((am 2), .inl (xI E, 8, .inl z.tp))], [((am 3), .inl (xI E, 120, .inl (upd z.fr z.ct (nI n))))], [((am 4), .inl (xI E, 120, .inl z.wh))], [((am 5), .inl (xI E, 120, .inl z.sn))], [((am 6), .inl (xI E, 300, .inl z.ca))], [((am 7), .inl (xI E, 120, .inl z.hd))], [((am 8), .inl (xI E, 120, .inl z.ps))], [((am 9), .inl (xI E, 120, .inl z.tm))], [((am 10), .inl (xI E, 120, .inl z.mm))], [((am 11), .inl (xJ E, 120, .inr (.inl z.se)))], [((am 12), .inl (xI E, 400, .inl z.tx))]]) 3 rfl (vp_in_nI (by omega) (by omega)) (by rw [nI_clamp (by omega)]; rfl) dX9_arrive_80 (fun H locs M => ?_)
            refine lv_aload_n S.1 S.2.1 dX9_arrive_81 rfl (lv_at hl 0 rfl) ?_
            refine gget S hE M (C := RX9) (T := TX9) (N := 28) (ci := 9) (index := 26) hwi 0 rfl rfl 9 (by decide) (by decide +kernel) rfl dX9_arrive_82 ?_
            refine lv_aload_n S.1 S.2.1 dX9_arrive_85 rfl (lv_at hl 0 rfl) ?_
            refine gget S hE M (C := RX9) (T := TX9) (N := 28) (ci := 9) (index := 78) hwi 0 rfl rfl 7 (by decide) (by decide +kernel) rfl dX9_arrive_86 ?_
            refine lv_iload S.1 S.2.1 dX9_arrive_89 (lv_at hl 4 rfl) ?_
            refine giast S hE M (Gs' := [[(am 0, .inr (9, [.ref (am 1), .ref (am 2), .int (nI z.tn), .int z.mn, .int z.mk, .int z.mg, .int z.jp, .int (nI z.ct), .ref (am 3), .ref (am 4), .ref (am 5), .ref (am 6), .int (nI z.sp), .ref (am 7), .ref (am 8), .ref (am 9), .ref (am 10), .int (b2i z.on), .int z.ba, .int z.bg, .ref (am 11), .long z.up, .long z.by_, .int z.co, .int z.po, .int z.gr, .ref (am 12), .int (nI z.wr)]))], [((am 1), .inl (xI E, 25, .inl z.sg))], [((am 2), .inl (xI E, 8, .inl z.tp))], [((am 3), .inl (xI E, 120, .inl (upd z.fr z.ct (nI n))))], [((am 4), .inl (xI E, 120, .inl (upd z.wh z.ct t)))], [((am 5), .inl (xI E, 120, .inl z.sn))], [((am 6), .inl (xI E, 300, .inl z.ca))], [((am 7), .inl (xI E, 120, .inl z.hd))], [((am 8), .inl (xI E, 120, .inl z.ps))], [((am 9), .inl (xI E, 120, .inl z.tm))], [((am 10), .inl (xI E, 120, .inl z.mm))], [((am 11), .inl (xJ E, 120, .inr (.inl z.se)))], [((am 12), .inl (xI E, 400, .inl z.tx))]]) 4 rfl (vp_in_nI (by omega) (by omega)) (by rw [nI_clamp (by omega)]; rfl) dX9_arrive_91 (fun H locs M => ?_)
            refine lv_aload_n S.1 S.2.1 dX9_arrive_92 rfl (lv_at hl 0 rfl) ?_
            refine gget S hE M (C := RX9) (T := TX9) (N := 28) (ci := 9) (index := 32) hwi 0 rfl rfl 11 (by decide) (by decide +kernel) rfl dX9_arrive_93 ?_
            refine lv_iload_n S.1 S.2.1 dX9_arrive_96 rfl (lv_at hl 1 rfl) ?_
            refine lv_aload_n S.1 S.2.1 dX9_arrive_97 rfl (lv_at hl 0 rfl) ?_
            refine gget S hE M (C := RX9) (T := TX9) (N := 28) (ci := 9) (index := 78) hwi 0 rfl rfl 7 (by decide) (by decide +kernel) rfl dX9_arrive_98 ?_
            refine giast S hE M (Gs' := [[(am 0, .inr (9, [.ref (am 1), .ref (am 2), .int (nI z.tn), .int z.mn, .int z.mk, .int z.mg, .int z.jp, .int (nI z.ct), .ref (am 3), .ref (am 4), .ref (am 5), .ref (am 6), .int (nI z.sp), .ref (am 7), .ref (am 8), .ref (am 9), .ref (am 10), .int (b2i z.on), .int z.ba, .int z.bg, .ref (am 11), .long z.up, .long z.by_, .int z.co, .int z.po, .int z.gr, .ref (am 12), .int (nI z.wr)]))], [((am 1), .inl (xI E, 25, .inl z.sg))], [((am 2), .inl (xI E, 8, .inl z.tp))], [((am 3), .inl (xI E, 120, .inl (upd z.fr z.ct (nI n))))], [((am 4), .inl (xI E, 120, .inl (upd z.wh z.ct t)))], [((am 5), .inl (xI E, 120, .inl z.sn))], [((am 6), .inl (xI E, 300, .inl (upd z.ca n (nI z.ct))))], [((am 7), .inl (xI E, 120, .inl z.hd))], [((am 8), .inl (xI E, 120, .inl z.ps))], [((am 9), .inl (xI E, 120, .inl z.tm))], [((am 10), .inl (xI E, 120, .inl z.mm))], [((am 11), .inl (xJ E, 120, .inr (.inl z.se)))], [((am 12), .inl (xI E, 400, .inl z.tx))]]) 6 rfl (vp_in_nI (by omega) (by omega)) (by rw [nI_clamp (by omega)]; rfl) dX9_arrive_101 (fun H locs M => ?_)
            refine lv_aload_n S.1 S.2.1 dX9_arrive_102 rfl (lv_at hl 0 rfl) ?_
            refine lv_dup S.1 S.2.1 dX9_arrive_103 rfl ?_
            refine gget S hE M (C := RX9) (T := TX9) (N := 28) (ci := 9) (index := 78) hwi 0 rfl rfl 7 (by decide) (by decide +kernel) rfl dX9_arrive_104 ?_
            refine lv_iconst (v := 1) S.1 S.2.1 dX9_arrive_107 (by decide) ?_
            refine lv_iadd S.1 S.2.1 dX9_arrive_108 ?_
            refine gtop (x' := nI (z.ct + 1)) (nI_1 _) ?_
            refine gput S hE M (C := RX9) (T := TX9) (N := 28) (ci := 9) (index := 78) (Gs' := [[(am 0, .inr (9, [.ref (am 1), .ref (am 2), .int (nI z.tn), .int z.mn, .int z.mk, .int z.mg, .int z.jp, .int (nI (z.ct + 1)), .ref (am 3), .ref (am 4), .ref (am 5), .ref (am 6), .int (nI z.sp), .ref (am 7), .ref (am 8), .ref (am 9), .ref (am 10), .int (b2i z.on), .int z.ba, .int z.bg, .ref (am 11), .long z.up, .long z.by_, .int z.co, .int z.po, .int z.gr, .ref (am 12), .int (nI z.wr)]))], [((am 1), .inl (xI E, 25, .inl z.sg))], [((am 2), .inl (xI E, 8, .inl z.tp))], [((am 3), .inl (xI E, 120, .inl (upd z.fr z.ct (nI n))))], [((am 4), .inl (xI E, 120, .inl (upd z.wh z.ct t)))], [((am 5), .inl (xI E, 120, .inl z.sn))], [((am 6), .inl (xI E, 300, .inl (upd z.ca n (nI z.ct))))], [((am 7), .inl (xI E, 120, .inl z.hd))], [((am 8), .inl (xI E, 120, .inl z.ps))], [((am 9), .inl (xI E, 120, .inl z.tm))], [((am 10), .inl (xI E, 120, .inl z.mm))], [((am 11), .inl (xJ E, 120, .inr (.inl z.se)))], [((am 12), .inl (xI E, 400, .inl z.tx))]]) hwi tyX9 tyX9_ok nmX9 0 rfl rfl 7 (by decide) (by decide +kernel) rfl rfl rfl (Nat.le_of_ble_eq_true rfl) rfl dX9_arrive_109 (fun H locs M => ?_)
            have M : gM E A s.heap [[(am 0, .inr (9, [.ref (am 1), .ref (am 2), .int (nI (MdS.m1 z n t).tn), .int ((MdS.m1 z n t).mn), .int ((MdS.m1 z n t).mk), .int ((MdS.m1 z n t).mg), .int ((MdS.m1 z n t).jp), .int (nI (MdS.m1 z n t).ct), .ref (am 3), .ref (am 4), .ref (am 5), .ref (am 6), .int (nI (MdS.m1 z n t).sp), .ref (am 7), .ref (am 8), .ref (am 9), .ref (am 10), .int (b2i (MdS.m1 z n t).on), .int ((MdS.m1 z n t).ba), .int ((MdS.m1 z n t).bg), .ref (am 11), .long ((MdS.m1 z n t).up), .long ((MdS.m1 z n t).by_), .int ((MdS.m1 z n t).co), .int ((MdS.m1 z n t).po), .int ((MdS.m1 z n t).gr), .ref (am 12), .int (nI (MdS.m1 z n t).wr)]))], [((am 1), .inl (xI E, 25, .inl ((MdS.m1 z n t).sg)))], [((am 2), .inl (xI E, 8, .inl ((MdS.m1 z n t).tp)))], [((am 3), .inl (xI E, 120, .inl ((MdS.m1 z n t).fr)))], [((am 4), .inl (xI E, 120, .inl ((MdS.m1 z n t).wh)))], [((am 5), .inl (xI E, 120, .inl ((MdS.m1 z n t).sn)))], [((am 6), .inl (xI E, 300, .inl ((MdS.m1 z n t).ca)))], [((am 7), .inl (xI E, 120, .inl ((MdS.m1 z n t).hd)))], [((am 8), .inl (xI E, 120, .inl ((MdS.m1 z n t).ps)))], [((am 9), .inl (xI E, 120, .inl ((MdS.m1 z n t).tm)))], [((am 10), .inl (xI E, 120, .inl ((MdS.m1 z n t).mm)))], [((am 11), .inl (xJ E, 120, .inr (.inl ((MdS.m1 z n t).se))))], [((am 12), .inl (xI E, 400, .inl ((MdS.m1 z n t).tx)))]] H locs := by exact M
            refine lv_aload_n S.1 S.2.1 dX9_arrive_112 rfl (lv_at hl 0 rfl) ?_
            refine lv_aload_n S.1 S.2.1 dX9_arrive_113 rfl (lv_at hl 0 rfl) ?_
            refine gget S hE M (C := RX9) (T := TX9) (N := 28) (ci := 9) (index := 78) hwi 0 rfl rfl 7 (by decide) (by decide +kernel) rfl dX9_arrive_114 ?_
            refine lv_iconst (v := 1) S.1 S.2.1 dX9_arrive_117 (by decide) ?_
            refine lv_isub S.1 S.2.1 dX9_arrive_118 ?_
            refine gtop (x' := nI z.ct) (nI_pred _) ?_
            refine gcallv (L := []) (Mid := modGs E am (MdS.m1 z n t)) (Rr := []) (Mid' := modGs E am (MdS.spk (MdS.m1 z n t) z.ct)) hE M rfl (rfl) (rfl) (fun hgH => va_runV (As := [.int (nI z.ct)]) (rest := []) S (c_X9_spikesBy l E am (MdS.m1 z n t) z.ct  hc1 _) (cwV 1 S.2.2.2.2 gX9_arrive_X9_spikesBy rfl rfl rfl kd_X9_spikesBy ⟨Nat.le_of_ble_eq_true rfl, Nat.le_of_ble_eq_true rfl⟩) (hgH.V hE (show vwCl[9]? = some (RX9, TX9, 28) from rfl) rfl) rfl rfl hl.1 rfl (lv_room (Nat.le_of_ble_eq_true rfl)) dX9_arrive_119 ⟨Nat.zero_le _, Nat.zero_le _⟩) (fun H locs M => ?_)
            have M : gM E A s.heap [[(am 0, .inr (9, [.ref (am 1), .ref (am 2), .int (nI (MdS.spk (MdS.m1 z n t) z.ct).tn), .int ((MdS.spk (MdS.m1 z n t) z.ct).mn), .int ((MdS.spk (MdS.m1 z n t) z.ct).mk), .int ((MdS.spk (MdS.m1 z n t) z.ct).mg), .int ((MdS.spk (MdS.m1 z n t) z.ct).jp), .int (nI (MdS.spk (MdS.m1 z n t) z.ct).ct), .ref (am 3), .ref (am 4), .ref (am 5), .ref (am 6), .int (nI (MdS.spk (MdS.m1 z n t) z.ct).sp), .ref (am 7), .ref (am 8), .ref (am 9), .ref (am 10), .int (b2i (MdS.spk (MdS.m1 z n t) z.ct).on), .int ((MdS.spk (MdS.m1 z n t) z.ct).ba), .int ((MdS.spk (MdS.m1 z n t) z.ct).bg), .ref (am 11), .long ((MdS.spk (MdS.m1 z n t) z.ct).up), .long ((MdS.spk (MdS.m1 z n t) z.ct).by_), .int ((MdS.spk (MdS.m1 z n t) z.ct).co), .int ((MdS.spk (MdS.m1 z n t) z.ct).po), .int ((MdS.spk (MdS.m1 z n t) z.ct).gr), .ref (am 12), .int (nI (MdS.spk (MdS.m1 z n t) z.ct).wr)]))], [((am 1), .inl (xI E, 25, .inl ((MdS.spk (MdS.m1 z n t) z.ct).sg)))], [((am 2), .inl (xI E, 8, .inl ((MdS.spk (MdS.m1 z n t) z.ct).tp)))], [((am 3), .inl (xI E, 120, .inl ((MdS.spk (MdS.m1 z n t) z.ct).fr)))], [((am 4), .inl (xI E, 120, .inl ((MdS.spk (MdS.m1 z n t) z.ct).wh)))], [((am 5), .inl (xI E, 120, .inl ((MdS.spk (MdS.m1 z n t) z.ct).sn)))], [((am 6), .inl (xI E, 300, .inl ((MdS.spk (MdS.m1 z n t) z.ct).ca)))], [((am 7), .inl (xI E, 120, .inl ((MdS.spk (MdS.m1 z n t) z.ct).hd)))], [((am 8), .inl (xI E, 120, .inl ((MdS.spk (MdS.m1 z n t) z.ct).ps)))], [((am 9), .inl (xI E, 120, .inl ((MdS.spk (MdS.m1 z n t) z.ct).tm)))], [((am 10), .inl (xI E, 120, .inl ((MdS.spk (MdS.m1 z n t) z.ct).mm)))], [((am 11), .inl (xJ E, 120, .inr (.inl ((MdS.spk (MdS.m1 z n t) z.ct).se))))], [((am 12), .inl (xI E, 400, .inl ((MdS.spk (MdS.m1 z n t) z.ct).tx)))]] H locs := M
            obtain ⟨y, hy⟩ : ∃ y, y = MdS.m2 z n t := ⟨_, rfl⟩
            have h2c : y.ct = z.ct + 1 := by rw [hy]; exact m2_ct z n t
            have h2s : y.sp = z.sp := by rw [hy]; exact m2_sp z n t
            have h2f : ∀ a, a < y.ct → ∃ m, m < 300 ∧ y.fr a = nI m := by rw [hy]; exact m2_fr (t := t) hn hfr
            have M : gM E A s.heap [[(am 0, .inr (9, [.ref (am 1), .ref (am 2), .int (nI y.tn), .int y.mn, .int y.mk, .int y.mg, .int y.jp, .int (nI y.ct), .ref (am 3), .ref (am 4), .ref (am 5), .ref (am 6), .int (nI y.sp), .ref (am 7), .ref (am 8), .ref (am 9), .ref (am 10), .int (b2i y.on), .int y.ba, .int y.bg, .ref (am 11), .long y.up, .long y.by_, .int y.co, .int y.po, .int y.gr, .ref (am 12), .int (nI y.wr)]))], [((am 1), .inl (xI E, 25, .inl y.sg))], [((am 2), .inl (xI E, 8, .inl y.tp))], [((am 3), .inl (xI E, 120, .inl y.fr))], [((am 4), .inl (xI E, 120, .inl y.wh))], [((am 5), .inl (xI E, 120, .inl y.sn))], [((am 6), .inl (xI E, 300, .inl y.ca))], [((am 7), .inl (xI E, 120, .inl y.hd))], [((am 8), .inl (xI E, 120, .inl y.ps))], [((am 9), .inl (xI E, 120, .inl y.tm))], [((am 10), .inl (xI E, 120, .inl y.mm))], [((am 11), .inl (xJ E, 120, .inr (.inl y.se)))], [((am 12), .inl (xI E, 400, .inl y.tx))]] H locs := by rw [hy]; exact M
            refine lv_aload_n S.1 S.2.1 dX9_arrive_122 rfl (lv_at hl 0 rfl) ?_
            refine lv_iload_n S.1 S.2.1 dX9_arrive_123 rfl (lv_at hl 2 rfl) ?_
            refine gcalli (L := []) (Mid := modGs E am y) (Rr := []) (Mid' := modGs E am y) hE M rfl (rfl) (rfl) (fun hgH => va_runV (As := [.int h]) (rest := []) S (c_X9_spurtBy l E am y h  (by omega) _) (cwV 1 S.2.2.2.2 gX9_arrive_X9_spurtBy rfl rfl rfl kd_X9_spurtBy ⟨Nat.le_of_ble_eq_true rfl, Nat.le_of_ble_eq_true rfl⟩) (hgH.V hE (show vwCl[9]? = some (RX9, TX9, 28) from rfl) rfl) rfl rfl hl.1 rfl (lv_room (Nat.le_of_ble_eq_true rfl)) dX9_arrive_124 ⟨Nat.zero_le _, Nat.zero_le _⟩) (fun H locs M => ?_)
            have M : gM E A s.heap [[(am 0, .inr (9, [.ref (am 1), .ref (am 2), .int (nI y.tn), .int y.mn, .int y.mk, .int y.mg, .int y.jp, .int (nI y.ct), .ref (am 3), .ref (am 4), .ref (am 5), .ref (am 6), .int (nI y.sp), .ref (am 7), .ref (am 8), .ref (am 9), .ref (am 10), .int (b2i y.on), .int y.ba, .int y.bg, .ref (am 11), .long y.up, .long y.by_, .int y.co, .int y.po, .int y.gr, .ref (am 12), .int (nI y.wr)]))], [((am 1), .inl (xI E, 25, .inl y.sg))], [((am 2), .inl (xI E, 8, .inl y.tp))], [((am 3), .inl (xI E, 120, .inl y.fr))], [((am 4), .inl (xI E, 120, .inl y.wh))], [((am 5), .inl (xI E, 120, .inl y.sn))], [((am 6), .inl (xI E, 300, .inl y.ca))], [((am 7), .inl (xI E, 120, .inl y.hd))], [((am 8), .inl (xI E, 120, .inl y.ps))], [((am 9), .inl (xI E, 120, .inl y.tm))], [((am 10), .inl (xI E, 120, .inl y.mm))], [((am 11), .inl (xJ E, 120, .inr (.inl y.se)))], [((am 12), .inl (xI E, 400, .inl y.tx))]] H locs := M
            refine lv_istore (lv' := [(5, .int (y.spurtBy h)), (0, .ref (am 0)), (1, .int (nI n)), (2, .int h), (3, .int p), (4, .int t)]) S.1 S.2.1 dX9_arrive_127 hl (by decide) rfl (fun ls hl => ?_)
            refine lv_iload S.1 S.2.1 dX9_arrive_129 (lv_at hl 0 rfl) ?_
            refine lv_bipush (v := (-9)) S.1 S.2.1 dX9_arrive_131 (by decide) ?_
            refine lv_icmp_ne (tgt := 192) S.1 S.2.1 dX9_arrive_133 (by decide) (fun c133 => ?_) (fun c133 => ?_)
            ·
              have M : gM E A s.heap [[(am 0, .inr (9, [.ref (am 1), .ref (am 2), .int (nI y.tn), .int y.mn, .int y.mk, .int y.mg, .int y.jp, .int (nI y.ct), .ref (am 3), .ref (am 4), .ref (am 5), .ref (am 6), .int (nI y.sp), .ref (am 7), .ref (am 8), .ref (am 9), .ref (am 10), .int (b2i y.on), .int y.ba, .int y.bg, .ref (am 11), .long y.up, .long y.by_, .int y.co, .int y.po, .int y.gr, .ref (am 12), .int (nI y.wr)]))], [((am 1), .inl (xI E, 25, .inl y.sg))], [((am 2), .inl (xI E, 8, .inl y.tp))], [((am 3), .inl (xI E, 120, .inl y.fr))], [((am 4), .inl (xI E, 120, .inl y.wh))], [((am 5), .inl (xI E, 120, .inl y.sn))], [((am 6), .inl (xI E, 300, .inl y.ca))], [((am 7), .inl (xI E, 120, .inl y.hd))], [((am 8), .inl (xI E, 120, .inl y.ps))], [((am 9), .inl (xI E, 120, .inl y.tm))], [((am 10), .inl (xI E, 120, .inl y.mm))], [((am 11), .inl (xJ E, 120, .inr (.inl y.se)))], [((am 12), .inl (xI E, 400, .inl y.tx))]] H locs := by exact M
              refine lv_aload_n S.1 S.2.1 dX9_arrive_192 rfl (lv_at hl 1 rfl) ?_
              refine gget S hE M (C := RX9) (T := TX9) (N := 28) (ci := 9) (index := 29) hwi 0 rfl rfl 10 (by decide) (by decide +kernel) rfl dX9_arrive_193 ?_
              refine lv_aload_n S.1 S.2.1 dX9_arrive_196 rfl (lv_at hl 1 rfl) ?_
              refine gget S hE M (C := RX9) (T := TX9) (N := 28) (ci := 9) (index := 78) hwi 0 rfl rfl 7 (by decide) (by decide +kernel) rfl dX9_arrive_197 ?_
              refine lv_iconst (v := 1) S.1 S.2.1 dX9_arrive_200 (by decide) ?_
              refine lv_isub S.1 S.2.1 dX9_arrive_201 ?_
              refine gtop (x' := nI (y.ct - 1)) (nI_dec (by omega)) ?_
              refine lv_iload S.1 S.2.1 dX9_arrive_202 (lv_at hl 0 rfl) ?_
              refine giast S hE M (Gs' := [[(am 0, .inr (9, [.ref (am 1), .ref (am 2), .int (nI y.tn), .int y.mn, .int y.mk, .int y.mg, .int y.jp, .int (nI y.ct), .ref (am 3), .ref (am 4), .ref (am 5), .ref (am 6), .int (nI y.sp), .ref (am 7), .ref (am 8), .ref (am 9), .ref (am 10), .int (b2i y.on), .int y.ba, .int y.bg, .ref (am 11), .long y.up, .long y.by_, .int y.co, .int y.po, .int y.gr, .ref (am 12), .int (nI y.wr)]))], [((am 1), .inl (xI E, 25, .inl y.sg))], [((am 2), .inl (xI E, 8, .inl y.tp))], [((am 3), .inl (xI E, 120, .inl y.fr))], [((am 4), .inl (xI E, 120, .inl y.wh))], [((am 5), .inl (xI E, 120, .inl (upd y.sn (y.ct - 1) (y.spurtBy h))))], [((am 6), .inl (xI E, 300, .inl y.ca))], [((am 7), .inl (xI E, 120, .inl y.hd))], [((am 8), .inl (xI E, 120, .inl y.ps))], [((am 9), .inl (xI E, 120, .inl y.tm))], [((am 10), .inl (xI E, 120, .inl y.mm))], [((am 11), .inl (xJ E, 120, .inr (.inl y.se)))], [((am 12), .inl (xI E, 400, .inl y.tx))]]) 5 rfl (vp_in_nI (by omega) (by omega)) (by rw [nI_clamp (by omega)]; rfl) dX9_arrive_204 (fun H locs M => ?_)
              refine lv_iload S.1 S.2.1 dX9_arrive_205 (lv_at hl 0 rfl) ?_
              have he : MdS.arrive z (nI n) h p t = (y.spurtBy h, ((y.sg, y.tp, y.tn, y.mn, y.mk, y.mg, y.jp, y.ct, y.fr, y.wh, upd y.sn (y.ct - 1) (y.spurtBy h), y.ca, y.sp, y.hd, y.ps, y.tm, y.mm, y.on, y.ba, y.bg, y.se, y.up, y.by_, y.co, y.po, y.gr, y.tx, y.wr) : MdS)) := by unfold MdS.arrive; rw [if_neg h8, if_neg c17, if_neg c26, if_neg c38, nI_clamp (by omega)]; unfold MdS.arr1; rw [if_pos c53, if_neg c65]; unfold MdS.let_in; rw [← hy]; unfold MdS.let2; rw [if_neg c133] <;> rfl
              exact giret S hr hlk M (by rw [he]) (by rw [he]; rfl) dX9_arrive_207
            ·
              refine lv_aload_n S.1 S.2.1 dX9_arrive_136 rfl (lv_at hl 1 rfl) ?_
              refine gget S hE M (C := RX9) (T := TX9) (N := 28) (ci := 9) (index := 75) hwi 0 rfl rfl 12 (by decide) (by decide +kernel) rfl dX9_arrive_137 ?_
              refine lv_istore (lv' := [(5, .int (nI y.sp)), (0, .ref (am 0)), (1, .int (nI n)), (2, .int h), (3, .int p), (4, .int t)]) S.1 S.2.1 dX9_arrive_140 hl (by decide) rfl (fun ls hl => ?_)
              refine lv_aload_n S.1 S.2.1 dX9_arrive_142 rfl (lv_at hl 1 rfl) ?_
              refine gget S hE M (C := RX9) (T := TX9) (N := 28) (ci := 9) (index := 35) hwi 0 rfl rfl 13 (by decide) (by decide +kernel) rfl dX9_arrive_143 ?_
              refine lv_iload S.1 S.2.1 dX9_arrive_146 (lv_at hl 0 rfl) ?_
              refine lv_iload_n S.1 S.2.1 dX9_arrive_148 rfl (lv_at hl 3 rfl) ?_
              refine giast S hE M (Gs' := [[(am 0, .inr (9, [.ref (am 1), .ref (am 2), .int (nI y.tn), .int y.mn, .int y.mk, .int y.mg, .int y.jp, .int (nI y.ct), .ref (am 3), .ref (am 4), .ref (am 5), .ref (am 6), .int (nI y.sp), .ref (am 7), .ref (am 8), .ref (am 9), .ref (am 10), .int (b2i y.on), .int y.ba, .int y.bg, .ref (am 11), .long y.up, .long y.by_, .int y.co, .int y.po, .int y.gr, .ref (am 12), .int (nI y.wr)]))], [((am 1), .inl (xI E, 25, .inl y.sg))], [((am 2), .inl (xI E, 8, .inl y.tp))], [((am 3), .inl (xI E, 120, .inl y.fr))], [((am 4), .inl (xI E, 120, .inl y.wh))], [((am 5), .inl (xI E, 120, .inl y.sn))], [((am 6), .inl (xI E, 300, .inl y.ca))], [((am 7), .inl (xI E, 120, .inl (upd y.hd y.sp h)))], [((am 8), .inl (xI E, 120, .inl y.ps))], [((am 9), .inl (xI E, 120, .inl y.tm))], [((am 10), .inl (xI E, 120, .inl y.mm))], [((am 11), .inl (xJ E, 120, .inr (.inl y.se)))], [((am 12), .inl (xI E, 400, .inl y.tx))]]) 7 rfl (vp_in_nI (by omega) (by omega)) (by rw [nI_clamp (by omega)]; rfl) dX9_arrive_149 (fun H locs M => ?_)
              refine lv_aload_n S.1 S.2.1 dX9_arrive_150 rfl (lv_at hl 1 rfl) ?_
              refine gget S hE M (C := RX9) (T := TX9) (N := 28) (ci := 9) (index := 38) hwi 0 rfl rfl 14 (by decide) (by decide +kernel) rfl dX9_arrive_151 ?_
              refine lv_iload S.1 S.2.1 dX9_arrive_154 (lv_at hl 0 rfl) ?_
              refine lv_iload_n S.1 S.2.1 dX9_arrive_156 rfl (lv_at hl 4 rfl) ?_
              refine giast S hE M (Gs' := [[(am 0, .inr (9, [.ref (am 1), .ref (am 2), .int (nI y.tn), .int y.mn, .int y.mk, .int y.mg, .int y.jp, .int (nI y.ct), .ref (am 3), .ref (am 4), .ref (am 5), .ref (am 6), .int (nI y.sp), .ref (am 7), .ref (am 8), .ref (am 9), .ref (am 10), .int (b2i y.on), .int y.ba, .int y.bg, .ref (am 11), .long y.up, .long y.by_, .int y.co, .int y.po, .int y.gr, .ref (am 12), .int (nI y.wr)]))], [((am 1), .inl (xI E, 25, .inl y.sg))], [((am 2), .inl (xI E, 8, .inl y.tp))], [((am 3), .inl (xI E, 120, .inl y.fr))], [((am 4), .inl (xI E, 120, .inl y.wh))], [((am 5), .inl (xI E, 120, .inl y.sn))], [((am 6), .inl (xI E, 300, .inl y.ca))], [((am 7), .inl (xI E, 120, .inl (upd y.hd y.sp h)))], [((am 8), .inl (xI E, 120, .inl (upd y.ps y.sp p)))], [((am 9), .inl (xI E, 120, .inl y.tm))], [((am 10), .inl (xI E, 120, .inl y.mm))], [((am 11), .inl (xJ E, 120, .inr (.inl y.se)))], [((am 12), .inl (xI E, 400, .inl y.tx))]]) 8 rfl (vp_in_nI (by omega) (by omega)) (by rw [nI_clamp (by omega)]; rfl) dX9_arrive_157 (fun H locs M => ?_)
              refine lv_aload_n S.1 S.2.1 dX9_arrive_158 rfl (lv_at hl 1 rfl) ?_
              refine gget S hE M (C := RX9) (T := TX9) (N := 28) (ci := 9) (index := 44) hwi 0 rfl rfl 16 (by decide) (by decide +kernel) rfl dX9_arrive_159 ?_
              refine lv_iload S.1 S.2.1 dX9_arrive_162 (lv_at hl 0 rfl) ?_
              refine lv_aload_n S.1 S.2.1 dX9_arrive_164 rfl (lv_at hl 1 rfl) ?_
              refine gget S hE M (C := RX9) (T := TX9) (N := 28) (ci := 9) (index := 69) hwi 0 rfl rfl 3 (by decide) (by decide +kernel) rfl dX9_arrive_165 ?_
              refine giast S hE M (Gs' := [[(am 0, .inr (9, [.ref (am 1), .ref (am 2), .int (nI y.tn), .int y.mn, .int y.mk, .int y.mg, .int y.jp, .int (nI y.ct), .ref (am 3), .ref (am 4), .ref (am 5), .ref (am 6), .int (nI y.sp), .ref (am 7), .ref (am 8), .ref (am 9), .ref (am 10), .int (b2i y.on), .int y.ba, .int y.bg, .ref (am 11), .long y.up, .long y.by_, .int y.co, .int y.po, .int y.gr, .ref (am 12), .int (nI y.wr)]))], [((am 1), .inl (xI E, 25, .inl y.sg))], [((am 2), .inl (xI E, 8, .inl y.tp))], [((am 3), .inl (xI E, 120, .inl y.fr))], [((am 4), .inl (xI E, 120, .inl y.wh))], [((am 5), .inl (xI E, 120, .inl y.sn))], [((am 6), .inl (xI E, 300, .inl y.ca))], [((am 7), .inl (xI E, 120, .inl (upd y.hd y.sp h)))], [((am 8), .inl (xI E, 120, .inl (upd y.ps y.sp p)))], [((am 9), .inl (xI E, 120, .inl y.tm))], [((am 10), .inl (xI E, 120, .inl (upd y.mm y.sp y.mn)))], [((am 11), .inl (xJ E, 120, .inr (.inl y.se)))], [((am 12), .inl (xI E, 400, .inl y.tx))]]) 10 rfl (vp_in_nI (by omega) (by omega)) (by rw [nI_clamp (by omega)]; rfl) dX9_arrive_168 (fun H locs M => ?_)
              have M : gM E A s.heap [[(am 0, .inr (9, [.ref (am 1), .ref (am 2), .int (nI (MdS.m3 y h p).tn), .int ((MdS.m3 y h p).mn), .int ((MdS.m3 y h p).mk), .int ((MdS.m3 y h p).mg), .int ((MdS.m3 y h p).jp), .int (nI (MdS.m3 y h p).ct), .ref (am 3), .ref (am 4), .ref (am 5), .ref (am 6), .int (nI (MdS.m3 y h p).sp), .ref (am 7), .ref (am 8), .ref (am 9), .ref (am 10), .int (b2i (MdS.m3 y h p).on), .int ((MdS.m3 y h p).ba), .int ((MdS.m3 y h p).bg), .ref (am 11), .long ((MdS.m3 y h p).up), .long ((MdS.m3 y h p).by_), .int ((MdS.m3 y h p).co), .int ((MdS.m3 y h p).po), .int ((MdS.m3 y h p).gr), .ref (am 12), .int (nI (MdS.m3 y h p).wr)]))], [((am 1), .inl (xI E, 25, .inl ((MdS.m3 y h p).sg)))], [((am 2), .inl (xI E, 8, .inl ((MdS.m3 y h p).tp)))], [((am 3), .inl (xI E, 120, .inl ((MdS.m3 y h p).fr)))], [((am 4), .inl (xI E, 120, .inl ((MdS.m3 y h p).wh)))], [((am 5), .inl (xI E, 120, .inl ((MdS.m3 y h p).sn)))], [((am 6), .inl (xI E, 300, .inl ((MdS.m3 y h p).ca)))], [((am 7), .inl (xI E, 120, .inl ((MdS.m3 y h p).hd)))], [((am 8), .inl (xI E, 120, .inl ((MdS.m3 y h p).ps)))], [((am 9), .inl (xI E, 120, .inl ((MdS.m3 y h p).tm)))], [((am 10), .inl (xI E, 120, .inl ((MdS.m3 y h p).mm)))], [((am 11), .inl (xJ E, 120, .inr (.inl ((MdS.m3 y h p).se))))], [((am 12), .inl (xI E, 400, .inl ((MdS.m3 y h p).tx)))]] H locs := by exact M
              refine lv_aload_n S.1 S.2.1 dX9_arrive_169 rfl (lv_at hl 1 rfl) ?_
              refine gget S hE M (C := RX9) (T := TX9) (N := 28) (ci := 9) (index := 41) hwi 0 rfl rfl 15 (by decide) (by decide +kernel) rfl dX9_arrive_170 ?_
              refine lv_iload S.1 S.2.1 dX9_arrive_173 (lv_at hl 0 rfl) ?_
              refine lv_aload_n S.1 S.2.1 dX9_arrive_175 rfl (lv_at hl 1 rfl) ?_
              refine lv_iload_n S.1 S.2.1 dX9_arrive_176 rfl (lv_at hl 3 rfl) ?_
              refine lv_iload_n S.1 S.2.1 dX9_arrive_177 rfl (lv_at hl 4 rfl) ?_
              refine gcalli (L := []) (Mid := modGs E am (MdS.m3 y h p)) (Rr := []) (Mid' := modGs E am ((MdS.m3 y h p).wsh h)) hE M rfl (rfl) (rfl) (fun hgH => va_runV (As := [.int h, .int p]) (rest := [.int (nI y.sp), .ref (am 9)]) S (c_X9_timeFor l E am (MdS.m3 y h p) h p  (show y.ct ≤ 120 by omega) h2f (show y.sp ≤ 120 by omega) (show 0 < y.ct by omega) _) (cwV 2 S.2.2.2.2 gX9_arrive_X9_timeFor rfl rfl rfl kd_X9_timeFor ⟨Nat.le_of_ble_eq_true rfl, Nat.le_of_ble_eq_true rfl⟩) (hgH.V hE (show vwCl[9]? = some (RX9, TX9, 28) from rfl) rfl) rfl rfl hl.1 rfl (lv_room (Nat.le_of_ble_eq_true rfl)) dX9_arrive_178 ⟨Nat.zero_le _, Nat.zero_le _⟩) (fun H locs M => ?_)
              have M : gM E A s.heap [[(am 0, .inr (9, [.ref (am 1), .ref (am 2), .int (nI ((MdS.m3 y h p).wsh h).tn), .int (((MdS.m3 y h p).wsh h).mn), .int (((MdS.m3 y h p).wsh h).mk), .int (((MdS.m3 y h p).wsh h).mg), .int (((MdS.m3 y h p).wsh h).jp), .int (nI ((MdS.m3 y h p).wsh h).ct), .ref (am 3), .ref (am 4), .ref (am 5), .ref (am 6), .int (nI ((MdS.m3 y h p).wsh h).sp), .ref (am 7), .ref (am 8), .ref (am 9), .ref (am 10), .int (b2i ((MdS.m3 y h p).wsh h).on), .int (((MdS.m3 y h p).wsh h).ba), .int (((MdS.m3 y h p).wsh h).bg), .ref (am 11), .long (((MdS.m3 y h p).wsh h).up), .long (((MdS.m3 y h p).wsh h).by_), .int (((MdS.m3 y h p).wsh h).co), .int (((MdS.m3 y h p).wsh h).po), .int (((MdS.m3 y h p).wsh h).gr), .ref (am 12), .int (nI ((MdS.m3 y h p).wsh h).wr)]))], [((am 1), .inl (xI E, 25, .inl (((MdS.m3 y h p).wsh h).sg)))], [((am 2), .inl (xI E, 8, .inl (((MdS.m3 y h p).wsh h).tp)))], [((am 3), .inl (xI E, 120, .inl (((MdS.m3 y h p).wsh h).fr)))], [((am 4), .inl (xI E, 120, .inl (((MdS.m3 y h p).wsh h).wh)))], [((am 5), .inl (xI E, 120, .inl (((MdS.m3 y h p).wsh h).sn)))], [((am 6), .inl (xI E, 300, .inl (((MdS.m3 y h p).wsh h).ca)))], [((am 7), .inl (xI E, 120, .inl (((MdS.m3 y h p).wsh h).hd)))], [((am 8), .inl (xI E, 120, .inl (((MdS.m3 y h p).wsh h).ps)))], [((am 9), .inl (xI E, 120, .inl (((MdS.m3 y h p).wsh h).tm)))], [((am 10), .inl (xI E, 120, .inl (((MdS.m3 y h p).wsh h).mm)))], [((am 11), .inl (xJ E, 120, .inr (.inl (((MdS.m3 y h p).wsh h).se))))], [((am 12), .inl (xI E, 400, .inl (((MdS.m3 y h p).wsh h).tx)))]] H locs := M
              obtain ⟨x, hx⟩ : ∃ x, x = MdS.wsh (MdS.m3 y h p) h := ⟨_, rfl⟩
              have hxs : x.sp = y.sp := by rw [hx, wsh_sp]; rfl
              have hxc : x.ct = y.ct := by rw [hx, wsh_ct]; rfl
              have M : gM E A s.heap [[(am 0, .inr (9, [.ref (am 1), .ref (am 2), .int (nI x.tn), .int x.mn, .int x.mk, .int x.mg, .int x.jp, .int (nI x.ct), .ref (am 3), .ref (am 4), .ref (am 5), .ref (am 6), .int (nI x.sp), .ref (am 7), .ref (am 8), .ref (am 9), .ref (am 10), .int (b2i x.on), .int x.ba, .int x.bg, .ref (am 11), .long x.up, .long x.by_, .int x.co, .int x.po, .int x.gr, .ref (am 12), .int (nI x.wr)]))], [((am 1), .inl (xI E, 25, .inl x.sg))], [((am 2), .inl (xI E, 8, .inl x.tp))], [((am 3), .inl (xI E, 120, .inl x.fr))], [((am 4), .inl (xI E, 120, .inl x.wh))], [((am 5), .inl (xI E, 120, .inl x.sn))], [((am 6), .inl (xI E, 300, .inl x.ca))], [((am 7), .inl (xI E, 120, .inl x.hd))], [((am 8), .inl (xI E, 120, .inl x.ps))], [((am 9), .inl (xI E, 120, .inl x.tm))], [((am 10), .inl (xI E, 120, .inl x.mm))], [((am 11), .inl (xJ E, 120, .inr (.inl x.se)))], [((am 12), .inl (xI E, 400, .inl x.tx))]] H locs := by rw [hx]; exact M
              refine giast S hE M (Gs' := [[(am 0, .inr (9, [.ref (am 1), .ref (am 2), .int (nI x.tn), .int x.mn, .int x.mk, .int x.mg, .int x.jp, .int (nI x.ct), .ref (am 3), .ref (am 4), .ref (am 5), .ref (am 6), .int (nI x.sp), .ref (am 7), .ref (am 8), .ref (am 9), .ref (am 10), .int (b2i x.on), .int x.ba, .int x.bg, .ref (am 11), .long x.up, .long x.by_, .int x.co, .int x.po, .int x.gr, .ref (am 12), .int (nI x.wr)]))], [((am 1), .inl (xI E, 25, .inl x.sg))], [((am 2), .inl (xI E, 8, .inl x.tp))], [((am 3), .inl (xI E, 120, .inl x.fr))], [((am 4), .inl (xI E, 120, .inl x.wh))], [((am 5), .inl (xI E, 120, .inl x.sn))], [((am 6), .inl (xI E, 300, .inl x.ca))], [((am 7), .inl (xI E, 120, .inl x.hd))], [((am 8), .inl (xI E, 120, .inl x.ps))], [((am 9), .inl (xI E, 120, .inl (upd x.tm y.sp ((MdS.m3 y h p).timeFor h p))))], [((am 10), .inl (xI E, 120, .inl x.mm))], [((am 11), .inl (xJ E, 120, .inr (.inl x.se)))], [((am 12), .inl (xI E, 400, .inl x.tx))]]) 9 rfl (vp_in_nI (by omega) (by omega)) (by rw [nI_clamp (by omega)]; rfl) dX9_arrive_181 (fun H locs M => ?_)
              refine lv_aload_n S.1 S.2.1 dX9_arrive_182 rfl (lv_at hl 1 rfl) ?_
              refine lv_dup S.1 S.2.1 dX9_arrive_183 rfl ?_
              refine gget S hE M (C := RX9) (T := TX9) (N := 28) (ci := 9) (index := 75) hwi 0 rfl rfl 12 (by decide) (by decide +kernel) rfl dX9_arrive_184 ?_
              refine lv_iconst (v := 1) S.1 S.2.1 dX9_arrive_187 (by decide) ?_
              refine lv_iadd S.1 S.2.1 dX9_arrive_188 ?_
              refine gtop (x' := nI (x.sp + 1)) (nI_1 _) ?_
              refine gput S hE M (C := RX9) (T := TX9) (N := 28) (ci := 9) (index := 75) (Gs' := [[(am 0, .inr (9, [.ref (am 1), .ref (am 2), .int (nI x.tn), .int x.mn, .int x.mk, .int x.mg, .int x.jp, .int (nI x.ct), .ref (am 3), .ref (am 4), .ref (am 5), .ref (am 6), .int (nI (x.sp + 1)), .ref (am 7), .ref (am 8), .ref (am 9), .ref (am 10), .int (b2i x.on), .int x.ba, .int x.bg, .ref (am 11), .long x.up, .long x.by_, .int x.co, .int x.po, .int x.gr, .ref (am 12), .int (nI x.wr)]))], [((am 1), .inl (xI E, 25, .inl x.sg))], [((am 2), .inl (xI E, 8, .inl x.tp))], [((am 3), .inl (xI E, 120, .inl x.fr))], [((am 4), .inl (xI E, 120, .inl x.wh))], [((am 5), .inl (xI E, 120, .inl x.sn))], [((am 6), .inl (xI E, 300, .inl x.ca))], [((am 7), .inl (xI E, 120, .inl x.hd))], [((am 8), .inl (xI E, 120, .inl x.ps))], [((am 9), .inl (xI E, 120, .inl (upd x.tm y.sp ((MdS.m3 y h p).timeFor h p))))], [((am 10), .inl (xI E, 120, .inl x.mm))], [((am 11), .inl (xJ E, 120, .inr (.inl x.se)))], [((am 12), .inl (xI E, 400, .inl x.tx))]]) hwi tyX9 tyX9_ok nmX9 0 rfl rfl 12 (by decide) (by decide +kernel) rfl rfl rfl (Nat.le_of_ble_eq_true rfl) rfl dX9_arrive_189 (fun H locs M => ?_)
              obtain ⟨w, hw⟩ : ∃ w, w = MdS.m4w x y.sp (MdS.timeFor (MdS.m3 y h p) h p) := ⟨_, rfl⟩
              have hm : MdS.m4 y h p = w := by unfold MdS.m4; rw [← hx, hw]
              have hwc : w.ct = y.ct := by rw [hw]; exact hxc
              have M : gM E A s.heap [[(am 0, .inr (9, [.ref (am 1), .ref (am 2), .int (nI w.tn), .int w.mn, .int w.mk, .int w.mg, .int w.jp, .int (nI w.ct), .ref (am 3), .ref (am 4), .ref (am 5), .ref (am 6), .int (nI w.sp), .ref (am 7), .ref (am 8), .ref (am 9), .ref (am 10), .int (b2i w.on), .int w.ba, .int w.bg, .ref (am 11), .long w.up, .long w.by_, .int w.co, .int w.po, .int w.gr, .ref (am 12), .int (nI w.wr)]))], [((am 1), .inl (xI E, 25, .inl w.sg))], [((am 2), .inl (xI E, 8, .inl w.tp))], [((am 3), .inl (xI E, 120, .inl w.fr))], [((am 4), .inl (xI E, 120, .inl w.wh))], [((am 5), .inl (xI E, 120, .inl w.sn))], [((am 6), .inl (xI E, 300, .inl w.ca))], [((am 7), .inl (xI E, 120, .inl w.hd))], [((am 8), .inl (xI E, 120, .inl w.ps))], [((am 9), .inl (xI E, 120, .inl w.tm))], [((am 10), .inl (xI E, 120, .inl w.mm))], [((am 11), .inl (xJ E, 120, .inr (.inl w.se)))], [((am 12), .inl (xI E, 400, .inl w.tx))]] H locs := by rw [hw]; exact M
              refine lv_aload_n S.1 S.2.1 dX9_arrive_192 rfl (lv_at hl 1 rfl) ?_
              refine gget S hE M (C := RX9) (T := TX9) (N := 28) (ci := 9) (index := 29) hwi 0 rfl rfl 10 (by decide) (by decide +kernel) rfl dX9_arrive_193 ?_
              refine lv_aload_n S.1 S.2.1 dX9_arrive_196 rfl (lv_at hl 1 rfl) ?_
              refine gget S hE M (C := RX9) (T := TX9) (N := 28) (ci := 9) (index := 78) hwi 0 rfl rfl 7 (by decide) (by decide +kernel) rfl dX9_arrive_197 ?_
              refine lv_iconst (v := 1) S.1 S.2.1 dX9_arrive_200 (by decide) ?_
              refine lv_isub S.1 S.2.1 dX9_arrive_201 ?_
              refine gtop (x' := nI (w.ct - 1)) (nI_dec (by omega)) ?_
              refine lv_iload S.1 S.2.1 dX9_arrive_202 (lv_at hl 0 rfl) ?_
              refine giast S hE M (Gs' := [[(am 0, .inr (9, [.ref (am 1), .ref (am 2), .int (nI w.tn), .int w.mn, .int w.mk, .int w.mg, .int w.jp, .int (nI w.ct), .ref (am 3), .ref (am 4), .ref (am 5), .ref (am 6), .int (nI w.sp), .ref (am 7), .ref (am 8), .ref (am 9), .ref (am 10), .int (b2i w.on), .int w.ba, .int w.bg, .ref (am 11), .long w.up, .long w.by_, .int w.co, .int w.po, .int w.gr, .ref (am 12), .int (nI w.wr)]))], [((am 1), .inl (xI E, 25, .inl w.sg))], [((am 2), .inl (xI E, 8, .inl w.tp))], [((am 3), .inl (xI E, 120, .inl w.fr))], [((am 4), .inl (xI E, 120, .inl w.wh))], [((am 5), .inl (xI E, 120, .inl (upd w.sn (w.ct - 1) (nI y.sp))))], [((am 6), .inl (xI E, 300, .inl w.ca))], [((am 7), .inl (xI E, 120, .inl w.hd))], [((am 8), .inl (xI E, 120, .inl w.ps))], [((am 9), .inl (xI E, 120, .inl w.tm))], [((am 10), .inl (xI E, 120, .inl w.mm))], [((am 11), .inl (xJ E, 120, .inr (.inl w.se)))], [((am 12), .inl (xI E, 400, .inl w.tx))]]) 5 rfl (vp_in_nI (by omega) (by omega)) (by rw [nI_clamp (by omega)]; rfl) dX9_arrive_204 (fun H locs M => ?_)
              refine lv_iload S.1 S.2.1 dX9_arrive_205 (lv_at hl 0 rfl) ?_
              have he : MdS.arrive z (nI n) h p t = (nI y.sp, ((w.sg, w.tp, w.tn, w.mn, w.mk, w.mg, w.jp, w.ct, w.fr, w.wh, upd w.sn (w.ct - 1) (nI y.sp), w.ca, w.sp, w.hd, w.ps, w.tm, w.mm, w.on, w.ba, w.bg, w.se, w.up, w.by_, w.co, w.po, w.gr, w.tx, w.wr) : MdS)) := by unfold MdS.arrive; rw [if_neg h8, if_neg c17, if_neg c26, if_neg c38, nI_clamp (by omega)]; unfold MdS.arr1; rw [if_pos c53, if_neg c65]; unfold MdS.let_in; rw [← hy]; unfold MdS.let2; rw [if_pos c133, hm] <;> rfl
              exact giret S hr hlk M (by rw [he]) (by rw [he]; rfl) dX9_arrive_207
          ·
            refine lv_bipush (v := (-4)) S.1 S.2.1 dX9_arrive_68 (by decide) ?_
            have he : MdS.arrive z (nI n) h p t = ((-4), z) := by unfold MdS.arrive; rw [if_neg h8, if_neg c17, if_neg c26, if_neg c38, nI_clamp (by omega)]; unfold MdS.arr1; rw [if_pos c53, if_pos c65]
            exact giret S hr hlk M (by rw [he]) (by rw [he]; rfl) dX9_arrive_70
        ·
          refine lv_bipush (v := (-3)) S.1 S.2.1 dX9_arrive_56 (by decide) ?_
          have he : MdS.arrive z (nI n) h p t = ((-3), z) := by unfold MdS.arrive; rw [if_neg h8, if_neg c17, if_neg c26, if_neg c38, nI_clamp (by omega)]; unfold MdS.arr1; rw [if_neg c53]
          exact giret S hr hlk M (by rw [he]) (by rw [he]; rfl) dX9_arrive_58
      ·
        refine lv_bipush (v := (-2)) S.1 S.2.1 dX9_arrive_41 (by decide) ?_
        have he : MdS.arrive z (nI n) h p t = ((-2), z) := by unfold MdS.arrive; rw [if_neg h8, if_neg c17, if_neg c26, if_pos c38]
        exact giret S hr hlk M (by rw [he]) (by rw [he]; rfl) dX9_arrive_43
