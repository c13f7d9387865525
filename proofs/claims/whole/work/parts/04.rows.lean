theorem kd_X0_delayAt : yX0_delayAt.cls = RX0 ∧ yX0_delayAt.cls ≠ "java/lang/invoke/MethodHandle" ∧ yX0_delayAt.cls ≠ "java/lang/invoke/VarHandle" ∧ (parseMethodDescriptor yX0_delayAt.desc).map (fun d => d.parameters.length) = some 1 := by decide +kernel
theorem kd_X2_get : yX2_get.cls = RX2 ∧ yX2_get.cls ≠ "java/lang/invoke/MethodHandle" ∧ yX2_get.cls ≠ "java/lang/invoke/VarHandle" ∧ (parseMethodDescriptor yX2_get.desc).map (fun d => d.parameters.length) = some 1 := by decide +kernel
theorem kd_X2_set : yX2_set.cls = RX2 ∧ yX2_set.cls ≠ "java/lang/invoke/MethodHandle" ∧ yX2_set.cls ≠ "java/lang/invoke/VarHandle" ∧ (parseMethodDescriptor yX2_set.desc).map (fun d => d.parameters.length) = some 2 := by decide +kernel
set_option maxHeartbeats 4000000 in
set_option maxRecDepth 100000 in
theorem c_X2_get (l : Launch) (E : xE) (h a n : Nat) (f : Nat → Int32) (i : Int32) (hn : n < 2 ^ 31) : mI l yX2_get wsX2_get (xrm 0 0) E [.ref h, .int i] (rowGs E h a n f) (rg n f i) (rowGs E h a n f) := by
  intro sz
  refine Met.ofW (cc := cX2_get) (maxL := 2) (ret := (some .int)) (by decide +kernel) rfl ?_
  intro vp ve s vm args below meth vc s₁ B hml hv
  obtain ⟨rfl, S, hr, hlk, hnm, A, hA, hE, M⟩ := genter B hml hv
  rw [hA]
  obtain ⟨ls, hfr, hl⟩ := gst (m := vm) (as := [.ref h, .int i]) (n := 2) (Nat.le_of_ble_eq_true rfl)
  rw [hfr]
  clear hfr hA
  have hl : lv_has ls 2 [(0, .ref h), (1, .int i)] := hl
  have M : gM E A s.heap [[(h, .inr (2, [.ref a]))], [(a, .inl (xI E, n, .inl f))]] s.heap [] := M
  have hwi : ∀ w ∈ u_ws RX2 TX2 1, w ∈ wsX2_get := by decide +kernel
  refine lv_iload_n S.1 S.2.1 dX2_get_0 rfl (lv_at hl 1 rfl) ?_
  refine lv_if_lt (tgt := 22) S.1 S.2.1 dX2_get_1 (by decide) (fun c1 => ?_) (fun c1 => ?_)
  ·
    refine lv_iconst (v := 0) S.1 S.2.1 dX2_get_22 (by decide) ?_
    exact giret S hr hlk M (by unfold rg; simp only [c1, if_true, if_false]) (rfl) dX2_get_23
  ·
    refine lv_iload_n S.1 S.2.1 dX2_get_4 rfl (lv_at hl 1 rfl) ?_
    refine lv_aload_n S.1 S.2.1 dX2_get_5 rfl (lv_at hl 0 rfl) ?_
    refine gget S hE M (C := RX2) (T := TX2) (N := 1) (ci := 2) (index := 13) hwi 0 rfl rfl 0 (by decide) (by decide +kernel) rfl dX2_get_6 ?_
    refine galen S hE M 1 rfl dX2_get_9 ?_
    refine lv_icmp_ge (tgt := 22) S.1 S.2.1 dX2_get_10 (by decide) (fun c10 => ?_) (fun c10 => ?_)
    ·
      refine lv_iconst (v := 0) S.1 S.2.1 dX2_get_22 (by decide) ?_
      exact giret S hr hlk M (by unfold rg; simp only [c1, c10, if_true, if_false]) (rfl) dX2_get_23
    ·
      refine lv_aload_n S.1 S.2.1 dX2_get_13 rfl (lv_at hl 0 rfl) ?_
      refine gget S hE M (C := RX2) (T := TX2) (N := 1) (ci := 2) (index := 13) hwi 0 rfl rfl 0 (by decide) (by decide +kernel) rfl dX2_get_14 ?_
      refine lv_iload_n S.1 S.2.1 dX2_get_17 rfl (lv_at hl 1 rfl) ?_
      refine giald S hE M 1 rfl (vp_of hn c1 c10) dX2_get_18 ?_
      refine lv_goto (tgt := 23) S.1 S.2.1 dX2_get_19 (by decide) ?_
      exact giret S hr hlk M (by unfold rg; simp only [c1, c10, if_true, if_false]) (rfl) dX2_get_23

set_option maxHeartbeats 4000000 in
set_option maxRecDepth 100000 in
theorem c_X2_set (l : Launch) (E : xE) (h a n : Nat) (f : Nat → Int32) (i : Int32) (v : Int32) (hn : n < 2 ^ 31) : mV l yX2_set wsX2_set (xrm 0 0) E [.ref h, .int i, .int v] (rowGs E h a n f) (rowGs E h a n (rs n f i v)) := by
  intro sz
  refine Met.ofW (cc := cX2_set) (maxL := 3) (ret := none) (by decide +kernel) rfl ?_
  intro vp ve s vm args below meth vc s₁ B hml hv
  obtain ⟨rfl, S, hr, hlk, hnm, A, hA, hE, M⟩ := genter B hml hv
  rw [hA]
  obtain ⟨ls, hfr, hl⟩ := gst (m := vm) (as := [.ref h, .int i, .int v]) (n := 3) (Nat.le_of_ble_eq_true rfl)
  rw [hfr]
  clear hfr hA
  have hl : lv_has ls 3 [(0, .ref h), (1, .int i), (2, .int v)] := hl
  have M : gM E A s.heap [[(h, .inr (2, [.ref a]))], [(a, .inl (xI E, n, .inl f))]] s.heap [] := M
  have hwi : ∀ w ∈ u_ws RX2 TX2 1, w ∈ wsX2_set := by decide +kernel
  refine lv_iload_n S.1 S.2.1 dX2_set_0 rfl (lv_at hl 1 rfl) ?_
  refine lv_if_lt (tgt := 20) S.1 S.2.1 dX2_set_1 (by decide) (fun c1 => ?_) (fun c1 => ?_)
  ·
    exact gvret S hr hlk M (by unfold rs; simp only [c1, if_true, if_false]; rfl) dX2_set_20
  ·
    refine lv_iload_n S.1 S.2.1 dX2_set_4 rfl (lv_at hl 1 rfl) ?_
    refine lv_aload_n S.1 S.2.1 dX2_set_5 rfl (lv_at hl 0 rfl) ?_
    refine gget S hE M (C := RX2) (T := TX2) (N := 1) (ci := 2) (index := 13) hwi 0 rfl rfl 0 (by decide) (by decide +kernel) rfl dX2_set_6 ?_
    refine galen S hE M 1 rfl dX2_set_9 ?_
    refine lv_icmp_ge (tgt := 20) S.1 S.2.1 dX2_set_10 (by decide) (fun c10 => ?_) (fun c10 => ?_)
    ·
      exact gvret S hr hlk M (by unfold rs; simp only [c1, c10, if_true, if_false]; rfl) dX2_set_20
    ·
      refine lv_aload_n S.1 S.2.1 dX2_set_13 rfl (lv_at hl 0 rfl) ?_
      refine gget S hE M (C := RX2) (T := TX2) (N := 1) (ci := 2) (index := 13) hwi 0 rfl rfl 0 (by decide) (by decide +kernel) rfl dX2_set_14 ?_
      refine lv_iload_n S.1 S.2.1 dX2_set_17 rfl (lv_at hl 1 rfl) ?_
      refine lv_iload_n S.1 S.2.1 dX2_set_18 rfl (lv_at hl 2 rfl) ?_
      refine giast S hE M (Gs' := [[(h, .inr (2, [.ref a]))], [(a, .inl (xI E, n, .inl (upd f i.toNatClampNeg v)))]]) 1 rfl (vp_of hn c1 c10) (rfl) dX2_set_19 (fun H locs M => ?_)
      exact gvret S hr hlk M (by unfold rs; simp only [c1, c10, if_true, if_false]; rfl) dX2_set_20

set_option maxHeartbeats 4000000 in
set_option maxRecDepth 100000 in
theorem c_X2_add (l : Launch) (E : xE) (h a n : Nat) (f : Nat → Int32) (i : Int32) (v : Int32) (hn : n < 2 ^ 31) : mV l yX2_add wsX2_add (xrm 1 22) E [.ref h, .int i, .int v] (rowGs E h a n f) (rowGs E h a n (rs n f i (rg n f i + v))) := by
  intro sz
  refine Met.ofW (cc := cX2_add) (maxL := 3) (ret := none) (by decide +kernel) rfl ?_
  intro vp ve s vm args below meth vc s₁ B hml hv
  obtain ⟨rfl, S, hr, hlk, hnm, A, hA, hE, M⟩ := genter B hml hv
  rw [hA]
  obtain ⟨ls, hfr, hl⟩ := gst (m := vm) (as := [.ref h, .int i, .int v]) (n := 3) (Nat.le_of_ble_eq_true rfl)
  rw [hfr]
  clear hfr hA
  have hl : lv_has ls 3 [(0, .ref h), (1, .int i), (2, .int v)] := hl
  have M : gM E A s.heap [[(h, .inr (2, [.ref a]))], [(a, .inl (xI E, n, .inl f))]] s.heap [] := M
  have hwi : ∀ w ∈ u_ws RX2 TX2 1, w ∈ wsX2_add := by decide +kernel
  refine lv_aload_n S.1 S.2.1 dX2_add_0 rfl (lv_at hl 0 rfl) ?_
  refine lv_iload_n S.1 S.2.1 dX2_add_1 rfl (lv_at hl 1 rfl) ?_
  refine lv_aload_n S.1 S.2.1 dX2_add_2 rfl (lv_at hl 0 rfl) ?_
  refine lv_iload_n S.1 S.2.1 dX2_add_3 rfl (lv_at hl 1 rfl) ?_
  refine gcalli (L := []) (Mid := [[(h, .inr (2, [.ref a]))], [(a, .inl (xI E, n, .inl f))]]) (Rr := []) (Mid' := [[(h, .inr (2, [.ref a]))], [(a, .inl (xI E, n, .inl f))]]) hE M rfl (rfl) (rfl) (fun hp => va_runV (As := [.int i]) (rest := [.int i, .ref h]) S (c_X2_get l E h a n f i (hn) _) (cwV 1 S.2.2.2.2 gX2_add_X2_get rfl rfl rfl kd_X2_get ⟨Nat.le_of_ble_eq_true rfl, Nat.le_of_ble_eq_true rfl⟩) (hp.V hE (show vwCl[2]? = some (RX2, TX2, 1) from rfl) rfl) rfl rfl hl.1 rfl (lv_room (Nat.le_of_ble_eq_true rfl)) dX2_add_4 ⟨Nat.zero_le _, Nat.zero_le _⟩) (fun H locs M => ?_)
  have M : gM E A s.heap [[(h, .inr (2, [.ref a]))], [(a, .inl (xI E, n, .inl f))]] H locs := M
  refine lv_iload_n S.1 S.2.1 dX2_add_7 rfl (lv_at hl 2 rfl) ?_
  refine lv_iadd S.1 S.2.1 dX2_add_8 ?_
  refine gcallv (L := []) (Mid := [[(h, .inr (2, [.ref a]))], [(a, .inl (xI E, n, .inl f))]]) (Rr := []) (Mid' := [[(h, .inr (2, [.ref a]))], [(a, .inl (xI E, n, .inl (rs n f i ((rg n f i) + v))))]]) hE M rfl (rfl) (rfl) (fun hp => va_runV (As := [.int i, .int ((rg n f i) + v)]) (rest := []) S (c_X2_set l E h a n f i ((rg n f i) + v) (hn) _) (cwV 2 S.2.2.2.2 gX2_add_X2_set rfl rfl rfl kd_X2_set ⟨Nat.le_of_ble_eq_true rfl, Nat.le_of_ble_eq_true rfl⟩) (hp.V hE (show vwCl[2]? = some (RX2, TX2, 1) from rfl) rfl) rfl rfl hl.1 rfl (lv_room (Nat.le_of_ble_eq_true rfl)) dX2_add_9 ⟨Nat.zero_le _, Nat.zero_le _⟩) (fun H locs M => ?_)
  have M : gM E A s.heap [[(h, .inr (2, [.ref a]))], [(a, .inl (xI E, n, .inl (rs n f i ((rg n f i) + v))))]] H locs := M
  exact gvret S hr hlk M (rfl) dX2_add_12

set_option maxHeartbeats 4000000 in
set_option maxRecDepth 100000 in
theorem c_X6_size (l : Launch) (E : xE) (ad : Nat → Nat) (z : TapS) : mI l yX6_size wsX6_size (xrm 0 0) E [.ref (ad 1)] (tapGs E ad z) (nI z.sz) (tapGs E ad z) := by
  intro sz
  refine Met.ofW (cc := cX6_size) (maxL := 1) (ret := (some .int)) (by decide +kernel) rfl ?_
  intro vp ve s vm args below meth vc s₁ B hml hv
  obtain ⟨rfl, S, hr, hlk, hnm, A, hA, hE, M⟩ := genter B hml hv
  rw [hA]
  obtain ⟨ls, hfr, hl⟩ := gst (m := vm) (as := [.ref (ad 1)]) (n := 1) (Nat.le_of_ble_eq_true rfl)
  rw [hfr]
  clear hfr hA
  have hl : lv_has ls 1 [(0, .ref (ad 1))] := hl
  have M : gM E A s.heap [[(ad 1, .inr (6, [.ref (ad 2), .int (nI z.sz)]))], rowW E (ad 2) (ad 3) 8 z.cs] s.heap [] := M
  have hwi : ∀ w ∈ u_ws RX6 TX6 2, w ∈ wsX6_size := by decide +kernel
  refine lv_aload_n S.1 S.2.1 dX6_size_0 rfl (lv_at hl 0 rfl) ?_
  refine gget S hE M (C := RX6) (T := TX6) (N := 2) (ci := 6) (index := 20) hwi 0 rfl rfl 1 (by decide) (by decide +kernel) rfl dX6_size_1 ?_
  exact giret S hr hlk M (rfl) (rfl) dX6_size_4

set_option maxHeartbeats 4000000 in
set_option maxRecDepth 100000 in
theorem c_X6_add (l : Launch) (E : xE) (ad : Nat → Nat) (z : TapS) (x : Int32) : mV l yX6_add wsX6_add (xrm 1 22) E [.ref (ad 1), .int x] (tapGs E ad z) (tapGs E ad (TapS.add z x)) := by
  intro sz
  refine Met.ofW (cc := cX6_add) (maxL := 2) (ret := none) (by decide +kernel) rfl ?_
  intro vp ve s vm args below meth vc s₁ B hml hv
  obtain ⟨rfl, S, hr, hlk, hnm, A, hA, hE, M⟩ := genter B hml hv
  rw [hA]
  obtain ⟨ls, hfr, hl⟩ := gst (m := vm) (as := [.ref (ad 1), .int x]) (n := 2) (Nat.le_of_ble_eq_true rfl)
  rw [hfr]
  clear hfr hA
  have hl : lv_has ls 2 [(0, .ref (ad 1)), (1, .int x)] := hl
  have M : gM E A s.heap [[(ad 1, .inr (6, [.ref (ad 2), .int (nI z.sz)]))], rowW E (ad 2) (ad 3) 8 z.cs] s.heap [] := M
  have hwi : ∀ w ∈ u_ws RX6 TX6 2, w ∈ wsX6_add := by decide +kernel
  refine lv_aload_n S.1 S.2.1 dX6_add_0 rfl (lv_at hl 0 rfl) ?_
  refine gget S hE M (C := RX6) (T := TX6) (N := 2) (ci := 6) (index := 20) hwi 0 rfl rfl 1 (by decide) (by decide +kernel) rfl dX6_add_1 ?_
  refine lv_bipush (v := 8) S.1 S.2.1 dX6_add_4 (by decide) ?_
  refine lv_icmp_ge (tgt := 31) S.1 S.2.1 dX6_add_6 (by decide) (fun c6 => ?_) (fun c6 => ?_)
  ·
    exact gvret S hr hlk M (by unfold TapS.add; simp only [c6, if_true, if_false]; rfl) dX6_add_31
  ·
    refine lv_aload_n S.1 S.2.1 dX6_add_9 rfl (lv_at hl 0 rfl) ?_
    refine gget S hE M (C := RX6) (T := TX6) (N := 2) (ci := 6) (index := 14) hwi 0 rfl rfl 0 (by decide) (by decide +kernel) rfl dX6_add_10 ?_
    refine lv_aload_n S.1 S.2.1 dX6_add_13 rfl (lv_at hl 0 rfl) ?_
    refine gget S hE M (C := RX6) (T := TX6) (N := 2) (ci := 6) (index := 20) hwi 0 rfl rfl 1 (by decide) (by decide +kernel) rfl dX6_add_14 ?_
    refine lv_iload_n S.1 S.2.1 dX6_add_17 rfl (lv_at hl 1 rfl) ?_
    refine gcallv (L := [[(ad 1, .inr (6, [.ref (ad 2), .int (nI z.sz)]))]]) (Mid := [rowW E (ad 2) (ad 3) 8 z.cs]) (Rr := []) (Mid' := [rowW E (ad 2) (ad 3) 8 (rs 8 z.cs (nI z.sz) x)]) hE M rfl (List.append_nil _) (List.append_nil _) (fun hp => va_runV (As := [.int (nI z.sz), .int x]) (rest := []) S (c_X2_set l E (ad 2) (ad 3) 8 z.cs (nI z.sz) x (by decide) _) (cwV 2 S.2.2.2.2 gX6_add_X2_set rfl rfl rfl kd_X2_set ⟨Nat.le_of_ble_eq_true rfl, Nat.le_of_ble_eq_true rfl⟩) (hp.V hE (show vwCl[2]? = some (RX2, TX2, 1) from rfl) rfl) rfl rfl hl.1 rfl (lv_room (Nat.le_of_ble_eq_true rfl)) dX6_add_18 ⟨Nat.zero_le _, Nat.zero_le _⟩) (fun H locs M => ?_)
    have M : gM E A s.heap [[(ad 1, .inr (6, [.ref (ad 2), .int (nI z.sz)]))], rowW E (ad 2) (ad 3) 8 (rs 8 z.cs (nI z.sz) x)] H locs := M
    refine lv_aload_n S.1 S.2.1 dX6_add_21 rfl (lv_at hl 0 rfl) ?_
    refine lv_dup S.1 S.2.1 dX6_add_22 rfl ?_
    refine gget S hE M (C := RX6) (T := TX6) (N := 2) (ci := 6) (index := 20) hwi 0 rfl rfl 1 (by decide) (by decide +kernel) rfl dX6_add_23 ?_
    refine lv_iconst (v := 1) S.1 S.2.1 dX6_add_26 (by decide) ?_
    refine lv_iadd S.1 S.2.1 dX6_add_27 ?_
    refine gtop (x' := nI (z.sz + 1)) (nI_1 _) ?_
    refine gput S hE M (C := RX6) (T := TX6) (N := 2) (ci := 6) (index := 20) (Gs' := [[(ad 1, .inr (6, [.ref (ad 2), .int (nI (z.sz + 1))]))], rowW E (ad 2) (ad 3) 8 (rs 8 z.cs (nI z.sz) x)]) hwi tyX6 tyX6_ok nmX6 0 rfl rfl 1 (by decide) (by decide +kernel) rfl rfl rfl (Nat.le_of_ble_eq_true rfl) rfl dX6_add_28 (fun H locs M => ?_)
    exact gvret S hr hlk M (by unfold TapS.add; simp only [c6, if_true, if_false]; rfl) dX6_add_31

set_option maxHeartbeats 4000000 in
set_option maxRecDepth 100000 in
theorem c_X6_clear (l : Launch) (E : xE) (ad : Nat → Nat) (z : TapS) : mV l yX6_clear wsX6_clear (xrm 0 0) E [.ref (ad 1)] (tapGs E ad z) (tapGs E ad (z.cs, 0)) := by
  intro sz
  refine Met.ofW (cc := cX6_clear) (maxL := 1) (ret := none) (by decide +kernel) rfl ?_
  intro vp ve s vm args below meth vc s₁ B hml hv
  obtain ⟨rfl, S, hr, hlk, hnm, A, hA, hE, M⟩ := genter B hml hv
  rw [hA]
  obtain ⟨ls, hfr, hl⟩ := gst (m := vm) (as := [.ref (ad 1)]) (n := 1) (Nat.le_of_ble_eq_true rfl)
  rw [hfr]
  clear hfr hA
  have hl : lv_has ls 1 [(0, .ref (ad 1))] := hl
  have M : gM E A s.heap [[(ad 1, .inr (6, [.ref (ad 2), .int (nI z.sz)]))], rowW E (ad 2) (ad 3) 8 z.cs] s.heap [] := M
  have hwi : ∀ w ∈ u_ws RX6 TX6 2, w ∈ wsX6_clear := by decide +kernel
  refine lv_aload_n S.1 S.2.1 dX6_clear_0 rfl (lv_at hl 0 rfl) ?_
  refine lv_iconst (v := 0) S.1 S.2.1 dX6_clear_1 (by decide) ?_
  refine gput S hE M (C := RX6) (T := TX6) (N := 2) (ci := 6) (index := 20) (Gs' := [[(ad 1, .inr (6, [.ref (ad 2), .int 0]))], rowW E (ad 2) (ad 3) 8 z.cs]) hwi tyX6 tyX6_ok nmX6 0 rfl rfl 1 (by decide) (by decide +kernel) rfl rfl rfl (Nat.le_of_ble_eq_true rfl) rfl dX6_clear_2 (fun H locs M => ?_)
  exact gvret S hr hlk M (rfl) dX6_clear_5

set_option maxHeartbeats 4000000 in
set_option maxRecDepth 100000 in
theorem c_X0_count (l : Launch) (E : xE) (ad : Nat → Nat) (z : ArrS) : mI l yX0_count wsX0_count (xrm 0 0) E [.ref (ad 4)] (arrGs E ad z) (nI z.ct) (arrGs E ad z) := by
  intro sz
  refine Met.ofW (cc := cX0_count) (maxL := 1) (ret := (some .int)) (by decide +kernel) rfl ?_
  intro vp ve s vm args below meth vc s₁ B hml hv
  obtain ⟨rfl, S, hr, hlk, hnm, A, hA, hE, M⟩ := genter B hml hv
  rw [hA]
  obtain ⟨ls, hfr, hl⟩ := gst (m := vm) (as := [.ref (ad 4)]) (n := 1) (Nat.le_of_ble_eq_true rfl)
  rw [hfr]
  clear hfr hA
  have hl : lv_has ls 1 [(0, .ref (ad 4))] := hl
  have M : gM E A s.heap [[(ad 4, .inr (0, [.ref (ad 5), .ref (ad 7), .ref (ad 9), .ref (ad 11), .ref (ad 13), .int (nI z.ct)]))], rowW E (ad 5) (ad 6) 300 z.pa, rowW E (ad 7) (ad 8) 120 z.fr, rowW E (ad 9) (ad 10) 120 z.wh, rowW E (ad 11) (ad 12) 120 z.sn, rowW E (ad 13) (ad 14) 120 z.pt] s.heap [] := M
  have hwi : ∀ w ∈ u_ws RX0 TX0 6, w ∈ wsX0_count := by decide +kernel
  refine lv_aload_n S.1 S.2.1 dX0_count_0 rfl (lv_at hl 0 rfl) ?_
  refine gget S hE M (C := RX0) (T := TX0) (N := 6) (ci := 0) (index := 32) hwi 0 rfl rfl 5 (by decide) (by decide +kernel) rfl dX0_count_1 ?_
  exact giret S hr hlk M (rfl) (rfl) dX0_count_4

set_option maxHeartbeats 4000000 in
set_option maxRecDepth 100000 in
theorem c_X0_lastPlace (l : Launch) (E : xE) (ad : Nat → Nat) (z : ArrS) : mI l yX0_lastPlace wsX0_lastPlace (xrm 0 0) E [.ref (ad 4)] (arrGs E ad z) (nI z.ct - 1) (arrGs E ad z) := by
  intro sz
  refine Met.ofW (cc := cX0_lastPlace) (maxL := 1) (ret := (some .int)) (by decide +kernel) rfl ?_
  intro vp ve s vm args below meth vc s₁ B hml hv
  obtain ⟨rfl, S, hr, hlk, hnm, A, hA, hE, M⟩ := genter B hml hv
  rw [hA]
  obtain ⟨ls, hfr, hl⟩ := gst (m := vm) (as := [.ref (ad 4)]) (n := 1) (Nat.le_of_ble_eq_true rfl)
  rw [hfr]
  clear hfr hA
  have hl : lv_has ls 1 [(0, .ref (ad 4))] := hl
  have M : gM E A s.heap [[(ad 4, .inr (0, [.ref (ad 5), .ref (ad 7), .ref (ad 9), .ref (ad 11), .ref (ad 13), .int (nI z.ct)]))], rowW E (ad 5) (ad 6) 300 z.pa, rowW E (ad 7) (ad 8) 120 z.fr, rowW E (ad 9) (ad 10) 120 z.wh, rowW E (ad 11) (ad 12) 120 z.sn, rowW E (ad 13) (ad 14) 120 z.pt] s.heap [] := M
  have hwi : ∀ w ∈ u_ws RX0 TX0 6, w ∈ wsX0_lastPlace := by decide +kernel
  refine lv_aload_n S.1 S.2.1 dX0_lastPlace_0 rfl (lv_at hl 0 rfl) ?_
  refine gget S hE M (C := RX0) (T := TX0) (N := 6) (ci := 0) (index := 32) hwi 0 rfl rfl 5 (by decide) (by decide +kernel) rfl dX0_lastPlace_1 ?_
  refine lv_iconst (v := 1) S.1 S.2.1 dX0_lastPlace_4 (by decide) ?_
  refine lv_isub S.1 S.2.1 dX0_lastPlace_5 ?_
  exact giret S hr hlk M (rfl) (rfl) dX0_lastPlace_6

set_option maxHeartbeats 4000000 in
set_option maxRecDepth 100000 in
theorem c_X0_historySize (l : Launch) (E : xE) (ad : Nat → Nat) (z : ArrS) : mI l yX0_historySize wsX0_historySize (xrm 1 21) E [.ref (ad 4)] (arrGs E ad z) (imin (nI z.ct) 32) (arrGs E ad z) := by
  intro sz
  refine Met.ofW (cc := cX0_historySize) (maxL := 1) (ret := (some .int)) (by decide +kernel) rfl ?_
  intro vp ve s vm args below meth vc s₁ B hml hv
  obtain ⟨rfl, S, hr, hlk, hnm, A, hA, hE, M⟩ := genter B hml hv
  rw [hA]
  obtain ⟨ls, hfr, hl⟩ := gst (m := vm) (as := [.ref (ad 4)]) (n := 1) (Nat.le_of_ble_eq_true rfl)
  rw [hfr]
  clear hfr hA
  have hl : lv_has ls 1 [(0, .ref (ad 4))] := hl
  have M : gM E A s.heap [[(ad 4, .inr (0, [.ref (ad 5), .ref (ad 7), .ref (ad 9), .ref (ad 11), .ref (ad 13), .int (nI z.ct)]))], rowW E (ad 5) (ad 6) 300 z.pa, rowW E (ad 7) (ad 8) 120 z.fr, rowW E (ad 9) (ad 10) 120 z.wh, rowW E (ad 11) (ad 12) 120 z.sn, rowW E (ad 13) (ad 14) 120 z.pt] s.heap [] := M
  have hwi : ∀ w ∈ u_ws RX0 TX0 6, w ∈ wsX0_historySize := by decide +kernel
  refine lv_aload_n S.1 S.2.1 dX0_historySize_0 rfl (lv_at hl 0 rfl) ?_
  refine gget S hE M (C := RX0) (T := TX0) (N := 6) (ci := 0) (index := 32) hwi 0 rfl rfl 5 (by decide) (by decide +kernel) rfl dX0_historySize_1 ?_
  refine lv_bipush (v := 32) S.1 S.2.1 dX0_historySize_4 (by decide) ?_
  refine va_mmin S.1 S.2.1 (by rw [hl.1]; exact S.2.2.1) S.2.2.2.1 (S.2.2.2.2 (.methodLink RX0 36 Lib.Math.min.name) (by decide +kernel)) (S.2.2.2.2 (.static Lib.Math.min.name) (by decide +kernel)) (S.2.2.2.2 (.initialized "java/lang/Math") (by decide +kernel)) (S.2.2.2.2 (.code Lib.Math.min.name Lib.Math.min.code 2 (some .int)) (by decide +kernel)) (Nat.le_of_ble_eq_true rfl) (Nat.le_of_ble_eq_true rfl) (Nat.zero_le _) (Nat.zero_le _) dX0_historySize_6 ?_
  exact giret S hr hlk M (rfl) (rfl) dX0_historySize_9

set_option maxHeartbeats 4000000 in
set_option maxRecDepth 100000 in
theorem c_X0_placeOf (l : Launch) (E : xE) (ad : Nat → Nat) (z : ArrS) (n : Int32) : mI l yX0_placeOf wsX0_placeOf (xrm 1 21) E [.ref (ad 4), .int n] (arrGs E ad z) (rg 300 z.pa n - 1) (arrGs E ad z) := by
  intro sz
  refine Met.ofW (cc := cX0_placeOf) (maxL := 2) (ret := (some .int)) (by decide +kernel) rfl ?_
  intro vp ve s vm args below meth vc s₁ B hml hv
  obtain ⟨rfl, S, hr, hlk, hnm, A, hA, hE, M⟩ := genter B hml hv
  rw [hA]
  obtain ⟨ls, hfr, hl⟩ := gst (m := vm) (as := [.ref (ad 4), .int n]) (n := 2) (Nat.le_of_ble_eq_true rfl)
  rw [hfr]
  clear hfr hA
  have hl : lv_has ls 2 [(0, .ref (ad 4)), (1, .int n)] := hl
  have M : gM E A s.heap [[(ad 4, .inr (0, [.ref (ad 5), .ref (ad 7), .ref (ad 9), .ref (ad 11), .ref (ad 13), .int (nI z.ct)]))], rowW E (ad 5) (ad 6) 300 z.pa, rowW E (ad 7) (ad 8) 120 z.fr, rowW E (ad 9) (ad 10) 120 z.wh, rowW E (ad 11) (ad 12) 120 z.sn, rowW E (ad 13) (ad 14) 120 z.pt] s.heap [] := M
  have hwi : ∀ w ∈ u_ws RX0 TX0 6, w ∈ wsX0_placeOf := by decide +kernel
  refine lv_aload_n S.1 S.2.1 dX0_placeOf_0 rfl (lv_at hl 0 rfl) ?_
  refine gget S hE M (C := RX0) (T := TX0) (N := 6) (ci := 0) (index := 14) hwi 0 rfl rfl 0 (by decide) (by decide +kernel) rfl dX0_placeOf_1 ?_
  refine lv_iload_n S.1 S.2.1 dX0_placeOf_4 rfl (lv_at hl 1 rfl) ?_
  refine gcalli (L := [[(ad 4, .inr (0, [.ref (ad 5), .ref (ad 7), .ref (ad 9), .ref (ad 11), .ref (ad 13), .int (nI z.ct)]))]]) (Mid := [rowW E (ad 5) (ad 6) 300 z.pa]) (Rr := [rowW E (ad 7) (ad 8) 120 z.fr, rowW E (ad 9) (ad 10) 120 z.wh, rowW E (ad 11) (ad 12) 120 z.sn, rowW E (ad 13) (ad 14) 120 z.pt]) (Mid' := [rowW E (ad 5) (ad 6) 300 z.pa]) hE M rfl (List.append_nil _) (List.append_nil _) (fun hp => va_runV (As := [.int n]) (rest := []) S (c_X2_get l E (ad 5) (ad 6) 300 z.pa n (by decide) _) (cwV 1 S.2.2.2.2 gX0_placeOf_X2_get rfl rfl rfl kd_X2_get ⟨Nat.le_of_ble_eq_true rfl, Nat.le_of_ble_eq_true rfl⟩) (hp.V hE (show vwCl[2]? = some (RX2, TX2, 1) from rfl) rfl) rfl rfl hl.1 rfl (lv_room (Nat.le_of_ble_eq_true rfl)) dX0_placeOf_5 ⟨Nat.zero_le _, Nat.zero_le _⟩) (fun H locs M => ?_)
  have M : gM E A s.heap [[(ad 4, .inr (0, [.ref (ad 5), .ref (ad 7), .ref (ad 9), .ref (ad 11), .ref (ad 13), .int (nI z.ct)]))], rowW E (ad 5) (ad 6) 300 z.pa, rowW E (ad 7) (ad 8) 120 z.fr, rowW E (ad 9) (ad 10) 120 z.wh, rowW E (ad 11) (ad 12) 120 z.sn, rowW E (ad 13) (ad 14) 120 z.pt] H locs := M
  refine lv_iconst (v := 1) S.1 S.2.1 dX0_placeOf_8 (by decide) ?_
  refine lv_isub S.1 S.2.1 dX0_placeOf_9 ?_
  exact giret S hr hlk M (rfl) (rfl) dX0_placeOf_10

set_option maxHeartbeats 4000000 in
set_option maxRecDepth 100000 in
theorem c_X0_frameAt (l : Launch) (E : xE) (ad : Nat → Nat) (z : ArrS) (i : Int32) : mI l yX0_frameAt wsX0_frameAt (xrm 1 21) E [.ref (ad 4), .int i] (arrGs E ad z) (rg 120 z.fr i) (arrGs E ad z) := by
  intro sz
  refine Met.ofW (cc := cX0_frameAt) (maxL := 2) (ret := (some .int)) (by decide +kernel) rfl ?_
  intro vp ve s vm args below meth vc s₁ B hml hv
  obtain ⟨rfl, S, hr, hlk, hnm, A, hA, hE, M⟩ := genter B hml hv
  rw [hA]
  obtain ⟨ls, hfr, hl⟩ := gst (m := vm) (as := [.ref (ad 4), .int i]) (n := 2) (Nat.le_of_ble_eq_true rfl)
  rw [hfr]
  clear hfr hA
  have hl : lv_has ls 2 [(0, .ref (ad 4)), (1, .int i)] := hl
  have M : gM E A s.heap [[(ad 4, .inr (0, [.ref (ad 5), .ref (ad 7), .ref (ad 9), .ref (ad 11), .ref (ad 13), .int (nI z.ct)]))], rowW E (ad 5) (ad 6) 300 z.pa, rowW E (ad 7) (ad 8) 120 z.fr, rowW E (ad 9) (ad 10) 120 z.wh, rowW E (ad 11) (ad 12) 120 z.sn, rowW E (ad 13) (ad 14) 120 z.pt] s.heap [] := M
  have hwi : ∀ w ∈ u_ws RX0 TX0 6, w ∈ wsX0_frameAt := by decide +kernel
  refine lv_aload_n S.1 S.2.1 dX0_frameAt_0 rfl (lv_at hl 0 rfl) ?_
  refine gget S hE M (C := RX0) (T := TX0) (N := 6) (ci := 0) (index := 20) hwi 0 rfl rfl 1 (by decide) (by decide +kernel) rfl dX0_frameAt_1 ?_
  refine lv_iload_n S.1 S.2.1 dX0_frameAt_4 rfl (lv_at hl 1 rfl) ?_
  refine gcalli (L := [[(ad 4, .inr (0, [.ref (ad 5), .ref (ad 7), .ref (ad 9), .ref (ad 11), .ref (ad 13), .int (nI z.ct)]))], rowW E (ad 5) (ad 6) 300 z.pa]) (Mid := [rowW E (ad 7) (ad 8) 120 z.fr]) (Rr := [rowW E (ad 9) (ad 10) 120 z.wh, rowW E (ad 11) (ad 12) 120 z.sn, rowW E (ad 13) (ad 14) 120 z.pt]) (Mid' := [rowW E (ad 7) (ad 8) 120 z.fr]) hE M rfl (List.append_nil _) (List.append_nil _) (fun hp => va_runV (As := [.int i]) (rest := []) S (c_X2_get l E (ad 7) (ad 8) 120 z.fr i (by decide) _) (cwV 1 S.2.2.2.2 gX0_frameAt_X2_get rfl rfl rfl kd_X2_get ⟨Nat.le_of_ble_eq_true rfl, Nat.le_of_ble_eq_true rfl⟩) (hp.V hE (show vwCl[2]? = some (RX2, TX2, 1) from rfl) rfl) rfl rfl hl.1 rfl (lv_room (Nat.le_of_ble_eq_true rfl)) dX0_frameAt_5 ⟨Nat.zero_le _, Nat.zero_le _⟩) (fun H locs M => ?_)
  have M : gM E A s.heap [[(ad 4, .inr (0, [.ref (ad 5), .ref (ad 7), .ref (ad 9), .ref (ad 11), .ref (ad 13), .int (nI z.ct)]))], rowW E (ad 5) (ad 6) 300 z.pa, rowW E (ad 7) (ad 8) 120 z.fr, rowW E (ad 9) (ad 10) 120 z.wh, rowW E (ad 11) (ad 12) 120 z.sn, rowW E (ad 13) (ad 14) 120 z.pt] H locs := M
  exact giret S hr hlk M (rfl) (rfl) dX0_frameAt_8

set_option maxHeartbeats 4000000 in
set_option maxRecDepth 100000 in
theorem c_X0_whenAt (l : Launch) (E : xE) (ad : Nat → Nat) (z : ArrS) (i : Int32) : mI l yX0_whenAt wsX0_whenAt (xrm 1 21) E [.ref (ad 4), .int i] (arrGs E ad z) (rg 120 z.wh i) (arrGs E ad z) := by
  intro sz
  refine Met.ofW (cc := cX0_whenAt) (maxL := 2) (ret := (some .int)) (by decide +kernel) rfl ?_
  intro vp ve s vm args below meth vc s₁ B hml hv
  obtain ⟨rfl, S, hr, hlk, hnm, A, hA, hE, M⟩ := genter B hml hv
  rw [hA]
  obtain ⟨ls, hfr, hl⟩ := gst (m := vm) (as := [.ref (ad 4), .int i]) (n := 2) (Nat.le_of_ble_eq_true rfl)
  rw [hfr]
  clear hfr hA
  have hl : lv_has ls 2 [(0, .ref (ad 4)), (1, .int i)] := hl
  have M : gM E A s.heap [[(ad 4, .inr (0, [.ref (ad 5), .ref (ad 7), .ref (ad 9), .ref (ad 11), .ref (ad 13), .int (nI z.ct)]))], rowW E (ad 5) (ad 6) 300 z.pa, rowW E (ad 7) (ad 8) 120 z.fr, rowW E (ad 9) (ad 10) 120 z.wh, rowW E (ad 11) (ad 12) 120 z.sn, rowW E (ad 13) (ad 14) 120 z.pt] s.heap [] := M
  have hwi : ∀ w ∈ u_ws RX0 TX0 6, w ∈ wsX0_whenAt := by decide +kernel
  refine lv_aload_n S.1 S.2.1 dX0_whenAt_0 rfl (lv_at hl 0 rfl) ?_
  refine gget S hE M (C := RX0) (T := TX0) (N := 6) (ci := 0) (index := 23) hwi 0 rfl rfl 2 (by decide) (by decide +kernel) rfl dX0_whenAt_1 ?_
  refine lv_iload_n S.1 S.2.1 dX0_whenAt_4 rfl (lv_at hl 1 rfl) ?_
  refine gcalli (L := [[(ad 4, .inr (0, [.ref (ad 5), .ref (ad 7), .ref (ad 9), .ref (ad 11), .ref (ad 13), .int (nI z.ct)]))], rowW E (ad 5) (ad 6) 300 z.pa, rowW E (ad 7) (ad 8) 120 z.fr]) (Mid := [rowW E (ad 9) (ad 10) 120 z.wh]) (Rr := [rowW E (ad 11) (ad 12) 120 z.sn, rowW E (ad 13) (ad 14) 120 z.pt]) (Mid' := [rowW E (ad 9) (ad 10) 120 z.wh]) hE M rfl (List.append_nil _) (List.append_nil _) (fun hp => va_runV (As := [.int i]) (rest := []) S (c_X2_get l E (ad 9) (ad 10) 120 z.wh i (by decide) _) (cwV 1 S.2.2.2.2 gX0_whenAt_X2_get rfl rfl rfl kd_X2_get ⟨Nat.le_of_ble_eq_true rfl, Nat.le_of_ble_eq_true rfl⟩) (hp.V hE (show vwCl[2]? = some (RX2, TX2, 1) from rfl) rfl) rfl rfl hl.1 rfl (lv_room (Nat.le_of_ble_eq_true rfl)) dX0_whenAt_5 ⟨Nat.zero_le _, Nat.zero_le _⟩) (fun H locs M => ?_)
  have M : gM E A s.heap [[(ad 4, .inr (0, [.ref (ad 5), .ref (ad 7), .ref (ad 9), .ref (ad 11), .ref (ad 13), .int (nI z.ct)]))], rowW E (ad 5) (ad 6) 300 z.pa, rowW E (ad 7) (ad 8) 120 z.fr, rowW E (ad 9) (ad 10) 120 z.wh, rowW E (ad 11) (ad 12) 120 z.sn, rowW E (ad 13) (ad 14) 120 z.pt] H locs := M
  exact giret S hr hlk M (rfl) (rfl) dX0_whenAt_8

set_option maxHeartbeats 4000000 in
set_option maxRecDepth 100000 in
theorem c_X0_spurtAt (l : Launch) (E : xE) (ad : Nat → Nat) (z : ArrS) (i : Int32) : mI l yX0_spurtAt wsX0_spurtAt (xrm 1 21) E [.ref (ad 4), .int i] (arrGs E ad z) (rg 120 z.sn i) (arrGs E ad z) := by
  intro sz
  refine Met.ofW (cc := cX0_spurtAt) (maxL := 2) (ret := (some .int)) (by decide +kernel) rfl ?_
  intro vp ve s vm args below meth vc s₁ B hml hv
  obtain ⟨rfl, S, hr, hlk, hnm, A, hA, hE, M⟩ := genter B hml hv
  rw [hA]
  obtain ⟨ls, hfr, hl⟩ := gst (m := vm) (as := [.ref (ad 4), .int i]) (n := 2) (Nat.le_of_ble_eq_true rfl)
  rw [hfr]
  clear hfr hA
  have hl : lv_has ls 2 [(0, .ref (ad 4)), (1, .int i)] := hl
  have M : gM E A s.heap [[(ad 4, .inr (0, [.ref (ad 5), .ref (ad 7), .ref (ad 9), .ref (ad 11), .ref (ad 13), .int (nI z.ct)]))], rowW E (ad 5) (ad 6) 300 z.pa, rowW E (ad 7) (ad 8) 120 z.fr, rowW E (ad 9) (ad 10) 120 z.wh, rowW E (ad 11) (ad 12) 120 z.sn, rowW E (ad 13) (ad 14) 120 z.pt] s.heap [] := M
  have hwi : ∀ w ∈ u_ws RX0 TX0 6, w ∈ wsX0_spurtAt := by decide +kernel
  refine lv_aload_n S.1 S.2.1 dX0_spurtAt_0 rfl (lv_at hl 0 rfl) ?_
  refine gget S hE M (C := RX0) (T := TX0) (N := 6) (ci := 0) (index := 26) hwi 0 rfl rfl 3 (by decide) (by decide +kernel) rfl dX0_spurtAt_1 ?_
  refine lv_iload_n S.1 S.2.1 dX0_spurtAt_4 rfl (lv_at hl 1 rfl) ?_
  refine gcalli (L := [[(ad 4, .inr (0, [.ref (ad 5), .ref (ad 7), .ref (ad 9), .ref (ad 11), .ref (ad 13), .int (nI z.ct)]))], rowW E (ad 5) (ad 6) 300 z.pa, rowW E (ad 7) (ad 8) 120 z.fr, rowW E (ad 9) (ad 10) 120 z.wh]) (Mid := [rowW E (ad 11) (ad 12) 120 z.sn]) (Rr := [rowW E (ad 13) (ad 14) 120 z.pt]) (Mid' := [rowW E (ad 11) (ad 12) 120 z.sn]) hE M rfl (List.append_nil _) (List.append_nil _) (fun hp => va_runV (As := [.int i]) (rest := []) S (c_X2_get l E (ad 11) (ad 12) 120 z.sn i (by decide) _) (cwV 1 S.2.2.2.2 gX0_spurtAt_X2_get rfl rfl rfl kd_X2_get ⟨Nat.le_of_ble_eq_true rfl, Nat.le_of_ble_eq_true rfl⟩) (hp.V hE (show vwCl[2]? = some (RX2, TX2, 1) from rfl) rfl) rfl rfl hl.1 rfl (lv_room (Nat.le_of_ble_eq_true rfl)) dX0_spurtAt_5 ⟨Nat.zero_le _, Nat.zero_le _⟩) (fun H locs M => ?_)
  have M : gM E A s.heap [[(ad 4, .inr (0, [.ref (ad 5), .ref (ad 7), .ref (ad 9), .ref (ad 11), .ref (ad 13), .int (nI z.ct)]))], rowW E (ad 5) (ad 6) 300 z.pa, rowW E (ad 7) (ad 8) 120 z.fr, rowW E (ad 9) (ad 10) 120 z.wh, rowW E (ad 11) (ad 12) 120 z.sn, rowW E (ad 13) (ad 14) 120 z.pt] H locs := M
  exact giret S hr hlk M (rfl) (rfl) dX0_spurtAt_8

set_option maxHeartbeats 4000000 in
set_option maxRecDepth 100000 in
theorem c_X0_playedAt (l : Launch) (E : xE) (ad : Nat → Nat) (z : ArrS) (i : Int32) : mI l yX0_playedAt wsX0_playedAt (xrm 1 21) E [.ref (ad 4), .int i] (arrGs E ad z) (rg 120 z.pt i) (arrGs E ad z) := by
  intro sz
  refine Met.ofW (cc := cX0_playedAt) (maxL := 2) (ret := (some .int)) (by decide +kernel) rfl ?_
  intro vp ve s vm args below meth vc s₁ B hml hv
  obtain ⟨rfl, S, hr, hlk, hnm, A, hA, hE, M⟩ := genter B hml hv
  rw [hA]
  obtain ⟨ls, hfr, hl⟩ := gst (m := vm) (as := [.ref (ad 4), .int i]) (n := 2) (Nat.le_of_ble_eq_true rfl)
  rw [hfr]
  clear hfr hA
  have hl : lv_has ls 2 [(0, .ref (ad 4)), (1, .int i)] := hl
  have M : gM E A s.heap [[(ad 4, .inr (0, [.ref (ad 5), .ref (ad 7), .ref (ad 9), .ref (ad 11), .ref (ad 13), .int (nI z.ct)]))], rowW E (ad 5) (ad 6) 300 z.pa, rowW E (ad 7) (ad 8) 120 z.fr, rowW E (ad 9) (ad 10) 120 z.wh, rowW E (ad 11) (ad 12) 120 z.sn, rowW E (ad 13) (ad 14) 120 z.pt] s.heap [] := M
  have hwi : ∀ w ∈ u_ws RX0 TX0 6, w ∈ wsX0_playedAt := by decide +kernel
  refine lv_aload_n S.1 S.2.1 dX0_playedAt_0 rfl (lv_at hl 0 rfl) ?_
  refine gget S hE M (C := RX0) (T := TX0) (N := 6) (ci := 0) (index := 29) hwi 0 rfl rfl 4 (by decide) (by decide +kernel) rfl dX0_playedAt_1 ?_
  refine lv_iload_n S.1 S.2.1 dX0_playedAt_4 rfl (lv_at hl 1 rfl) ?_
  refine gcalli (L := [[(ad 4, .inr (0, [.ref (ad 5), .ref (ad 7), .ref (ad 9), .ref (ad 11), .ref (ad 13), .int (nI z.ct)]))], rowW E (ad 5) (ad 6) 300 z.pa, rowW E (ad 7) (ad 8) 120 z.fr, rowW E (ad 9) (ad 10) 120 z.wh, rowW E (ad 11) (ad 12) 120 z.sn]) (Mid := [rowW E (ad 13) (ad 14) 120 z.pt]) (Rr := []) (Mid' := [rowW E (ad 13) (ad 14) 120 z.pt]) hE M rfl (List.append_nil _) (List.append_nil _) (fun hp => va_runV (As := [.int i]) (rest := []) S (c_X2_get l E (ad 13) (ad 14) 120 z.pt i (by decide) _) (cwV 1 S.2.2.2.2 gX0_playedAt_X2_get rfl rfl rfl kd_X2_get ⟨Nat.le_of_ble_eq_true rfl, Nat.le_of_ble_eq_true rfl⟩) (hp.V hE (show vwCl[2]? = some (RX2, TX2, 1) from rfl) rfl) rfl rfl hl.1 rfl (lv_room (Nat.le_of_ble_eq_true rfl)) dX0_playedAt_5 ⟨Nat.zero_le _, Nat.zero_le _⟩) (fun H locs M => ?_)
  have M : gM E A s.heap [[(ad 4, .inr (0, [.ref (ad 5), .ref (ad 7), .ref (ad 9), .ref (ad 11), .ref (ad 13), .int (nI z.ct)]))], rowW E (ad 5) (ad 6) 300 z.pa, rowW E (ad 7) (ad 8) 120 z.fr, rowW E (ad 9) (ad 10) 120 z.wh, rowW E (ad 11) (ad 12) 120 z.sn, rowW E (ad 13) (ad 14) 120 z.pt] H locs := M
  exact giret S hr hlk M (rfl) (rfl) dX0_playedAt_8

set_option maxHeartbeats 4000000 in
set_option maxRecDepth 100000 in
theorem c_X0_delayAt (l : Launch) (E : xE) (ad : Nat → Nat) (z : ArrS) (i : Int32) : mI l yX0_delayAt wsX0_delayAt (xrm 1 21) E [.ref (ad 4), .int i] (arrGs E ad z) (z.dl i) (arrGs E ad z) := by
  intro sz
  refine Met.ofW (cc := cX0_delayAt) (maxL := 2) (ret := (some .int)) (by decide +kernel) rfl ?_
  intro vp ve s vm args below meth vc s₁ B hml hv
  obtain ⟨rfl, S, hr, hlk, hnm, A, hA, hE, M⟩ := genter B hml hv
  rw [hA]
  obtain ⟨ls, hfr, hl⟩ := gst (m := vm) (as := [.ref (ad 4), .int i]) (n := 2) (Nat.le_of_ble_eq_true rfl)
  rw [hfr]
  clear hfr hA
  have hl : lv_has ls 2 [(0, .ref (ad 4)), (1, .int i)] := hl
  have M : gM E A s.heap [[(ad 4, .inr (0, [.ref (ad 5), .ref (ad 7), .ref (ad 9), .ref (ad 11), .ref (ad 13), .int (nI z.ct)]))], rowW E (ad 5) (ad 6) 300 z.pa, rowW E (ad 7) (ad 8) 120 z.fr, rowW E (ad 9) (ad 10) 120 z.wh, rowW E (ad 11) (ad 12) 120 z.sn, rowW E (ad 13) (ad 14) 120 z.pt] s.heap [] := M
  have hwi : ∀ w ∈ u_ws RX0 TX0 6, w ∈ wsX0_delayAt := by decide +kernel
  refine lv_aload_n S.1 S.2.1 dX0_delayAt_0 rfl (lv_at hl 0 rfl) ?_
  refine gget S hE M (C := RX0) (T := TX0) (N := 6) (ci := 0) (index := 23) hwi 0 rfl rfl 2 (by decide) (by decide +kernel) rfl dX0_delayAt_1 ?_
  refine lv_iload_n S.1 S.2.1 dX0_delayAt_4 rfl (lv_at hl 1 rfl) ?_
  refine gcalli (L := [[(ad 4, .inr (0, [.ref (ad 5), .ref (ad 7), .ref (ad 9), .ref (ad 11), .ref (ad 13), .int (nI z.ct)]))], rowW E (ad 5) (ad 6) 300 z.pa, rowW E (ad 7) (ad 8) 120 z.fr]) (Mid := [rowW E (ad 9) (ad 10) 120 z.wh]) (Rr := [rowW E (ad 11) (ad 12) 120 z.sn, rowW E (ad 13) (ad 14) 120 z.pt]) (Mid' := [rowW E (ad 9) (ad 10) 120 z.wh]) hE M rfl (List.append_nil _) (List.append_nil _) (fun hp => va_runV (As := [.int i]) (rest := []) S (c_X2_get l E (ad 9) (ad 10) 120 z.wh i (by decide) _) (cwV 1 S.2.2.2.2 gX0_delayAt_X2_get rfl rfl rfl kd_X2_get ⟨Nat.le_of_ble_eq_true rfl, Nat.le_of_ble_eq_true rfl⟩) (hp.V hE (show vwCl[2]? = some (RX2, TX2, 1) from rfl) rfl) rfl rfl hl.1 rfl (lv_room (Nat.le_of_ble_eq_true rfl)) dX0_delayAt_5 ⟨Nat.zero_le _, Nat.zero_le _⟩) (fun H locs M => ?_)
  have M : gM E A s.heap [[(ad 4, .inr (0, [.ref (ad 5), .ref (ad 7), .ref (ad 9), .ref (ad 11), .ref (ad 13), .int (nI z.ct)]))], rowW E (ad 5) (ad 6) 300 z.pa, rowW E (ad 7) (ad 8) 120 z.fr, rowW E (ad 9) (ad 10) 120 z.wh, rowW E (ad 11) (ad 12) 120 z.sn, rowW E (ad 13) (ad 14) 120 z.pt] H locs := M
  refine lv_bipush (v := 20) S.1 S.2.1 dX0_delayAt_8 (by decide) ?_
  refine lv_aload_n S.1 S.2.1 dX0_delayAt_10 rfl (lv_at hl 0 rfl) ?_
  refine gget S hE M (C := RX0) (T := TX0) (N := 6) (ci := 0) (index := 20) hwi 0 rfl rfl 1 (by decide) (by decide +kernel) rfl dX0_delayAt_11 ?_
  refine lv_iload_n S.1 S.2.1 dX0_delayAt_14 rfl (lv_at hl 1 rfl) ?_
  refine gcalli (L := [[(ad 4, .inr (0, [.ref (ad 5), .ref (ad 7), .ref (ad 9), .ref (ad 11), .ref (ad 13), .int (nI z.ct)]))], rowW E (ad 5) (ad 6) 300 z.pa]) (Mid := [rowW E (ad 7) (ad 8) 120 z.fr]) (Rr := [rowW E (ad 9) (ad 10) 120 z.wh, rowW E (ad 11) (ad 12) 120 z.sn, rowW E (ad 13) (ad 14) 120 z.pt]) (Mid' := [rowW E (ad 7) (ad 8) 120 z.fr]) hE M rfl (List.append_nil _) (List.append_nil _) (fun hp => va_runV (As := [.int i]) (rest := [.int 20, .int (rg 120 z.wh i)]) S (c_X2_get l E (ad 7) (ad 8) 120 z.fr i (by decide) _) (cwV 1 S.2.2.2.2 gX0_delayAt_X2_get rfl rfl rfl kd_X2_get ⟨Nat.le_of_ble_eq_true rfl, Nat.le_of_ble_eq_true rfl⟩) (hp.V hE (show vwCl[2]? = some (RX2, TX2, 1) from rfl) rfl) rfl rfl hl.1 rfl (lv_room (Nat.le_of_ble_eq_true rfl)) dX0_delayAt_15 ⟨Nat.zero_le _, Nat.zero_le _⟩) (fun H locs M => ?_)
  have M : gM E A s.heap [[(ad 4, .inr (0, [.ref (ad 5), .ref (ad 7), .ref (ad 9), .ref (ad 11), .ref (ad 13), .int (nI z.ct)]))], rowW E (ad 5) (ad 6) 300 z.pa, rowW E (ad 7) (ad 8) 120 z.fr, rowW E (ad 9) (ad 10) 120 z.wh, rowW E (ad 11) (ad 12) 120 z.sn, rowW E (ad 13) (ad 14) 120 z.pt] H locs := M
  refine lv_imul S.1 S.2.1 dX0_delayAt_18 ?_
  refine lv_isub S.1 S.2.1 dX0_delayAt_19 ?_
  exact giret S hr hlk M (rfl) (rfl) dX0_delayAt_20

set_option maxHeartbeats 4000000 in
set_option maxRecDepth 100000 in
theorem c_X0_latestWhen (l : Launch) (E : xE) (ad : Nat → Nat) (z : ArrS) : mI l yX0_latestWhen wsX0_latestWhen (xrm 1 21) E [.ref (ad 4)] (arrGs E ad z) z.latest (arrGs E ad z) := by
  intro sz
  refine Met.ofW (cc := cX0_latestWhen) (maxL := 1) (ret := (some .int)) (by decide +kernel) rfl ?_
  intro vp ve s vm args below meth vc s₁ B hml hv
  obtain ⟨rfl, S, hr, hlk, hnm, A, hA, hE, M⟩ := genter B hml hv
  rw [hA]
  obtain ⟨ls, hfr, hl⟩ := gst (m := vm) (as := [.ref (ad 4)]) (n := 1) (Nat.le_of_ble_eq_true rfl)
  rw [hfr]
  clear hfr hA
  have hl : lv_has ls 1 [(0, .ref (ad 4))] := hl
  have M : gM E A s.heap [[(ad 4, .inr (0, [.ref (ad 5), .ref (ad 7), .ref (ad 9), .ref (ad 11), .ref (ad 13), .int (nI z.ct)]))], rowW E (ad 5) (ad 6) 300 z.pa, rowW E (ad 7) (ad 8) 120 z.fr, rowW E (ad 9) (ad 10) 120 z.wh, rowW E (ad 11) (ad 12) 120 z.sn, rowW E (ad 13) (ad 14) 120 z.pt] s.heap [] := M
  have hwi : ∀ w ∈ u_ws RX0 TX0 6, w ∈ wsX0_latestWhen := by decide +kernel
  refine lv_aload_n S.1 S.2.1 dX0_latestWhen_0 rfl (lv_at hl 0 rfl) ?_
  refine gget S hE M (C := RX0) (T := TX0) (N := 6) (ci := 0) (index := 32) hwi 0 rfl rfl 5 (by decide) (by decide +kernel) rfl dX0_latestWhen_1 ?_
  refine lv_if_ne (tgt := 11) S.1 S.2.1 dX0_latestWhen_4 (by decide) (fun c4 => ?_) (fun c4 => ?_)
  ·
    refine lv_aload_n S.1 S.2.1 dX0_latestWhen_11 rfl (lv_at hl 0 rfl) ?_
    refine gget S hE M (C := RX0) (T := TX0) (N := 6) (ci := 0) (index := 23) hwi 0 rfl rfl 2 (by decide) (by decide +kernel) rfl dX0_latestWhen_12 ?_
    refine lv_aload_n S.1 S.2.1 dX0_latestWhen_15 rfl (lv_at hl 0 rfl) ?_
    refine gget S hE M (C := RX0) (T := TX0) (N := 6) (ci := 0) (index := 32) hwi 0 rfl rfl 5 (by decide) (by decide +kernel) rfl dX0_latestWhen_16 ?_
    refine lv_iconst (v := 1) S.1 S.2.1 dX0_latestWhen_19 (by decide) ?_
    refine lv_isub S.1 S.2.1 dX0_latestWhen_20 ?_
    refine gcalli (L := [[(ad 4, .inr (0, [.ref (ad 5), .ref (ad 7), .ref (ad 9), .ref (ad 11), .ref (ad 13), .int (nI z.ct)]))], rowW E (ad 5) (ad 6) 300 z.pa, rowW E (ad 7) (ad 8) 120 z.fr]) (Mid := [rowW E (ad 9) (ad 10) 120 z.wh]) (Rr := [rowW E (ad 11) (ad 12) 120 z.sn, rowW E (ad 13) (ad 14) 120 z.pt]) (Mid' := [rowW E (ad 9) (ad 10) 120 z.wh]) hE M rfl (List.append_nil _) (List.append_nil _) (fun hp => va_runV (As := [.int ((nI z.ct) - 1)]) (rest := []) S (c_X2_get l E (ad 9) (ad 10) 120 z.wh ((nI z.ct) - 1) (by decide) _) (cwV 1 S.2.2.2.2 gX0_latestWhen_X2_get rfl rfl rfl kd_X2_get ⟨Nat.le_of_ble_eq_true rfl, Nat.le_of_ble_eq_true rfl⟩) (hp.V hE (show vwCl[2]? = some (RX2, TX2, 1) from rfl) rfl) rfl rfl hl.1 rfl (lv_room (Nat.le_of_ble_eq_true rfl)) dX0_latestWhen_21 ⟨Nat.zero_le _, Nat.zero_le _⟩) (fun H locs M => ?_)
    have M : gM E A s.heap [[(ad 4, .inr (0, [.ref (ad 5), .ref (ad 7), .ref (ad 9), .ref (ad 11), .ref (ad 13), .int (nI z.ct)]))], rowW E (ad 5) (ad 6) 300 z.pa, rowW E (ad 7) (ad 8) 120 z.fr, rowW E (ad 9) (ad 10) 120 z.wh, rowW E (ad 11) (ad 12) 120 z.sn, rowW E (ad 13) (ad 14) 120 z.pt] H locs := M
    exact giret S hr hlk M (by unfold ArrS.latest; rw [if_neg c4]) (rfl) dX0_latestWhen_24
  ·
    refine lv_iconst (v := 0) S.1 S.2.1 dX0_latestWhen_7 (by decide) ?_
    refine lv_goto (tgt := 24) S.1 S.2.1 dX0_latestWhen_8 (by decide) ?_
    exact giret S hr hlk M (by unfold ArrS.latest; rw [if_pos c4]) (rfl) dX0_latestWhen_24

set_option maxHeartbeats 4000000 in
set_option maxRecDepth 100000 in
theorem c_X0_delaysAbove (l : Launch) (E : xE) (ad : Nat → Nat) (z : ArrS) (v : Int32) (k : Nat) (hk : k ≤ z.ct) (hc : z.ct ≤ 120) : mI l yX0_delaysAbove wsX0_delaysAbove (xrm 2 42) E [.ref (ad 4), .int v, .int (nI k)] (arrGs E ad z) (z.da v k) (arrGs E ad z) := by
  intro sz
  refine Met.ofW (cc := cX0_delaysAbove) (maxL := 5) (ret := (some .int)) (by decide +kernel) rfl ?_
  intro vp ve s vm args below meth vc s₁ B hml hv
  obtain ⟨rfl, S, hr, hlk, hnm, A, hA, hE, M⟩ := genter B hml hv
  rw [hA]
  obtain ⟨ls, hfr, hl⟩ := gst (m := vm) (as := [.ref (ad 4), .int v, .int (nI k)]) (n := 5) (Nat.le_of_ble_eq_true rfl)
  rw [hfr]
  clear hfr hA
  have hl : lv_has ls 5 [(0, .ref (ad 4)), (1, .int v), (2, .int (nI k))] := hl
  have M : gM E A s.heap [[(ad 4, .inr (0, [.ref (ad 5), .ref (ad 7), .ref (ad 9), .ref (ad 11), .ref (ad 13), .int (nI z.ct)]))], rowW E (ad 5) (ad 6) 300 z.pa, rowW E (ad 7) (ad 8) 120 z.fr, rowW E (ad 9) (ad 10) 120 z.wh, rowW E (ad 11) (ad 12) 120 z.sn, rowW E (ad 13) (ad 14) 120 z.pt] s.heap [] := M
  have hwi : ∀ w ∈ u_ws RX0 TX0 6, w ∈ wsX0_delaysAbove := by decide +kernel
  obtain ⟨Q, hQ⟩ : ∃ Q : State → Prop, MQ below (va_Qi (fun x (_ : Unit) => x = (z.da v k)) (fun _ => kQ E A (arrGs E ad z)) A) ([.ref (ad 4), .int v, .int (nI k)] : List Value).toArray s 0 0 A = Q := ⟨_, rfl⟩
  rw [hQ]
  have hL : ∀ (n : Nat), ∀ (i : Nat) (a : Int32), i + n = z.ct → z.da v k = cgt (fun i => z.dl (nI i)) v n i a → ∀ (H : Heap) (locs : List Loc), gM E A s.heap [[(ad 4, .inr (0, [.ref (ad 5), .ref (ad 7), .ref (ad 9), .ref (ad 11), .ref (ad 13), .int (nI z.ct)]))], rowW E (ad 5) (ad 6) 300 z.pa, rowW E (ad 7) (ad 8) 120 z.fr, rowW E (ad 9) (ad 10) 120 z.wh, rowW E (ad 11) (ad 12) 120 z.sn, rowW E (ad 13) (ad 14) 120 z.pt] H locs → ∀ ls : Array Slot, lv_has ls 5 [(0, .ref (ad 4)), (1, .int v), (2, .int (nI k)), (3, .int a), (4, .int (nI i))] → W vp l ve (headSpec wsX0_delaysAbove (xrm 2 42)).room s vm ([.ref (ad 4), .int v, .int (nI k)] : List Value).toArray below meth vc H locs 0 0 Q (F0 vm 10 ls []) := by
    intro n
    induction n with
    | zero =>
      intro i a hi hI H locs M ls hl
      refine lv_iload S.1 S.2.1 dX0_delaysAbove_10 (lv_at hl 4 rfl) ?_
      refine lv_aload_n S.1 S.2.1 dX0_delaysAbove_12 rfl (lv_at hl 0 rfl) ?_
      refine gget S hE M (C := RX0) (T := TX0) (N := 6) (ci := 0) (index := 32) hwi 0 rfl rfl 5 (by decide) (by decide +kernel) rfl dX0_delaysAbove_13 ?_
      refine lv_icmp_ge (tgt := 38) S.1 S.2.1 dX0_delaysAbove_16 (by decide) (fun _ => ?_) (fun c_ => absurd (nI_le (by omega) (by omega)) c_)
      refine lv_iload_n S.1 S.2.1 dX0_delaysAbove_38 rfl (lv_at hl 3 rfl) ?_
      rw [← hQ]
      exact giret S hr hlk M (hI.symm) (rfl) dX0_delaysAbove_39
    | succ n ih =>
      intro i a hi hI H locs M ls hl
      refine lv_iload S.1 S.2.1 dX0_delaysAbove_10 (lv_at hl 4 rfl) ?_
      refine lv_aload_n S.1 S.2.1 dX0_delaysAbove_12 rfl (lv_at hl 0 rfl) ?_
      refine gget S hE M (C := RX0) (T := TX0) (N := 6) (ci := 0) (index := 32) hwi 0 rfl rfl 5 (by decide) (by decide +kernel) rfl dX0_delaysAbove_13 ?_
      refine lv_icmp_ge (tgt := 38) S.1 S.2.1 dX0_delaysAbove_16 (by decide) (fun c_ => absurd c_ (nI_ge (by omega) (by omega))) (fun _ => ?_)
      refine lv_aload_n S.1 S.2.1 dX0_delaysAbove_19 rfl (lv_at hl 0 rfl) ?_
      refine lv_iload S.1 S.2.1 dX0_delaysAbove_20 (lv_at hl 4 rfl) ?_
      refine gcalli (L := []) (Mid := arrGs E ad z) (Rr := []) (Mid' := arrGs E ad z) hE M rfl (rfl) (rfl) (fun hp => va_runV (As := [.int (nI i)]) (rest := []) S (c_X0_delayAt l E ad z (nI i)  _) (cwV 1 S.2.2.2.2 gX0_delaysAbove_X0_delayAt rfl rfl rfl kd_X0_delayAt ⟨Nat.le_of_ble_eq_true rfl, Nat.le_of_ble_eq_true rfl⟩) (hp.V hE (show vwCl[0]? = some (RX0, TX0, 6) from rfl) rfl) rfl rfl hl.1 rfl (lv_room (Nat.le_of_ble_eq_true rfl)) dX0_delaysAbove_22 ⟨Nat.zero_le _, Nat.zero_le _⟩) (fun H locs M => ?_)
      have M : gM E A s.heap [[(ad 4, .inr (0, [.ref (ad 5), .ref (ad 7), .ref (ad 9), .ref (ad 11), .ref (ad 13), .int (nI z.ct)]))], rowW E (ad 5) (ad 6) 300 z.pa, rowW E (ad 7) (ad 8) 120 z.fr, rowW E (ad 9) (ad 10) 120 z.wh, rowW E (ad 11) (ad 12) 120 z.sn, rowW E (ad 13) (ad 14) 120 z.pt] H locs := M
      refine lv_iload_n S.1 S.2.1 dX0_delaysAbove_25 rfl (lv_at hl 1 rfl) ?_
      refine lv_icmp_le (tgt := 32) S.1 S.2.1 dX0_delaysAbove_26 (by decide) (fun c26 => ?_) (fun c26 => ?_)
      ·
        refine lv_iinc (v := nI (i + 1)) (lv' := [(4, .int (nI (i + 1))), (0, .ref (ad 4)), (1, .int v), (2, .int (nI k)), (3, .int a)]) S.1 S.2.1 dX0_delaysAbove_32 hl (k := 4) rfl (nI_1 _) (by decide) rfl (fun ls hl => ?_)
        refine lv_goto (tgt := 10) S.1 S.2.1 dX0_delaysAbove_35 (by decide) ?_
        exact ih (i + 1) a (by omega) (by rw [hI, cgt]; simp only [c26, if_true, if_false]) _ _ M ls (lv_sub hl [1, 2, 3, 4, 0] rfl)
      ·
        refine lv_iinc (v := a + 1) (lv' := [(3, .int (a + 1)), (0, .ref (ad 4)), (1, .int v), (2, .int (nI k)), (4, .int (nI i))]) S.1 S.2.1 dX0_delaysAbove_29 hl (k := 3) rfl (rfl) (by decide) rfl (fun ls hl => ?_)
        refine lv_iinc (v := nI (i + 1)) (lv' := [(4, .int (nI (i + 1))), (3, .int (a + 1)), (0, .ref (ad 4)), (1, .int v), (2, .int (nI k))]) S.1 S.2.1 dX0_delaysAbove_32 hl (k := 4) rfl (nI_1 _) (by decide) rfl (fun ls hl => ?_)
        refine lv_goto (tgt := 10) S.1 S.2.1 dX0_delaysAbove_35 (by decide) ?_
        exact ih (i + 1) (a + 1) (by omega) (by rw [hI, cgt]; simp only [c26, if_true, if_false]) _ _ M ls (lv_sub hl [2, 3, 4, 1, 0] rfl)
  refine lv_iconst (v := 0) S.1 S.2.1 dX0_delaysAbove_0 (by decide) ?_
  refine lv_istore_n (lv' := [(3, .int 0), (0, .ref (ad 4)), (1, .int v), (2, .int (nI k))]) S.1 S.2.1 dX0_delaysAbove_1 rfl hl (by decide) rfl (fun ls hl => ?_)
  refine lv_aload_n S.1 S.2.1 dX0_delaysAbove_2 rfl (lv_at hl 1 rfl) ?_
  refine gget S hE M (C := RX0) (T := TX0) (N := 6) (ci := 0) (index := 32) hwi 0 rfl rfl 5 (by decide) (by decide +kernel) rfl dX0_delaysAbove_3 ?_
  refine lv_iload_n S.1 S.2.1 dX0_delaysAbove_6 rfl (lv_at hl 3 rfl) ?_
  refine lv_isub S.1 S.2.1 dX0_delaysAbove_7 ?_
  refine gtop (x' := nI (z.ct - k)) (pk_sub hk) ?_
  refine lv_istore (lv' := [(4, .int (nI (z.ct - k))), (3, .int 0), (0, .ref (ad 4)), (1, .int v), (2, .int (nI k))]) S.1 S.2.1 dX0_delaysAbove_8 hl (by decide) rfl (fun ls hl => ?_)
  exact hL k (z.ct - k) 0 (by omega) rfl _ _ M ls (lv_sub hl [2, 3, 4, 1, 0] rfl)

set_option maxHeartbeats 4000000 in
set_option maxRecDepth 100000 in
theorem c_X0_add (l : Launch) (E : xE) (ad : Nat → Nat) (z : ArrS) (n : Int32) (t : Int32) : mI l yX0_add wsX0_add (xrm 1 22) E [.ref (ad 4), .int n, .int t] (arrGs E ad z) (nI z.ct) (arrGs E ad (ArrS.add z n t)) := by
  intro sz
  refine Met.ofW (cc := cX0_add) (maxL := 4) (ret := (some .int)) (by decide +kernel) rfl ?_
  intro vp ve s vm args below meth vc s₁ B hml hv
  obtain ⟨rfl, S, hr, hlk, hnm, A, hA, hE, M⟩ := genter B hml hv
  rw [hA]
  obtain ⟨ls, hfr, hl⟩ := gst (m := vm) (as := [.ref (ad 4), .int n, .int t]) (n := 4) (Nat.le_of_ble_eq_true rfl)
  rw [hfr]
  clear hfr hA
  have hl : lv_has ls 4 [(0, .ref (ad 4)), (1, .int n), (2, .int t)] := hl
  have M : gM E A s.heap [[(ad 4, .inr (0, [.ref (ad 5), .ref (ad 7), .ref (ad 9), .ref (ad 11), .ref (ad 13), .int (nI z.ct)]))], rowW E (ad 5) (ad 6) 300 z.pa, rowW E (ad 7) (ad 8) 120 z.fr, rowW E (ad 9) (ad 10) 120 z.wh, rowW E (ad 11) (ad 12) 120 z.sn, rowW E (ad 13) (ad 14) 120 z.pt] s.heap [] := M
  have hwi : ∀ w ∈ u_ws RX0 TX0 6, w ∈ wsX0_add := by decide +kernel
  refine lv_aload_n S.1 S.2.1 dX0_add_0 rfl (lv_at hl 0 rfl) ?_
  refine gget S hE M (C := RX0) (T := TX0) (N := 6) (ci := 0) (index := 32) hwi 0 rfl rfl 5 (by decide) (by decide +kernel) rfl dX0_add_1 ?_
  refine lv_istore_n (lv' := [(3, .int (nI z.ct)), (0, .ref (ad 4)), (1, .int n), (2, .int t)]) S.1 S.2.1 dX0_add_4 rfl hl (by decide) rfl (fun ls hl => ?_)
  refine lv_aload_n S.1 S.2.1 dX0_add_5 rfl (lv_at hl 1 rfl) ?_
  refine gget S hE M (C := RX0) (T := TX0) (N := 6) (ci := 0) (index := 20) hwi 0 rfl rfl 1 (by decide) (by decide +kernel) rfl dX0_add_6 ?_
  refine lv_iload_n S.1 S.2.1 dX0_add_9 rfl (lv_at hl 0 rfl) ?_
  refine lv_iload_n S.1 S.2.1 dX0_add_10 rfl (lv_at hl 2 rfl) ?_
  refine gcallv (L := [[(ad 4, .inr (0, [.ref (ad 5), .ref (ad 7), .ref (ad 9), .ref (ad 11), .ref (ad 13), .int (nI z.ct)]))], rowW E (ad 5) (ad 6) 300 z.pa]) (Mid := [rowW E (ad 7) (ad 8) 120 z.fr]) (Rr := [rowW E (ad 9) (ad 10) 120 z.wh, rowW E (ad 11) (ad 12) 120 z.sn, rowW E (ad 13) (ad 14) 120 z.pt]) (Mid' := [rowW E (ad 7) (ad 8) 120 (rs 120 z.fr (nI z.ct) n)]) hE M rfl (List.append_nil _) (List.append_nil _) (fun hp => va_runV (As := [.int (nI z.ct), .int n]) (rest := []) S (c_X2_set l E (ad 7) (ad 8) 120 z.fr (nI z.ct) n (by decide) _) (cwV 2 S.2.2.2.2 gX0_add_X2_set rfl rfl rfl kd_X2_set ⟨Nat.le_of_ble_eq_true rfl, Nat.le_of_ble_eq_true rfl⟩) (hp.V hE (show vwCl[2]? = some (RX2, TX2, 1) from rfl) rfl) rfl rfl hl.1 rfl (lv_room (Nat.le_of_ble_eq_true rfl)) dX0_add_11 ⟨Nat.zero_le _, Nat.zero_le _⟩) (fun H locs M => ?_)
  have M : gM E A s.heap [[(ad 4, .inr (0, [.ref (ad 5), .ref (ad 7), .ref (ad 9), .ref (ad 11), .ref (ad 13), .int (nI z.ct)]))], rowW E (ad 5) (ad 6) 300 z.pa, rowW E (ad 7) (ad 8) 120 (rs 120 z.fr (nI z.ct) n), rowW E (ad 9) (ad 10) 120 z.wh, rowW E (ad 11) (ad 12) 120 z.sn, rowW E (ad 13) (ad 14) 120 z.pt] H locs := M
  refine lv_aload_n S.1 S.2.1 dX0_add_14 rfl (lv_at hl 1 rfl) ?_
  refine gget S hE M (C := RX0) (T := TX0) (N := 6) (ci := 0) (index := 23) hwi 0 rfl rfl 2 (by decide) (by decide +kernel) rfl dX0_add_15 ?_
  refine lv_iload_n S.1 S.2.1 dX0_add_18 rfl (lv_at hl 0 rfl) ?_
  refine lv_iload_n S.1 S.2.1 dX0_add_19 rfl (lv_at hl 3 rfl) ?_
  refine gcallv (L := [[(ad 4, .inr (0, [.ref (ad 5), .ref (ad 7), .ref (ad 9), .ref (ad 11), .ref (ad 13), .int (nI z.ct)]))], rowW E (ad 5) (ad 6) 300 z.pa, rowW E (ad 7) (ad 8) 120 (rs 120 z.fr (nI z.ct) n)]) (Mid := [rowW E (ad 9) (ad 10) 120 z.wh]) (Rr := [rowW E (ad 11) (ad 12) 120 z.sn, rowW E (ad 13) (ad 14) 120 z.pt]) (Mid' := [rowW E (ad 9) (ad 10) 120 (rs 120 z.wh (nI z.ct) t)]) hE M rfl (List.append_nil _) (List.append_nil _) (fun hp => va_runV (As := [.int (nI z.ct), .int t]) (rest := []) S (c_X2_set l E (ad 9) (ad 10) 120 z.wh (nI z.ct) t (by decide) _) (cwV 2 S.2.2.2.2 gX0_add_X2_set rfl rfl rfl kd_X2_set ⟨Nat.le_of_ble_eq_true rfl, Nat.le_of_ble_eq_true rfl⟩) (hp.V hE (show vwCl[2]? = some (RX2, TX2, 1) from rfl) rfl) rfl rfl hl.1 rfl (lv_room (Nat.le_of_ble_eq_true rfl)) dX0_add_20 ⟨Nat.zero_le _, Nat.zero_le _⟩) (fun H locs M => ?_)
  have M : gM E A s.heap [[(ad 4, .inr (0, [.ref (ad 5), .ref (ad 7), .ref (ad 9), .ref (ad 11), .ref (ad 13), .int (nI z.ct)]))], rowW E (ad 5) (ad 6) 300 z.pa, rowW E (ad 7) (ad 8) 120 (rs 120 z.fr (nI z.ct) n), rowW E (ad 9) (ad 10) 120 (rs 120 z.wh (nI z.ct) t), rowW E (ad 11) (ad 12) 120 z.sn, rowW E (ad 13) (ad 14) 120 z.pt] H locs := M
  refine lv_aload_n S.1 S.2.1 dX0_add_23 rfl (lv_at hl 1 rfl) ?_
  refine gget S hE M (C := RX0) (T := TX0) (N := 6) (ci := 0) (index := 14) hwi 0 rfl rfl 0 (by decide) (by decide +kernel) rfl dX0_add_24 ?_
  refine lv_iload_n S.1 S.2.1 dX0_add_27 rfl (lv_at hl 2 rfl) ?_
  refine lv_iload_n S.1 S.2.1 dX0_add_28 rfl (lv_at hl 0 rfl) ?_
  refine lv_iconst (v := 1) S.1 S.2.1 dX0_add_29 (by decide) ?_
  refine lv_iadd S.1 S.2.1 dX0_add_30 ?_
  refine gcallv (L := [[(ad 4, .inr (0, [.ref (ad 5), .ref (ad 7), .ref (ad 9), .ref (ad 11), .ref (ad 13), .int (nI z.ct)]))]]) (Mid := [rowW E (ad 5) (ad 6) 300 z.pa]) (Rr := [rowW E (ad 7) (ad 8) 120 (rs 120 z.fr (nI z.ct) n), rowW E (ad 9) (ad 10) 120 (rs 120 z.wh (nI z.ct) t), rowW E (ad 11) (ad 12) 120 z.sn, rowW E (ad 13) (ad 14) 120 z.pt]) (Mid' := [rowW E (ad 5) (ad 6) 300 (rs 300 z.pa n ((nI z.ct) + 1))]) hE M rfl (List.append_nil _) (List.append_nil _) (fun hp => va_runV (As := [.int n, .int ((nI z.ct) + 1)]) (rest := []) S (c_X2_set l E (ad 5) (ad 6) 300 z.pa n ((nI z.ct) + 1) (by decide) _) (cwV 2 S.2.2.2.2 gX0_add_X2_set rfl rfl rfl kd_X2_set ⟨Nat.le_of_ble_eq_true rfl, Nat.le_of_ble_eq_true rfl⟩) (hp.V hE (show vwCl[2]? = some (RX2, TX2, 1) from rfl) rfl) rfl rfl hl.1 rfl (lv_room (Nat.le_of_ble_eq_true rfl)) dX0_add_31 ⟨Nat.zero_le _, Nat.zero_le _⟩) (fun H locs M => ?_)
  have M : gM E A s.heap [[(ad 4, .inr (0, [.ref (ad 5), .ref (ad 7), .ref (ad 9), .ref (ad 11), .ref (ad 13), .int (nI z.ct)]))], rowW E (ad 5) (ad 6) 300 (rs 300 z.pa n ((nI z.ct) + 1)), rowW E (ad 7) (ad 8) 120 (rs 120 z.fr (nI z.ct) n), rowW E (ad 9) (ad 10) 120 (rs 120 z.wh (nI z.ct) t), rowW E (ad 11) (ad 12) 120 z.sn, rowW E (ad 13) (ad 14) 120 z.pt] H locs := M
  refine lv_aload_n S.1 S.2.1 dX0_add_34 rfl (lv_at hl 1 rfl) ?_
  refine lv_dup S.1 S.2.1 dX0_add_35 rfl ?_
  refine gget S hE M (C := RX0) (T := TX0) (N := 6) (ci := 0) (index := 32) hwi 0 rfl rfl 5 (by decide) (by decide +kernel) rfl dX0_add_36 ?_
  refine lv_iconst (v := 1) S.1 S.2.1 dX0_add_39 (by decide) ?_
  refine lv_iadd S.1 S.2.1 dX0_add_40 ?_
  refine gtop (x' := nI (z.ct + 1)) (nI_1 _) ?_
  refine gput S hE M (C := RX0) (T := TX0) (N := 6) (ci := 0) (index := 32) (Gs' := [[(ad 4, .inr (0, [.ref (ad 5), .ref (ad 7), .ref (ad 9), .ref (ad 11), .ref (ad 13), .int (nI (z.ct + 1))]))], rowW E (ad 5) (ad 6) 300 (rs 300 z.pa n ((nI z.ct) + 1)), rowW E (ad 7) (ad 8) 120 (rs 120 z.fr (nI z.ct) n), rowW E (ad 9) (ad 10) 120 (rs 120 z.wh (nI z.ct) t), rowW E (ad 11) (ad 12) 120 z.sn, rowW E (ad 13) (ad 14) 120 z.pt]) hwi tyX0 tyX0_ok nmX0 0 rfl rfl 5 (by decide) (by decide +kernel) rfl rfl rfl (Nat.le_of_ble_eq_true rfl) rfl dX0_add_41 (fun H locs M => ?_)
  refine lv_iload_n S.1 S.2.1 dX0_add_44 rfl (lv_at hl 0 rfl) ?_
  exact giret S hr hlk M (rfl) (rfl) dX0_add_45

set_option maxHeartbeats 4000000 in
set_option maxRecDepth 100000 in
theorem c_X0_settle (l : Launch) (E : xE) (ad : Nat → Nat) (z : ArrS) (i : Int32) (k : Int32) (t : Int32) : mV l yX0_settle wsX0_settle (xrm 1 22) E [.ref (ad 4), .int i, .int k, .int t] (arrGs E ad z) (arrGs E ad (ArrS.settle z i k t)) := by
  intro sz
  refine Met.ofW (cc := cX0_settle) (maxL := 4) (ret := none) (by decide +kernel) rfl ?_
  intro vp ve s vm args below meth vc s₁ B hml hv
  obtain ⟨rfl, S, hr, hlk, hnm, A, hA, hE, M⟩ := genter B hml hv
  rw [hA]
  obtain ⟨ls, hfr, hl⟩ := gst (m := vm) (as := [.ref (ad 4), .int i, .int k, .int t]) (n := 4) (Nat.le_of_ble_eq_true rfl)
  rw [hfr]
  clear hfr hA
  have hl : lv_has ls 4 [(0, .ref (ad 4)), (1, .int i), (2, .int k), (3, .int t)] := hl
  have M : gM E A s.heap [[(ad 4, .inr (0, [.ref (ad 5), .ref (ad 7), .ref (ad 9), .ref (ad 11), .ref (ad 13), .int (nI z.ct)]))], rowW E (ad 5) (ad 6) 300 z.pa, rowW E (ad 7) (ad 8) 120 z.fr, rowW E (ad 9) (ad 10) 120 z.wh, rowW E (ad 11) (ad 12) 120 z.sn, rowW E (ad 13) (ad 14) 120 z.pt] s.heap [] := M
  have hwi : ∀ w ∈ u_ws RX0 TX0 6, w ∈ wsX0_settle := by decide +kernel
  refine lv_aload_n S.1 S.2.1 dX0_settle_0 rfl (lv_at hl 0 rfl) ?_
  refine gget S hE M (C := RX0) (T := TX0) (N := 6) (ci := 0) (index := 26) hwi 0 rfl rfl 3 (by decide) (by decide +kernel) rfl dX0_settle_1 ?_
  refine lv_iload_n S.1 S.2.1 dX0_settle_4 rfl (lv_at hl 1 rfl) ?_
  refine lv_iload_n S.1 S.2.1 dX0_settle_5 rfl (lv_at hl 2 rfl) ?_
  refine gcallv (L := [[(ad 4, .inr (0, [.ref (ad 5), .ref (ad 7), .ref (ad 9), .ref (ad 11), .ref (ad 13), .int (nI z.ct)]))], rowW E (ad 5) (ad 6) 300 z.pa, rowW E (ad 7) (ad 8) 120 z.fr, rowW E (ad 9) (ad 10) 120 z.wh]) (Mid := [rowW E (ad 11) (ad 12) 120 z.sn]) (Rr := [rowW E (ad 13) (ad 14) 120 z.pt]) (Mid' := [rowW E (ad 11) (ad 12) 120 (rs 120 z.sn i k)]) hE M rfl (List.append_nil _) (List.append_nil _) (fun hp => va_runV (As := [.int i, .int k]) (rest := []) S (c_X2_set l E (ad 11) (ad 12) 120 z.sn i k (by decide) _) (cwV 2 S.2.2.2.2 gX0_settle_X2_set rfl rfl rfl kd_X2_set ⟨Nat.le_of_ble_eq_true rfl, Nat.le_of_ble_eq_true rfl⟩) (hp.V hE (show vwCl[2]? = some (RX2, TX2, 1) from rfl) rfl) rfl rfl hl.1 rfl (lv_room (Nat.le_of_ble_eq_true rfl)) dX0_settle_6 ⟨Nat.zero_le _, Nat.zero_le _⟩) (fun H locs M => ?_)
  have M : gM E A s.heap [[(ad 4, .inr (0, [.ref (ad 5), .ref (ad 7), .ref (ad 9), .ref (ad 11), .ref (ad 13), .int (nI z.ct)]))], rowW E (ad 5) (ad 6) 300 z.pa, rowW E (ad 7) (ad 8) 120 z.fr, rowW E (ad 9) (ad 10) 120 z.wh, rowW E (ad 11) (ad 12) 120 (rs 120 z.sn i k), rowW E (ad 13) (ad 14) 120 z.pt] H locs := M
  refine lv_aload_n S.1 S.2.1 dX0_settle_9 rfl (lv_at hl 0 rfl) ?_
  refine gget S hE M (C := RX0) (T := TX0) (N := 6) (ci := 0) (index := 29) hwi 0 rfl rfl 4 (by decide) (by decide +kernel) rfl dX0_settle_10 ?_
  refine lv_iload_n S.1 S.2.1 dX0_settle_13 rfl (lv_at hl 1 rfl) ?_
  refine lv_iload_n S.1 S.2.1 dX0_settle_14 rfl (lv_at hl 3 rfl) ?_
  refine gcallv (L := [[(ad 4, .inr (0, [.ref (ad 5), .ref (ad 7), .ref (ad 9), .ref (ad 11), .ref (ad 13), .int (nI z.ct)]))], rowW E (ad 5) (ad 6) 300 z.pa, rowW E (ad 7) (ad 8) 120 z.fr, rowW E (ad 9) (ad 10) 120 z.wh, rowW E (ad 11) (ad 12) 120 (rs 120 z.sn i k)]) (Mid := [rowW E (ad 13) (ad 14) 120 z.pt]) (Rr := []) (Mid' := [rowW E (ad 13) (ad 14) 120 (rs 120 z.pt i t)]) hE M rfl (List.append_nil _) (List.append_nil _) (fun hp => va_runV (As := [.int i, .int t]) (rest := []) S (c_X2_set l E (ad 13) (ad 14) 120 z.pt i t (by decide) _) (cwV 2 S.2.2.2.2 gX0_settle_X2_set rfl rfl rfl kd_X2_set ⟨Nat.le_of_ble_eq_true rfl, Nat.le_of_ble_eq_true rfl⟩) (hp.V hE (show vwCl[2]? = some (RX2, TX2, 1) from rfl) rfl) rfl rfl hl.1 rfl (lv_room (Nat.le_of_ble_eq_true rfl)) dX0_settle_15 ⟨Nat.zero_le _, Nat.zero_le _⟩) (fun H locs M => ?_)
  have M : gM E A s.heap [[(ad 4, .inr (0, [.ref (ad 5), .ref (ad 7), .ref (ad 9), .ref (ad 11), .ref (ad 13), .int (nI z.ct)]))], rowW E (ad 5) (ad 6) 300 z.pa, rowW E (ad 7) (ad 8) 120 z.fr, rowW E (ad 9) (ad 10) 120 z.wh, rowW E (ad 11) (ad 12) 120 (rs 120 z.sn i k), rowW E (ad 13) (ad 14) 120 (rs 120 z.pt i t)] H locs := M
  exact gvret S hr hlk M (rfl) dX0_settle_18

set_option maxHeartbeats 4000000 in
set_option maxRecDepth 100000 in
theorem c_X0_clear (l : Launch) (E : xE) (ad : Nat → Nat) (z : ArrS) (hc : z.ct ≤ 120) : mV l yX0_clear wsX0_clear (xrm 1 22) E [.ref (ad 4)] (arrGs E ad z) (arrGs E ad (ArrS.clear z)) := by
  intro sz
  refine Met.ofW (cc := cX0_clear) (maxL := 2) (ret := none) (by decide +kernel) rfl ?_
  intro vp ve s vm args below meth vc s₁ B hml hv
  obtain ⟨rfl, S, hr, hlk, hnm, A, hA, hE, M⟩ := genter B hml hv
  rw [hA]
  obtain ⟨ls, hfr, hl⟩ := gst (m := vm) (as := [.ref (ad 4)]) (n := 2) (Nat.le_of_ble_eq_true rfl)
  rw [hfr]
  clear hfr hA
  have hl : lv_has ls 2 [(0, .ref (ad 4))] := hl
  have M : gM E A s.heap [[(ad 4, .inr (0, [.ref (ad 5), .ref (ad 7), .ref (ad 9), .ref (ad 11), .ref (ad 13), .int (nI z.ct)]))], rowW E (ad 5) (ad 6) 300 z.pa, rowW E (ad 7) (ad 8) 120 z.fr, rowW E (ad 9) (ad 10) 120 z.wh, rowW E (ad 11) (ad 12) 120 z.sn, rowW E (ad 13) (ad 14) 120 z.pt] s.heap [] := M
  have hwi : ∀ w ∈ u_ws RX0 TX0 6, w ∈ wsX0_clear := by decide +kernel
  obtain ⟨Q, hQ⟩ : ∃ Q : State → Prop, MQ below (va_Qv (fun (_ : Unit) => True) (fun _ => kQ E A (arrGs E ad (ArrS.clear z))) A) ([.ref (ad 4)] : List Value).toArray s 0 0 A = Q := ⟨_, rfl⟩
  rw [hQ]
  have hL : ∀ (n : Nat), ∀ (i : Nat) (pa : Nat → Int32), i + n = z.ct → clr z.fr z.ct 0 z.pa = clr z.fr n i pa → ∀ (H : Heap) (locs : List Loc), gM E A s.heap [[(ad 4, .inr (0, [.ref (ad 5), .ref (ad 7), .ref (ad 9), .ref (ad 11), .ref (ad 13), .int (nI z.ct)]))], rowW E (ad 5) (ad 6) 300 pa, rowW E (ad 7) (ad 8) 120 z.fr, rowW E (ad 9) (ad 10) 120 z.wh, rowW E (ad 11) (ad 12) 120 z.sn, rowW E (ad 13) (ad 14) 120 z.pt] H locs → ∀ ls : Array Slot, lv_has ls 2 [(0, .ref (ad 4)), (1, .int (nI i))] → W vp l ve (headSpec wsX0_clear (xrm 1 22)).room s vm ([.ref (ad 4)] : List Value).toArray below meth vc H locs 0 0 Q (F0 vm 2 ls []) := by
    intro n
    induction n with
    | zero =>
      intro i pa hi hI H locs M ls hl
      refine lv_iload_n S.1 S.2.1 dX0_clear_2 rfl (lv_at hl 1 rfl) ?_
      refine lv_aload_n S.1 S.2.1 dX0_clear_3 rfl (lv_at hl 0 rfl) ?_
      refine gget S hE M (C := RX0) (T := TX0) (N := 6) (ci := 0) (index := 32) hwi 0 rfl rfl 5 (by decide) (by decide +kernel) rfl dX0_clear_4 ?_
      refine lv_icmp_ge (tgt := 32) S.1 S.2.1 dX0_clear_7 (by decide) (fun _ => ?_) (fun c_ => absurd (nI_le (by omega) (by omega)) c_)
      refine lv_aload_n S.1 S.2.1 dX0_clear_32 rfl (lv_at hl 0 rfl) ?_
      refine lv_iconst (v := 0) S.1 S.2.1 dX0_clear_33 (by decide) ?_
      refine gput S hE M (C := RX0) (T := TX0) (N := 6) (ci := 0) (index := 32) (Gs' := [[(ad 4, .inr (0, [.ref (ad 5), .ref (ad 7), .ref (ad 9), .ref (ad 11), .ref (ad 13), .int 0]))], rowW E (ad 5) (ad 6) 300 pa, rowW E (ad 7) (ad 8) 120 z.fr, rowW E (ad 9) (ad 10) 120 z.wh, rowW E (ad 11) (ad 12) 120 z.sn, rowW E (ad 13) (ad 14) 120 z.pt]) hwi tyX0 tyX0_ok nmX0 0 rfl rfl 5 (by decide) (by decide +kernel) rfl rfl rfl (Nat.le_of_ble_eq_true rfl) rfl dX0_clear_34 (fun H locs M => ?_)
      rw [← hQ]
      exact gvret S hr hlk M (by unfold ArrS.clear; rw [hI, clr]; rfl) dX0_clear_37
    | succ n ih =>
      intro i pa hi hI H locs M ls hl
      refine lv_iload_n S.1 S.2.1 dX0_clear_2 rfl (lv_at hl 1 rfl) ?_
      refine lv_aload_n S.1 S.2.1 dX0_clear_3 rfl (lv_at hl 0 rfl) ?_
      refine gget S hE M (C := RX0) (T := TX0) (N := 6) (ci := 0) (index := 32) hwi 0 rfl rfl 5 (by decide) (by decide +kernel) rfl dX0_clear_4 ?_
      refine lv_icmp_ge (tgt := 32) S.1 S.2.1 dX0_clear_7 (by decide) (fun c_ => absurd c_ (nI_ge (by omega) (by omega))) (fun _ => ?_)
      refine lv_aload_n S.1 S.2.1 dX0_clear_10 rfl (lv_at hl 0 rfl) ?_
      refine gget S hE M (C := RX0) (T := TX0) (N := 6) (ci := 0) (index := 14) hwi 0 rfl rfl 0 (by decide) (by decide +kernel) rfl dX0_clear_11 ?_
      refine lv_aload_n S.1 S.2.1 dX0_clear_14 rfl (lv_at hl 0 rfl) ?_
      refine gget S hE M (C := RX0) (T := TX0) (N := 6) (ci := 0) (index := 20) hwi 0 rfl rfl 1 (by decide) (by decide +kernel) rfl dX0_clear_15 ?_
      refine lv_iload_n S.1 S.2.1 dX0_clear_18 rfl (lv_at hl 1 rfl) ?_
      refine gcalli (L := [[(ad 4, .inr (0, [.ref (ad 5), .ref (ad 7), .ref (ad 9), .ref (ad 11), .ref (ad 13), .int (nI z.ct)]))], rowW E (ad 5) (ad 6) 300 pa]) (Mid := [rowW E (ad 7) (ad 8) 120 z.fr]) (Rr := [rowW E (ad 9) (ad 10) 120 z.wh, rowW E (ad 11) (ad 12) 120 z.sn, rowW E (ad 13) (ad 14) 120 z.pt]) (Mid' := [rowW E (ad 7) (ad 8) 120 z.fr]) hE M rfl (List.append_nil _) (List.append_nil _) (fun hp => va_runV (As := [.int (nI i)]) (rest := [.ref (ad 5)]) S (c_X2_get l E (ad 7) (ad 8) 120 z.fr (nI i) (by decide) _) (cwV 1 S.2.2.2.2 gX0_clear_X2_get rfl rfl rfl kd_X2_get ⟨Nat.le_of_ble_eq_true rfl, Nat.le_of_ble_eq_true rfl⟩) (hp.V hE (show vwCl[2]? = some (RX2, TX2, 1) from rfl) rfl) rfl rfl hl.1 rfl (lv_room (Nat.le_of_ble_eq_true rfl)) dX0_clear_19 ⟨Nat.zero_le _, Nat.zero_le _⟩) (fun H locs M => ?_)
      have M : gM E A s.heap [[(ad 4, .inr (0, [.ref (ad 5), .ref (ad 7), .ref (ad 9), .ref (ad 11), .ref (ad 13), .int (nI z.ct)]))], rowW E (ad 5) (ad 6) 300 pa, rowW E (ad 7) (ad 8) 120 z.fr, rowW E (ad 9) (ad 10) 120 z.wh, rowW E (ad 11) (ad 12) 120 z.sn, rowW E (ad 13) (ad 14) 120 z.pt] H locs := M
      refine lv_iconst (v := 0) S.1 S.2.1 dX0_clear_22 (by decide) ?_
      refine gcallv (L := [[(ad 4, .inr (0, [.ref (ad 5), .ref (ad 7), .ref (ad 9), .ref (ad 11), .ref (ad 13), .int (nI z.ct)]))]]) (Mid := [rowW E (ad 5) (ad 6) 300 pa]) (Rr := [rowW E (ad 7) (ad 8) 120 z.fr, rowW E (ad 9) (ad 10) 120 z.wh, rowW E (ad 11) (ad 12) 120 z.sn, rowW E (ad 13) (ad 14) 120 z.pt]) (Mid' := [rowW E (ad 5) (ad 6) 300 (rs 300 pa (rg 120 z.fr (nI i)) 0)]) hE M rfl (List.append_nil _) (List.append_nil _) (fun hp => va_runV (As := [.int (rg 120 z.fr (nI i)), .int 0]) (rest := []) S (c_X2_set l E (ad 5) (ad 6) 300 pa (rg 120 z.fr (nI i)) 0 (by decide) _) (cwV 2 S.2.2.2.2 gX0_clear_X2_set rfl rfl rfl kd_X2_set ⟨Nat.le_of_ble_eq_true rfl, Nat.le_of_ble_eq_true rfl⟩) (hp.V hE (show vwCl[2]? = some (RX2, TX2, 1) from rfl) rfl) rfl rfl hl.1 rfl (lv_room (Nat.le_of_ble_eq_true rfl)) dX0_clear_23 ⟨Nat.zero_le _, Nat.zero_le _⟩) (fun H locs M => ?_)
      have M : gM E A s.heap [[(ad 4, .inr (0, [.ref (ad 5), .ref (ad 7), .ref (ad 9), .ref (ad 11), .ref (ad 13), .int (nI z.ct)]))], rowW E (ad 5) (ad 6) 300 (rs 300 pa (rg 120 z.fr (nI i)) 0), rowW E (ad 7) (ad 8) 120 z.fr, rowW E (ad 9) (ad 10) 120 z.wh, rowW E (ad 11) (ad 12) 120 z.sn, rowW E (ad 13) (ad 14) 120 z.pt] H locs := M
      refine lv_iinc (v := nI (i + 1)) (lv' := [(1, .int (nI (i + 1))), (0, .ref (ad 4))]) S.1 S.2.1 dX0_clear_26 hl (k := 1) rfl (nI_1 _) (by decide) rfl (fun ls hl => ?_)
      refine lv_goto (tgt := 2) S.1 S.2.1 dX0_clear_29 (by decide) ?_
      exact ih (i + 1) _ (by omega) (by rw [hI, clr]) _ _ M ls (lv_sub hl [1, 0] rfl)
  refine lv_iconst (v := 0) S.1 S.2.1 dX0_clear_0 (by decide) ?_
  refine lv_istore_n (lv' := [(1, .int 0), (0, .ref (ad 4))]) S.1 S.2.1 dX0_clear_1 rfl hl (by decide) rfl (fun ls hl => ?_)
  exact hL z.ct 0 z.pa (by omega) rfl _ _ M ls (lv_sub hl [1, 0] rfl)
