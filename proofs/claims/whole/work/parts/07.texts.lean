theorem kd_J0_charAt_5068e : yJ0_charAt_5068e.cls = RJ0 ∧ yJ0_charAt_5068e.cls ≠ "java/lang/invoke/MethodHandle" ∧ yJ0_charAt_5068e.cls ≠ "java/lang/invoke/VarHandle" ∧ (parseMethodDescriptor yJ0_charAt_5068e.desc).map (fun d => d.parameters.length) = some 1 := by decide +kernel
theorem kd_J0_checkIndex_df160 : yJ0_checkIndex_df160.cls = RJ0 ∧ yJ0_checkIndex_df160.cls ≠ "java/lang/invoke/MethodHandle" ∧ yJ0_checkIndex_df160.cls ≠ "java/lang/invoke/VarHandle" ∧ (parseMethodDescriptor yJ0_checkIndex_df160.desc).map (fun d => d.parameters.length) = some 2 := by decide +kernel
theorem kd_J0_coder_7d493 : yJ0_coder_7d493.cls = RJ0 ∧ yJ0_coder_7d493.cls ≠ "java/lang/invoke/MethodHandle" ∧ yJ0_coder_7d493.cls ≠ "java/lang/invoke/VarHandle" ∧ (parseMethodDescriptor yJ0_coder_7d493.desc).map (fun d => d.parameters.length) = some 0 := by decide +kernel
theorem kd_J0_isLatin1_aae02 : yJ0_isLatin1_aae02.cls = RJ0 ∧ yJ0_isLatin1_aae02.cls ≠ "java/lang/invoke/MethodHandle" ∧ yJ0_isLatin1_aae02.cls ≠ "java/lang/invoke/VarHandle" ∧ (parseMethodDescriptor yJ0_isLatin1_aae02.desc).map (fun d => d.parameters.length) = some 0 := by decide +kernel
theorem kd_J0_length_8abf5 : yJ0_length_8abf5.cls = RJ0 ∧ yJ0_length_8abf5.cls ≠ "java/lang/invoke/MethodHandle" ∧ yJ0_length_8abf5.cls ≠ "java/lang/invoke/VarHandle" ∧ (parseMethodDescriptor yJ0_length_8abf5.desc).map (fun d => d.parameters.length) = some 0 := by decide +kernel
theorem kd_J1_charAt_3b067 : yJ1_charAt_3b067.cls = RJ1 ∧ yJ1_charAt_3b067.cls ≠ "java/lang/invoke/MethodHandle" ∧ yJ1_charAt_3b067.cls ≠ "java/lang/invoke/VarHandle" ∧ (parseMethodDescriptor yJ1_charAt_3b067.desc).map (fun d => d.parameters.length) = some 2 := by decide +kernel
theorem kd_J3_checkIndex_8e157 : yJ3_checkIndex_8e157.cls = RJ3 ∧ yJ3_checkIndex_8e157.cls ≠ "java/lang/invoke/MethodHandle" ∧ yJ3_checkIndex_8e157.cls ≠ "java/lang/invoke/VarHandle" ∧ (parseMethodDescriptor yJ3_checkIndex_8e157.desc).map (fun d => d.parameters.length) = some 3 := by decide +kernel
set_option maxHeartbeats 4000000 in
set_option maxRecDepth 100000 in
theorem c_J0_coder_7d493 (l : Launch) (E : xE) (k : Nat) (hk : k < 5) : mI l yJ0_coder_7d493 wsJ0_coder_7d493 (xrm 0 0) E [.ref (xK E k)] (([] : List va_W)) 0 (([] : List va_W)) := by
  intro sz
  refine va_MetF (cc := cJ0_coder_7d493) (maxL := 1) (ret := (some .byte)) (by decide +kernel) rfl ?_
  intro vp ve s vm args below meth vc s₁ B hml hv
  obtain ⟨rfl, S, hr, hlk, hnm, A, hA, hE, M⟩ := genter B hml hv
  rw [hA]
  obtain ⟨ls, hfr, hl⟩ := gst (m := vm) (as := [.ref (xK E k)]) (n := 1) (Nat.le_of_ble_eq_true rfl)
  rw [hfr]
  clear hfr hA
  have hl : lv_has ls 1 [(0, .ref (xK E k))] := hl
  have M : gM E A s.heap [] s.heap [] := M
  refine va_gets S.1 S.2.1 hE.2.2.2.1 M.2.2.1 S.2.2.2.1 (S.2.2.2.2 (.fieldLink RJ0 38 "java/lang/String" "COMPACT_STRINGS" "Z") (by decide +kernel)) (fun _ h => h) dJ0_coder_7d493_0 ?_
  refine lv_if_eq (tgt := 13) S.1 S.2.1 dJ0_coder_7d493_3 (by decide) (fun c_ => absurd c_ (by decide)) (fun _ => ?_)
  refine lv_aload_n S.1 S.2.1 dJ0_coder_7d493_6 rfl (lv_at hl 0 rfl) ?_
  refine vk_getf S.1 S.2.1 (hE.2.1.1 k hk).2.1 M.2.2.1 S.2.2.2.1 (S.2.2.2.2 (.fieldLink RJ0 15 "java/lang/String" "coder" "B") (by decide +kernel)) (fun _ h => h) dJ0_coder_7d493_7 ?_
  refine lv_goto (tgt := 14) S.1 S.2.1 dJ0_coder_7d493_10 (by decide) ?_
  exact gzret S hr hlk M (rfl) (rfl) (rfl) dJ0_coder_7d493_14

set_option maxHeartbeats 4000000 in
set_option maxRecDepth 100000 in
theorem c_J0_isLatin1_aae02 (l : Launch) (E : xE) (k : Nat) (hk : k < 5) : mI l yJ0_isLatin1_aae02 wsJ0_isLatin1_aae02 (xrm 0 0) E [.ref (xK E k)] (([] : List va_W)) 1 (([] : List va_W)) := by
  intro sz
  refine va_MetF (cc := cJ0_isLatin1_aae02) (maxL := 1) (ret := (some .boolean)) (by decide +kernel) rfl ?_
  intro vp ve s vm args below meth vc s₁ B hml hv
  obtain ⟨rfl, S, hr, hlk, hnm, A, hA, hE, M⟩ := genter B hml hv
  rw [hA]
  obtain ⟨ls, hfr, hl⟩ := gst (m := vm) (as := [.ref (xK E k)]) (n := 1) (Nat.le_of_ble_eq_true rfl)
  rw [hfr]
  clear hfr hA
  have hl : lv_has ls 1 [(0, .ref (xK E k))] := hl
  have M : gM E A s.heap [] s.heap [] := M
  refine va_gets S.1 S.2.1 hE.2.2.2.1 M.2.2.1 S.2.2.2.1 (S.2.2.2.2 (.fieldLink RJ0 38 "java/lang/String" "COMPACT_STRINGS" "Z") (by decide +kernel)) (fun _ h => h) dJ0_isLatin1_aae02_0 ?_
  refine lv_if_eq (tgt := 17) S.1 S.2.1 dJ0_isLatin1_aae02_3 (by decide) (fun c_ => absurd c_ (by decide)) (fun _ => ?_)
  refine lv_aload_n S.1 S.2.1 dJ0_isLatin1_aae02_6 rfl (lv_at hl 0 rfl) ?_
  refine vk_getf S.1 S.2.1 (hE.2.1.1 k hk).2.1 M.2.2.1 S.2.2.2.1 (S.2.2.2.2 (.fieldLink RJ0 15 "java/lang/String" "coder" "B") (by decide +kernel)) (fun _ h => h) dJ0_isLatin1_aae02_7 ?_
  refine lv_if_ne (tgt := 17) S.1 S.2.1 dJ0_isLatin1_aae02_10 (by decide) (fun c_ => absurd (by decide) c_) (fun _ => ?_)
  refine lv_iconst (v := 1) S.1 S.2.1 dJ0_isLatin1_aae02_13 (by decide) ?_
  refine lv_goto (tgt := 18) S.1 S.2.1 dJ0_isLatin1_aae02_14 (by decide) ?_
  exact gzret S hr hlk M (rfl) (rfl) (rfl) dJ0_isLatin1_aae02_18

set_option maxHeartbeats 4000000 in
set_option maxRecDepth 100000 in
theorem c_J3_checkIndex_8e157_N (l : Launch) (E : xE) (i : Nat) (n : Nat) (hi : i < n) (hn : n < 2 ^ 31) : mI l yJ3_checkIndex_8e157 wsJ3_checkIndex_8e157 (xrm 0 0) E [.int (nI i), .int (nI n), .null] (([] : List va_W)) (nI i) (([] : List va_W)) := by
  intro sz
  refine va_MetF (cc := cJ3_checkIndex_8e157) (maxL := 3) (ret := (some .int)) (by decide +kernel) rfl ?_
  intro vp ve s vm args below meth vc s₁ B hml hv
  obtain ⟨rfl, S, hr, hlk, hnm, A, hA, hE, M⟩ := genter B hml hv
  rw [hA]
  obtain ⟨ls, hfr, hl⟩ := gst (m := vm) (as := [.int (nI i), .int (nI n), .null]) (n := 3) (Nat.le_of_ble_eq_true rfl)
  rw [hfr]
  clear hfr hA
  have hl : lv_has ls 3 [(0, .int (nI i)), (1, .int (nI n)), (2, .null)] := hl
  have M : gM E A s.heap [] s.heap [] := M
  refine lv_iload_n S.1 S.2.1 dJ3_checkIndex_8e157_0 rfl (lv_at hl 0 rfl) ?_
  refine lv_if_lt (tgt := 9) S.1 S.2.1 dJ3_checkIndex_8e157_1 (by decide) (fun c_ => absurd c_ (nI_pos (by omega))) (fun _ => ?_)
  refine lv_iload_n S.1 S.2.1 dJ3_checkIndex_8e157_4 rfl (lv_at hl 0 rfl) ?_
  refine lv_iload_n S.1 S.2.1 dJ3_checkIndex_8e157_5 rfl (lv_at hl 1 rfl) ?_
  refine lv_icmp_lt (tgt := 16) S.1 S.2.1 dJ3_checkIndex_8e157_6 (by decide) (fun _ => ?_) (fun c_ => absurd (nI_lt hi hn) c_)
  refine lv_iload_n S.1 S.2.1 dJ3_checkIndex_8e157_16 rfl (lv_at hl 0 rfl) ?_
  exact giret S hr hlk M (rfl) (rfl) dJ3_checkIndex_8e157_17

set_option maxHeartbeats 4000000 in
set_option maxRecDepth 100000 in
theorem c_J3_checkIndex_8e157_R (l : Launch) (E : xE) (i : Nat) (n : Nat) (t : Nat) (hi : i < n) (hn : n < 2 ^ 31) : mI l yJ3_checkIndex_8e157 wsJ3_checkIndex_8e157 (xrm 0 0) E [.int (nI i), .int (nI n), .ref t] (([] : List va_W)) (nI i) (([] : List va_W)) := by
  intro sz
  refine va_MetF (cc := cJ3_checkIndex_8e157) (maxL := 3) (ret := (some .int)) (by decide +kernel) rfl ?_
  intro vp ve s vm args below meth vc s₁ B hml hv
  obtain ⟨rfl, S, hr, hlk, hnm, A, hA, hE, M⟩ := genter B hml hv
  rw [hA]
  obtain ⟨ls, hfr, hl⟩ := gst (m := vm) (as := [.int (nI i), .int (nI n), .ref t]) (n := 3) (Nat.le_of_ble_eq_true rfl)
  rw [hfr]
  clear hfr hA
  have hl : lv_has ls 3 [(0, .int (nI i)), (1, .int (nI n)), (2, .ref t)] := hl
  have M : gM E A s.heap [] s.heap [] := M
  refine lv_iload_n S.1 S.2.1 dJ3_checkIndex_8e157_0 rfl (lv_at hl 0 rfl) ?_
  refine lv_if_lt (tgt := 9) S.1 S.2.1 dJ3_checkIndex_8e157_1 (by decide) (fun c_ => absurd c_ (nI_pos (by omega))) (fun _ => ?_)
  refine lv_iload_n S.1 S.2.1 dJ3_checkIndex_8e157_4 rfl (lv_at hl 0 rfl) ?_
  refine lv_iload_n S.1 S.2.1 dJ3_checkIndex_8e157_5 rfl (lv_at hl 1 rfl) ?_
  refine lv_icmp_lt (tgt := 16) S.1 S.2.1 dJ3_checkIndex_8e157_6 (by decide) (fun _ => ?_) (fun c_ => absurd (nI_lt hi hn) c_)
  refine lv_iload_n S.1 S.2.1 dJ3_checkIndex_8e157_16 rfl (lv_at hl 0 rfl) ?_
  exact giret S hr hlk M (rfl) (rfl) dJ3_checkIndex_8e157_17

set_option maxHeartbeats 4000000 in
set_option maxRecDepth 100000 in
theorem c_J0_checkIndex_df160 (l : Launch) (E : xE) (i : Nat) (n : Nat) (hi : i < n) (hn : n < 2 ^ 31) : mV l yJ0_checkIndex_df160 wsJ0_checkIndex_df160 (xrm 1 22) E [.int (nI i), .int (nI n)] (([] : List va_W)) (([] : List va_W)) := by
  intro sz
  refine va_MetF (cc := cJ0_checkIndex_df160) (maxL := 2) (ret := none) (by decide +kernel) rfl ?_
  intro vp ve s vm args below meth vc s₁ B hml hv
  obtain ⟨rfl, S, hr, hlk, hnm, A, hA, hE, M⟩ := genter B hml hv
  rw [hA]
  obtain ⟨ls, hfr, hl⟩ := gst (m := vm) (as := [.int (nI i), .int (nI n)]) (n := 2) (Nat.le_of_ble_eq_true rfl)
  rw [hfr]
  clear hfr hA
  have hl : lv_has ls 2 [(0, .int (nI i)), (1, .int (nI n))] := hl
  have M : gM E A s.heap [] s.heap [] := M
  refine lv_iload_n S.1 S.2.1 dJ0_checkIndex_df160_0 rfl (lv_at hl 0 rfl) ?_
  refine lv_iload_n S.1 S.2.1 dJ0_checkIndex_df160_1 rfl (lv_at hl 1 rfl) ?_
  by_cases cF : xF E = none
  ·
    refine va_gets S.1 S.2.1 (by have q := hE.2.2.2.2; rw [cF] at q; exact q) M.2.2.1 S.2.2.2.1 (S.2.2.2.2 (.fieldLink RJ0 1053 "jdk/internal/util/Preconditions" "SIOOBE_FORMATTER" "Ljava/util/function/BiFunction;") (by decide +kernel)) (fun _ h => h) dJ0_checkIndex_df160_2 ?_
    refine gcalli (L := []) (Mid := []) (Rr := []) (Mid' := []) hE M rfl (rfl) (rfl) (fun hp => va_runS (As := [.int (nI i), .int (nI n), .null]) (rest := []) S (c_J3_checkIndex_8e157_N l E i n hi hn _) (va_cwS 3 S.2.2.2.2 gJ0_checkIndex_df160_J3_checkIndex_8e157 rfl rfl rfl kd_J3_checkIndex_8e157.2 ⟨Nat.le_of_ble_eq_true rfl, Nat.le_of_ble_eq_true rfl⟩) hp.S rfl rfl hl.1 rfl (lv_room (Nat.le_of_ble_eq_true rfl)) dJ0_checkIndex_df160_5 ⟨Nat.zero_le _, Nat.zero_le _⟩) (fun H locs M => ?_)
    have M : gM E A s.heap [] H locs := M
    refine lv_pop S.1 S.2.1 dJ0_checkIndex_df160_8 rfl ?_
    exact gvret S hr hlk M (rfl) dJ0_checkIndex_df160_9
  ·
    obtain ⟨t, ht⟩ : ∃ t, xF E = some t := Option.ne_none_iff_exists'.mp cF
    refine va_gets S.1 S.2.1 (by have q := hE.2.2.2.2; rw [ht] at q; exact q) M.2.2.1 S.2.2.2.1 (S.2.2.2.2 (.fieldLink RJ0 1053 "jdk/internal/util/Preconditions" "SIOOBE_FORMATTER" "Ljava/util/function/BiFunction;") (by decide +kernel)) (fun _ h => h) dJ0_checkIndex_df160_2 ?_
    refine gcalli (L := []) (Mid := []) (Rr := []) (Mid' := []) hE M rfl (rfl) (rfl) (fun hp => va_runS (As := [.int (nI i), .int (nI n), .ref t]) (rest := []) S (c_J3_checkIndex_8e157_R l E i n t hi hn _) (va_cwS 3 S.2.2.2.2 gJ0_checkIndex_df160_J3_checkIndex_8e157 rfl rfl rfl kd_J3_checkIndex_8e157.2 ⟨Nat.le_of_ble_eq_true rfl, Nat.le_of_ble_eq_true rfl⟩) hp.S rfl rfl hl.1 rfl (lv_room (Nat.le_of_ble_eq_true rfl)) dJ0_checkIndex_df160_5 ⟨Nat.zero_le _, Nat.zero_le _⟩) (fun H locs M => ?_)
    have M : gM E A s.heap [] H locs := M
    refine lv_pop S.1 S.2.1 dJ0_checkIndex_df160_8 rfl ?_
    exact gvret S hr hlk M (rfl) dJ0_checkIndex_df160_9

set_option maxHeartbeats 4000000 in
set_option maxRecDepth 100000 in
theorem c_J1_charAt_3b067 (l : Launch) (E : xE) (k : Nat) (i : Nat) (hk : k < 5) (hi : i < stL.getD k 0) : mI l yJ1_charAt_3b067 wsJ1_charAt_3b067 (xrm 2 43) E [.ref (xV E k), .int (nI i)] (([] : List va_W)) ((stB.getD k []).getD i 0) (([] : List va_W)) := by
  intro sz
  refine va_MetF (cc := cJ1_charAt_3b067) (maxL := 2) (ret := (some .char)) (by decide +kernel) rfl ?_
  intro vp ve s vm args below meth vc s₁ B hml hv
  obtain ⟨rfl, S, hr, hlk, hnm, A, hA, hE, M⟩ := genter B hml hv
  rw [hA]
  obtain ⟨ls, hfr, hl⟩ := gst (m := vm) (as := [.ref (xV E k), .int (nI i)]) (n := 2) (Nat.le_of_ble_eq_true rfl)
  rw [hfr]
  clear hfr hA
  have hl : lv_has ls 2 [(0, .ref (xV E k)), (1, .int (nI i))] := hl
  have M : gM E A s.heap [] s.heap [] := M
  have hL := stL_le k
  refine lv_iload_n S.1 S.2.1 dJ1_charAt_3b067_0 rfl (lv_at hl 1 rfl) ?_
  refine lv_aload_n S.1 S.2.1 dJ1_charAt_3b067_1 rfl (lv_at hl 0 rfl) ?_
  refine va_tlen (v := nI (stL.getD k 0)) S.1 S.2.1 (hE.2.1.1 k hk).2.2.2 M.2.2.1 rfl dJ1_charAt_3b067_2 ?_
  refine gcallv (L := []) (Mid := []) (Rr := []) (Mid' := []) hE M rfl (rfl) (rfl) (fun hp => va_runS (As := [.int (nI i), .int (nI (stL.getD k 0))]) (rest := []) S (c_J0_checkIndex_df160 l E i (stL.getD k 0) hi (by omega) _) (va_cwS 2 S.2.2.2.2 gJ1_charAt_3b067_J0_checkIndex_df160 rfl rfl rfl kd_J0_checkIndex_df160.2 ⟨Nat.le_of_ble_eq_true rfl, Nat.le_of_ble_eq_true rfl⟩) hp.S rfl rfl hl.1 rfl (lv_room (Nat.le_of_ble_eq_true rfl)) dJ1_charAt_3b067_3 ⟨Nat.zero_le _, Nat.zero_le _⟩) (fun H locs M => ?_)
  have M : gM E A s.heap [] H locs := M
  refine lv_aload_n S.1 S.2.1 dJ1_charAt_3b067_6 rfl (lv_at hl 0 rfl) ?_
  refine lv_iload_n S.1 S.2.1 dJ1_charAt_3b067_7 rfl (lv_at hl 1 rfl) ?_
  refine va_tb (v := .int ((stB.getD k []).getD i 0)) S.1 S.2.1 (hE.2.1.1 k hk).2.2.2 M.2.2.1 (vp_in_nI hi (by omega)) (by rw [nI_clamp (by omega)]) dJ1_charAt_3b067_8 ?_
  refine lv_sipush (v := 255) S.1 S.2.1 dJ1_charAt_3b067_9 (by decide) ?_
  refine lv_iand S.1 S.2.1 dJ1_charAt_3b067_12 ?_
  refine lv_i2c S.1 S.2.1 dJ1_charAt_3b067_13 rfl ?_
  refine gtop (x' := (stB.getD k []).getD i 0) (st_ch hk hi) ?_
  exact gzret S hr hlk M (st_nar hk hi) (rfl) (rfl) dJ1_charAt_3b067_14

set_option maxHeartbeats 4000000 in
set_option maxRecDepth 100000 in
theorem c_J0_length_8abf5 (l : Launch) (E : xE) (k : Nat) (hk : k < 5) : mI l yJ0_length_8abf5 wsJ0_length_8abf5 (xrm 1 20) E [.ref (xK E k)] (([] : List va_W)) (nI (stL.getD k 0)) (([] : List va_W)) := by
  intro sz
  refine va_MetF (cc := cJ0_length_8abf5) (maxL := 1) (ret := (some .int)) (by decide +kernel) rfl ?_
  intro vp ve s vm args below meth vc s₁ B hml hv
  obtain ⟨rfl, S, hr, hlk, hnm, A, hA, hE, M⟩ := genter B hml hv
  rw [hA]
  obtain ⟨ls, hfr, hl⟩ := gst (m := vm) (as := [.ref (xK E k)]) (n := 1) (Nat.le_of_ble_eq_true rfl)
  rw [hfr]
  clear hfr hA
  have hl : lv_has ls 1 [(0, .ref (xK E k))] := hl
  have M : gM E A s.heap [] s.heap [] := M
  refine lv_aload_n S.1 S.2.1 dJ0_length_8abf5_0 rfl (lv_at hl 0 rfl) ?_
  refine vk_getf S.1 S.2.1 (hE.2.1.1 k hk).2.2.1 M.2.2.1 S.2.2.2.1 (S.2.2.2.2 (.fieldLink RJ0 9 "java/lang/String" "value" "[B") (by decide +kernel)) (fun _ h => h) dJ0_length_8abf5_1 ?_
  refine va_tlen (v := nI (stL.getD k 0)) S.1 S.2.1 (hE.2.1.1 k hk).2.2.2 M.2.2.1 rfl dJ0_length_8abf5_4 ?_
  refine lv_aload_n S.1 S.2.1 dJ0_length_8abf5_5 rfl (lv_at hl 0 rfl) ?_
  refine gcalli (L := []) (Mid := []) (Rr := []) (Mid' := []) hE M rfl (rfl) (rfl) (fun hp => va_runV (As := []) (rest := [.int (nI (stL.getD k 0))]) S (c_J0_coder_7d493 l E k hk _) (cwV 0 S.2.2.2.2 gJ0_length_8abf5_J0_coder_7d493 rfl rfl rfl kd_J0_coder_7d493 ⟨Nat.le_of_ble_eq_true rfl, Nat.le_of_ble_eq_true rfl⟩) (hp.T hE (hk) M.2.2.1) rfl rfl hl.1 rfl (lv_room (Nat.le_of_ble_eq_true rfl)) dJ0_length_8abf5_6 ⟨Nat.zero_le _, Nat.zero_le _⟩) (fun H locs M => ?_)
  have M : gM E A s.heap [] H locs := M
  refine lv_ishr S.1 S.2.1 dJ0_length_8abf5_9 ?_
  refine gtop (x' := nI (stL.getD k 0)) (sb_shr0 _) ?_
  exact giret S hr hlk M (rfl) (rfl) dJ0_length_8abf5_10

set_option maxHeartbeats 4000000 in
set_option maxRecDepth 100000 in
theorem c_J0_charAt_5068e (l : Launch) (E : xE) (k : Nat) (i : Nat) (hk : k < 5) (hi : i < stL.getD k 0) : mI l yJ0_charAt_5068e wsJ0_charAt_5068e (xrm 3 64) E [.ref (xK E k), .int (nI i)] (([] : List va_W)) ((stB.getD k []).getD i 0) (([] : List va_W)) := by
  intro sz
  refine va_MetF (cc := cJ0_charAt_5068e) (maxL := 2) (ret := (some .char)) (by decide +kernel) rfl ?_
  intro vp ve s vm args below meth vc s₁ B hml hv
  obtain ⟨rfl, S, hr, hlk, hnm, A, hA, hE, M⟩ := genter B hml hv
  rw [hA]
  obtain ⟨ls, hfr, hl⟩ := gst (m := vm) (as := [.ref (xK E k), .int (nI i)]) (n := 2) (Nat.le_of_ble_eq_true rfl)
  rw [hfr]
  clear hfr hA
  have hl : lv_has ls 2 [(0, .ref (xK E k)), (1, .int (nI i))] := hl
  have M : gM E A s.heap [] s.heap [] := M
  refine lv_aload_n S.1 S.2.1 dJ0_charAt_5068e_0 rfl (lv_at hl 0 rfl) ?_
  refine gcalli (L := []) (Mid := []) (Rr := []) (Mid' := []) hE M rfl (rfl) (rfl) (fun hp => va_runV (As := []) (rest := []) S (c_J0_isLatin1_aae02 l E k hk _) (cwV 0 S.2.2.2.2 gJ0_charAt_5068e_J0_isLatin1_aae02 rfl rfl rfl kd_J0_isLatin1_aae02 ⟨Nat.le_of_ble_eq_true rfl, Nat.le_of_ble_eq_true rfl⟩) (hp.T hE (hk) M.2.2.1) rfl rfl hl.1 rfl (lv_room (Nat.le_of_ble_eq_true rfl)) dJ0_charAt_5068e_1 ⟨Nat.zero_le _, Nat.zero_le _⟩) (fun H locs M => ?_)
  have M : gM E A s.heap [] H locs := M
  refine lv_if_eq (tgt := 16) S.1 S.2.1 dJ0_charAt_5068e_4 (by decide) (fun c_ => absurd c_ (by decide)) (fun _ => ?_)
  refine lv_aload_n S.1 S.2.1 dJ0_charAt_5068e_7 rfl (lv_at hl 0 rfl) ?_
  refine vk_getf S.1 S.2.1 (hE.2.1.1 k hk).2.2.1 M.2.2.1 S.2.2.2.1 (S.2.2.2.2 (.fieldLink RJ0 9 "java/lang/String" "value" "[B") (by decide +kernel)) (fun _ h => h) dJ0_charAt_5068e_8 ?_
  refine lv_iload_n S.1 S.2.1 dJ0_charAt_5068e_11 rfl (lv_at hl 1 rfl) ?_
  refine gcalli (L := []) (Mid := []) (Rr := []) (Mid' := []) hE M rfl (rfl) (rfl) (fun hp => va_runS (As := [.ref (xV E k), .int (nI i)]) (rest := []) S (c_J1_charAt_3b067 l E k i hk hi _) (va_cwS 2 S.2.2.2.2 gJ0_charAt_5068e_J1_charAt_3b067 rfl rfl rfl kd_J1_charAt_3b067.2 ⟨Nat.le_of_ble_eq_true rfl, Nat.le_of_ble_eq_true rfl⟩) hp.S rfl rfl hl.1 rfl (lv_room (Nat.le_of_ble_eq_true rfl)) dJ0_charAt_5068e_12 ⟨Nat.zero_le _, Nat.zero_le _⟩) (fun H locs M => ?_)
  have M : gM E A s.heap [] H locs := M
  exact gzret S hr hlk M (st_nar hk hi) (rfl) (rfl) dJ0_charAt_5068e_15

set_option maxHeartbeats 4000000 in
set_option maxRecDepth 100000 in
theorem c_X6_spells (l : Launch) (E : xE) (ad : Nat → Nat) (z : TapS) (k : Nat) (hk : k < 5) : mI l yX6_spells wsX6_spells (xrm 4 85) E [.ref (ad 1), .ref (xK E k)] (tapGs E ad z) (z.spells k) (tapGs E ad z) := by
  intro sz
  refine Met.ofW (cc := cX6_spells) (maxL := 3) (ret := (some .boolean)) (by decide +kernel) rfl ?_
  intro vp ve s vm args below meth vc s₁ B hml hv
  obtain ⟨rfl, S, hr, hlk, hnm, A, hA, hE, M⟩ := genter B hml hv
  rw [hA]
  obtain ⟨ls, hfr, hl⟩ := gst (m := vm) (as := [.ref (ad 1), .ref (xK E k)]) (n := 3) (Nat.le_of_ble_eq_true rfl)
  rw [hfr]
  clear hfr hA
  have hl : lv_has ls 3 [(0, .ref (ad 1)), (1, .ref (xK E k))] := hl
  have M : gM E A s.heap [[(ad 1, .inr (6, [.ref (ad 2), .int (nI z.sz)]))], rowW E (ad 2) (ad 3) 8 z.cs] s.heap [] := M
  have hwi : ∀ w ∈ u_ws RX6 TX6 2, w ∈ wsX6_spells := by decide +kernel
  have hL := stL_le k
  obtain ⟨Q, hQ⟩ : ∃ Q : State → Prop, MQ below (va_Qi (fun x (_ : Unit) => x = (z.spells k)) (fun _ => kQ E A (tapGs E ad z)) A) ([.ref (ad 1), .ref (xK E k)] : List Value).toArray s 0 0 A = Q := ⟨_, rfl⟩
  rw [hQ]
  have hL9 : ∀ (n : Nat), ∀ (i : Nat), nI (stL.getD k 0) = nI z.sz → i + n = stL.getD k 0 → spl z.cs k (stL.getD k 0) 0 = spl z.cs k n i → ∀ (H : Heap) (locs : List Loc), gM E A s.heap [[(ad 1, .inr (6, [.ref (ad 2), .int (nI z.sz)]))], rowW E (ad 2) (ad 3) 8 z.cs] H locs → ∀ ls : Array Slot, lv_has ls 3 [(0, .ref (ad 1)), (1, .ref (xK E k)), (2, .int (nI i))] → W vp l ve (headSpec wsX6_spells (xrm 4 85)).room s vm ([.ref (ad 1), .ref (xK E k)] : List Value).toArray below meth vc H locs 0 0 Q (F0 vm 15 ls []) := by
    intro n
    induction n with
    | zero =>
      intro i c8 hi hI H locs M ls hl
      refine lv_iload_n S.1 S.2.1 dX6_spells_15 rfl (lv_at hl 2 rfl) ?_
      refine lv_aload_n S.1 S.2.1 dX6_spells_16 rfl (lv_at hl 1 rfl) ?_
      refine gcalli (L := []) (Mid := []) (Rr := [[(ad 1, .inr (6, [.ref (ad 2), .int (nI z.sz)]))], rowW E (ad 2) (ad 3) 8 z.cs]) (Mid' := []) hE M rfl (rfl) (rfl) (fun hp => va_runV (As := []) (rest := [.int (nI i)]) S (c_J0_length_8abf5 l E k hk _) (cwV 0 S.2.2.2.2 gX6_spells_J0_length_8abf5 rfl rfl rfl kd_J0_length_8abf5 ⟨Nat.le_of_ble_eq_true rfl, Nat.le_of_ble_eq_true rfl⟩) (hp.T hE (hk) M.2.2.1) rfl rfl hl.1 rfl (lv_room (Nat.le_of_ble_eq_true rfl)) dX6_spells_17 ⟨Nat.zero_le _, Nat.zero_le _⟩) (fun H locs M => ?_)
      have M : gM E A s.heap [[(ad 1, .inr (6, [.ref (ad 2), .int (nI z.sz)]))], rowW E (ad 2) (ad 3) 8 z.cs] H locs := M
      refine lv_icmp_ge (tgt := 47) S.1 S.2.1 dX6_spells_20 (by decide) (fun _ => ?_) (fun c_ => absurd (nI_le (by omega) (by omega)) c_)
      refine lv_iconst (v := 1) S.1 S.2.1 dX6_spells_47 (by decide) ?_
      rw [← hQ]
      exact gzret S hr hlk M (rfl) (by unfold TapS.spells; rw [if_pos c8, hI, spl]) (rfl) dX6_spells_48
    | succ n ih =>
      intro i c8 hi hI H locs M ls hl
      refine lv_iload_n S.1 S.2.1 dX6_spells_15 rfl (lv_at hl 2 rfl) ?_
      refine lv_aload_n S.1 S.2.1 dX6_spells_16 rfl (lv_at hl 1 rfl) ?_
      refine gcalli (L := []) (Mid := []) (Rr := [[(ad 1, .inr (6, [.ref (ad 2), .int (nI z.sz)]))], rowW E (ad 2) (ad 3) 8 z.cs]) (Mid' := []) hE M rfl (rfl) (rfl) (fun hp => va_runV (As := []) (rest := [.int (nI i)]) S (c_J0_length_8abf5 l E k hk _) (cwV 0 S.2.2.2.2 gX6_spells_J0_length_8abf5 rfl rfl rfl kd_J0_length_8abf5 ⟨Nat.le_of_ble_eq_true rfl, Nat.le_of_ble_eq_true rfl⟩) (hp.T hE (hk) M.2.2.1) rfl rfl hl.1 rfl (lv_room (Nat.le_of_ble_eq_true rfl)) dX6_spells_17 ⟨Nat.zero_le _, Nat.zero_le _⟩) (fun H locs M => ?_)
      have M : gM E A s.heap [[(ad 1, .inr (6, [.ref (ad 2), .int (nI z.sz)]))], rowW E (ad 2) (ad 3) 8 z.cs] H locs := M
      refine lv_icmp_ge (tgt := 47) S.1 S.2.1 dX6_spells_20 (by decide) (fun c_ => absurd c_ (nI_ge (by omega) (by omega))) (fun _ => ?_)
      refine lv_aload_n S.1 S.2.1 dX6_spells_23 rfl (lv_at hl 1 rfl) ?_
      refine lv_iload_n S.1 S.2.1 dX6_spells_24 rfl (lv_at hl 2 rfl) ?_
      refine gcalli (L := []) (Mid := []) (Rr := [[(ad 1, .inr (6, [.ref (ad 2), .int (nI z.sz)]))], rowW E (ad 2) (ad 3) 8 z.cs]) (Mid' := []) hE M rfl (rfl) (rfl) (fun hp => va_runV (As := [.int (nI i)]) (rest := []) S (c_J0_charAt_5068e l E k i hk (by omega) _) (cwV 1 S.2.2.2.2 gX6_spells_J0_charAt_5068e rfl rfl rfl kd_J0_charAt_5068e ⟨Nat.le_of_ble_eq_true rfl, Nat.le_of_ble_eq_true rfl⟩) (hp.T hE (hk) M.2.2.1) rfl rfl hl.1 rfl (lv_room (Nat.le_of_ble_eq_true rfl)) dX6_spells_25 ⟨Nat.zero_le _, Nat.zero_le _⟩) (fun H locs M => ?_)
      have M : gM E A s.heap [[(ad 1, .inr (6, [.ref (ad 2), .int (nI z.sz)]))], rowW E (ad 2) (ad 3) 8 z.cs] H locs := M
      refine lv_aload_n S.1 S.2.1 dX6_spells_28 rfl (lv_at hl 0 rfl) ?_
      refine gget S hE M (C := RX6) (T := TX6) (N := 2) (ci := 6) (index := 14) hwi 0 rfl rfl 0 (by decide) (by decide +kernel) rfl dX6_spells_29 ?_
      refine lv_iload_n S.1 S.2.1 dX6_spells_32 rfl (lv_at hl 2 rfl) ?_
      refine gcalli (L := [[(ad 1, .inr (6, [.ref (ad 2), .int (nI z.sz)]))]]) (Mid := [rowW E (ad 2) (ad 3) 8 z.cs]) (Rr := []) (Mid' := [rowW E (ad 2) (ad 3) 8 z.cs]) hE M rfl (List.append_nil _) (List.append_nil _) (fun hp => va_runV (As := [.int (nI i)]) (rest := [.int ((stB.getD k []).getD i 0)]) S (c_X2_get l E (ad 2) (ad 3) 8 z.cs (nI i) (by decide) _) (cwV 1 S.2.2.2.2 gX6_spells_X2_get rfl rfl rfl kd_X2_get ⟨Nat.le_of_ble_eq_true rfl, Nat.le_of_ble_eq_true rfl⟩) (hp.V hE (show vwCl[2]? = some (RX2, TX2, 1) from rfl) rfl) rfl rfl hl.1 rfl (lv_room (Nat.le_of_ble_eq_true rfl)) dX6_spells_33 ⟨Nat.zero_le _, Nat.zero_le _⟩) (fun H locs M => ?_)
      have M : gM E A s.heap [[(ad 1, .inr (6, [.ref (ad 2), .int (nI z.sz)]))], rowW E (ad 2) (ad 3) 8 z.cs] H locs := M
      refine lv_icmp_eq (tgt := 41) S.1 S.2.1 dX6_spells_36 (by decide) (fun c36 => ?_) (fun c36 => ?_)
      ·
        refine lv_iinc (v := nI (i + 1)) (lv' := [(2, .int (nI (i + 1))), (0, .ref (ad 1)), (1, .ref (xK E k))]) S.1 S.2.1 dX6_spells_41 hl (k := 2) rfl (nI_1 _) (by decide) rfl (fun ls hl => ?_)
        refine lv_goto (tgt := 15) S.1 S.2.1 dX6_spells_44 (by decide) ?_
        exact ih (i + 1) c8 (by omega) (by rw [hI, spl, if_pos c36]) _ _ M ls (lv_sub hl [1, 2, 0] rfl)
      ·
        refine lv_iconst (v := 0) S.1 S.2.1 dX6_spells_39 (by decide) ?_
        rw [← hQ]
        exact gzret S hr hlk M (rfl) (by unfold TapS.spells; rw [if_pos c8, hI, spl, if_neg c36]) (rfl) dX6_spells_40
  refine lv_aload_n S.1 S.2.1 dX6_spells_0 rfl (lv_at hl 1 rfl) ?_
  refine gcalli (L := []) (Mid := []) (Rr := [[(ad 1, .inr (6, [.ref (ad 2), .int (nI z.sz)]))], rowW E (ad 2) (ad 3) 8 z.cs]) (Mid' := []) hE M rfl (rfl) (rfl) (fun hp => va_runV (As := []) (rest := []) S (c_J0_length_8abf5 l E k hk _) (cwV 0 S.2.2.2.2 gX6_spells_J0_length_8abf5 rfl rfl rfl kd_J0_length_8abf5 ⟨Nat.le_of_ble_eq_true rfl, Nat.le_of_ble_eq_true rfl⟩) (hp.T hE (hk) M.2.2.1) rfl rfl hl.1 rfl (lv_room (Nat.le_of_ble_eq_true rfl)) dX6_spells_1 ⟨Nat.zero_le _, Nat.zero_le _⟩) (fun H locs M => ?_)
  have M : gM E A s.heap [[(ad 1, .inr (6, [.ref (ad 2), .int (nI z.sz)]))], rowW E (ad 2) (ad 3) 8 z.cs] H locs := M
  refine lv_aload_n S.1 S.2.1 dX6_spells_4 rfl (lv_at hl 0 rfl) ?_
  refine gget S hE M (C := RX6) (T := TX6) (N := 2) (ci := 6) (index := 20) hwi 0 rfl rfl 1 (by decide) (by decide +kernel) rfl dX6_spells_5 ?_
  refine lv_icmp_eq (tgt := 13) S.1 S.2.1 dX6_spells_8 (by decide) (fun c8 => ?_) (fun c8 => ?_)
  ·
    refine lv_iconst (v := 0) S.1 S.2.1 dX6_spells_13 (by decide) ?_
    refine lv_istore_n (lv' := [(2, .int 0), (0, .ref (ad 1)), (1, .ref (xK E k))]) S.1 S.2.1 dX6_spells_14 rfl hl (by decide) rfl (fun ls hl => ?_)
    exact hL9 (stL.getD k 0) 0 c8 (by omega) rfl _ _ M ls (lv_sub hl [1, 2, 0] rfl)
  ·
    refine lv_iconst (v := 0) S.1 S.2.1 dX6_spells_11 (by decide) ?_
    rw [← hQ]
    exact gzret S hr hlk M (rfl) (by unfold TapS.spells; rw [if_neg c8]) (rfl) dX6_spells_12

set_option maxHeartbeats 4000000 in
set_option maxRecDepth 100000 in
theorem c_X3_putWord (l : Launch) (E : xE) (ad : Nat → Nat) (z : SheS) (k : Nat) (hk : k < 5) : mV l yX3_putWord wsX3_putWord (xrm 4 85) E [.ref (ad 41), .ref (xK E k)] (sheGs E ad z) (sheGs E ad (SheS.word z k)) := by
  intro sz
  refine Met.ofW (cc := cX3_putWord) (maxL := 3) (ret := none) (by decide +kernel) rfl ?_
  intro vp ve s vm args below meth vc s₁ B hml hv
  obtain ⟨rfl, S, hr, hlk, hnm, A, hA, hE, M⟩ := genter B hml hv
  rw [hA]
  obtain ⟨ls, hfr, hl⟩ := gst (m := vm) (as := [.ref (ad 41), .ref (xK E k)]) (n := 3) (Nat.le_of_ble_eq_true rfl)
  rw [hfr]
  clear hfr hA
  have hl : lv_has ls 3 [(0, .ref (ad 41)), (1, .ref (xK E k))] := hl
  have M : gM E A s.heap [[(ad 41, .inr (3, [.ref (ad 42), .int (nI z.sz)]))], rowW E (ad 42) (ad 43) 32 z.cs] s.heap [] := M
  have hwi : ∀ w ∈ u_ws RX3 TX3 2, w ∈ wsX3_putWord := by decide +kernel
  have hL := stL_le k
  obtain ⟨Q, hQ⟩ : ∃ Q : State → Prop, MQ below (va_Qv (fun (_ : Unit) => True) (fun _ => kQ E A (sheGs E ad (SheS.word z k))) A) ([.ref (ad 41), .ref (xK E k)] : List Value).toArray s 0 0 A = Q := ⟨_, rfl⟩
  rw [hQ]
  have hL9 : ∀ (n : Nat), ∀ (i : Nat) (w : SheS), i + n = stL.getD k 0 → SheS.word z k = pwl k n i w → ∀ (H : Heap) (locs : List Loc), gM E A s.heap [[(ad 41, .inr (3, [.ref (ad 42), .int (nI w.sz)]))], rowW E (ad 42) (ad 43) 32 w.cs] H locs → ∀ ls : Array Slot, lv_has ls 3 [(0, .ref (ad 41)), (1, .ref (xK E k)), (2, .int (nI i))] → W vp l ve (headSpec wsX3_putWord (xrm 4 85)).room s vm ([.ref (ad 41), .ref (xK E k)] : List Value).toArray below meth vc H locs 0 0 Q (F0 vm 2 ls []) := by
    intro n
    induction n with
    | zero =>
      intro i w hi hI H locs M ls hl
      refine lv_iload_n S.1 S.2.1 dX3_putWord_2 rfl (lv_at hl 2 rfl) ?_
      refine lv_aload_n S.1 S.2.1 dX3_putWord_3 rfl (lv_at hl 1 rfl) ?_
      refine gcalli (L := []) (Mid := []) (Rr := [[(ad 41, .inr (3, [.ref (ad 42), .int (nI w.sz)]))], rowW E (ad 42) (ad 43) 32 w.cs]) (Mid' := []) hE M rfl (rfl) (rfl) (fun hp => va_runV (As := []) (rest := [.int (nI i)]) S (c_J0_length_8abf5 l E k hk _) (cwV 0 S.2.2.2.2 gX3_putWord_J0_length_8abf5 rfl rfl rfl kd_J0_length_8abf5 ⟨Nat.le_of_ble_eq_true rfl, Nat.le_of_ble_eq_true rfl⟩) (hp.T hE (hk) M.2.2.1) rfl rfl hl.1 rfl (lv_room (Nat.le_of_ble_eq_true rfl)) dX3_putWord_4 ⟨Nat.zero_le _, Nat.zero_le _⟩) (fun H locs M => ?_)
      have M : gM E A s.heap [[(ad 41, .inr (3, [.ref (ad 42), .int (nI w.sz)]))], rowW E (ad 42) (ad 43) 32 w.cs] H locs := M
      refine lv_icmp_ge (tgt := 25) S.1 S.2.1 dX3_putWord_7 (by decide) (fun _ => ?_) (fun c_ => absurd (nI_le (by omega) (by omega)) c_)
      rw [← hQ]
      exact gvret S hr hlk M (by rw [hI, pwl]; rfl) dX3_putWord_25
    | succ n ih =>
      intro i w hi hI H locs M ls hl
      refine lv_iload_n S.1 S.2.1 dX3_putWord_2 rfl (lv_at hl 2 rfl) ?_
      refine lv_aload_n S.1 S.2.1 dX3_putWord_3 rfl (lv_at hl 1 rfl) ?_
      refine gcalli (L := []) (Mid := []) (Rr := [[(ad 41, .inr (3, [.ref (ad 42), .int (nI w.sz)]))], rowW E (ad 42) (ad 43) 32 w.cs]) (Mid' := []) hE M rfl (rfl) (rfl) (fun hp => va_runV (As := []) (rest := [.int (nI i)]) S (c_J0_length_8abf5 l E k hk _) (cwV 0 S.2.2.2.2 gX3_putWord_J0_length_8abf5 rfl rfl rfl kd_J0_length_8abf5 ⟨Nat.le_of_ble_eq_true rfl, Nat.le_of_ble_eq_true rfl⟩) (hp.T hE (hk) M.2.2.1) rfl rfl hl.1 rfl (lv_room (Nat.le_of_ble_eq_true rfl)) dX3_putWord_4 ⟨Nat.zero_le _, Nat.zero_le _⟩) (fun H locs M => ?_)
      have M : gM E A s.heap [[(ad 41, .inr (3, [.ref (ad 42), .int (nI w.sz)]))], rowW E (ad 42) (ad 43) 32 w.cs] H locs := M
      refine lv_icmp_ge (tgt := 25) S.1 S.2.1 dX3_putWord_7 (by decide) (fun c_ => absurd c_ (nI_ge (by omega) (by omega))) (fun _ => ?_)
      refine lv_aload_n S.1 S.2.1 dX3_putWord_10 rfl (lv_at hl 0 rfl) ?_
      refine lv_aload_n S.1 S.2.1 dX3_putWord_11 rfl (lv_at hl 1 rfl) ?_
      refine lv_iload_n S.1 S.2.1 dX3_putWord_12 rfl (lv_at hl 2 rfl) ?_
      refine gcalli (L := []) (Mid := []) (Rr := [[(ad 41, .inr (3, [.ref (ad 42), .int (nI w.sz)]))], rowW E (ad 42) (ad 43) 32 w.cs]) (Mid' := []) hE M rfl (rfl) (rfl) (fun hp => va_runV (As := [.int (nI i)]) (rest := [.ref (ad 41)]) S (c_J0_charAt_5068e l E k i hk (by omega) _) (cwV 1 S.2.2.2.2 gX3_putWord_J0_charAt_5068e rfl rfl rfl kd_J0_charAt_5068e ⟨Nat.le_of_ble_eq_true rfl, Nat.le_of_ble_eq_true rfl⟩) (hp.T hE (hk) M.2.2.1) rfl rfl hl.1 rfl (lv_room (Nat.le_of_ble_eq_true rfl)) dX3_putWord_13 ⟨Nat.zero_le _, Nat.zero_le _⟩) (fun H locs M => ?_)
      have M : gM E A s.heap [[(ad 41, .inr (3, [.ref (ad 42), .int (nI w.sz)]))], rowW E (ad 42) (ad 43) 32 w.cs] H locs := M
      refine gcallv (L := []) (Mid := sheGs E ad w) (Rr := []) (Mid' := sheGs E ad (SheS.put w ((stB.getD k []).getD i 0))) hE M rfl (rfl) (rfl) (fun hp => va_runV (As := [.int ((stB.getD k []).getD i 0)]) (rest := []) S (c_X3_put l E ad w ((stB.getD k []).getD i 0)  _) (cwV 1 S.2.2.2.2 gX3_putWord_X3_put rfl rfl rfl kd_X3_put ⟨Nat.le_of_ble_eq_true rfl, Nat.le_of_ble_eq_true rfl⟩) (hp.V hE (show vwCl[3]? = some (RX3, TX3, 2) from rfl) rfl) rfl rfl hl.1 rfl (lv_room (Nat.le_of_ble_eq_true rfl)) dX3_putWord_16 ⟨Nat.zero_le _, Nat.zero_le _⟩) (fun H locs M => ?_)
      have M : gM E A s.heap [[(ad 41, .inr (3, [.ref (ad 42), .int (nI (SheS.put w ((stB.getD k []).getD i 0)).sz)]))], rowW E (ad 42) (ad 43) 32 ((SheS.put w ((stB.getD k []).getD i 0)).cs)] H locs := M
      refine lv_iinc (v := nI (i + 1)) (lv' := [(2, .int (nI (i + 1))), (0, .ref (ad 41)), (1, .ref (xK E k))]) S.1 S.2.1 dX3_putWord_19 hl (k := 2) rfl (nI_1 _) (by decide) rfl (fun ls hl => ?_)
      refine lv_goto (tgt := 2) S.1 S.2.1 dX3_putWord_22 (by decide) ?_
      exact ih (i + 1) (SheS.put w ((stB.getD k []).getD i 0)) (by omega) (by rw [hI, pwl]) _ _ M ls (lv_sub hl [1, 2, 0] rfl)
  refine lv_iconst (v := 0) S.1 S.2.1 dX3_putWord_0 (by decide) ?_
  refine lv_istore_n (lv' := [(2, .int 0), (0, .ref (ad 41)), (1, .ref (xK E k))]) S.1 S.2.1 dX3_putWord_1 rfl hl (by decide) rfl (fun ls hl => ?_)
  exact hL9 (stL.getD k 0) 0 z (by omega) rfl _ _ M ls (lv_sub hl [1, 2, 0] rfl)
