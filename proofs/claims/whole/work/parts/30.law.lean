theorem kd_X8_anew : yX8_anew.cls = RX8 ∧ yX8_anew.cls ≠ "java/lang/invoke/MethodHandle" ∧ yX8_anew.cls ≠ "java/lang/invoke/VarHandle" ∧ (parseMethodDescriptor yX8_anew.desc).map (fun d => d.parameters.length) = some 0 := by decide +kernel
theorem kd_X8_arrive : yX8_arrive.cls = RX8 ∧ yX8_arrive.cls ≠ "java/lang/invoke/MethodHandle" ∧ yX8_arrive.cls ≠ "java/lang/invoke/VarHandle" ∧ (parseMethodDescriptor yX8_arrive.desc).map (fun d => d.parameters.length) = some 4 := by decide +kernel
theorem kd_X8_drift : yX8_drift.cls = RX8 ∧ yX8_drift.cls ≠ "java/lang/invoke/MethodHandle" ∧ yX8_drift.cls ≠ "java/lang/invoke/VarHandle" ∧ (parseMethodDescriptor yX8_drift.desc).map (fun d => d.parameters.length) = some 1 := by decide +kernel
theorem kd_X8_history : yX8_history.cls = RX8 ∧ yX8_history.cls ≠ "java/lang/invoke/MethodHandle" ∧ yX8_history.cls ≠ "java/lang/invoke/VarHandle" ∧ (parseMethodDescriptor yX8_history.desc).map (fun d => d.parameters.length) = some 1 := by decide +kernel
theorem kd_X8_inOrder : yX8_inOrder.cls = RX8 ∧ yX8_inOrder.cls ≠ "java/lang/invoke/MethodHandle" ∧ yX8_inOrder.cls ≠ "java/lang/invoke/VarHandle" ∧ (parseMethodDescriptor yX8_inOrder.desc).map (fun d => d.parameters.length) = some 1 := by decide +kernel
theorem kd_X8_jump : yX8_jump.cls = RX8 ∧ yX8_jump.cls ≠ "java/lang/invoke/MethodHandle" ∧ yX8_jump.cls ≠ "java/lang/invoke/VarHandle" ∧ (parseMethodDescriptor yX8_jump.desc).map (fun d => d.parameters.length) = some 1 := by decide +kernel
theorem kd_X8_key : yX8_key.cls = RX8 ∧ yX8_key.cls ≠ "java/lang/invoke/MethodHandle" ∧ yX8_key.cls ≠ "java/lang/invoke/VarHandle" ∧ (parseMethodDescriptor yX8_key.desc).map (fun d => d.parameters.length) = some 1 := by decide +kernel
theorem kd_X8_late : yX8_late.cls = RX8 ∧ yX8_late.cls ≠ "java/lang/invoke/MethodHandle" ∧ yX8_late.cls ≠ "java/lang/invoke/VarHandle" ∧ (parseMethodDescriptor yX8_late.desc).map (fun d => d.parameters.length) = some 1 := by decide +kernel
theorem kd_X8_loss : yX8_loss.cls = RX8 ∧ yX8_loss.cls ≠ "java/lang/invoke/MethodHandle" ∧ yX8_loss.cls ≠ "java/lang/invoke/VarHandle" ∧ (parseMethodDescriptor yX8_loss.desc).map (fun d => d.parameters.length) = some 1 := by decide +kernel
theorem kd_X8_manner : yX8_manner.cls = RX8 ∧ yX8_manner.cls ≠ "java/lang/invoke/MethodHandle" ∧ yX8_manner.cls ≠ "java/lang/invoke/VarHandle" ∧ (parseMethodDescriptor yX8_manner.desc).map (fun d => d.parameters.length) = some 1 := by decide +kernel
theorem kd_X8_many : yX8_many.cls = RX8 ∧ yX8_many.cls ≠ "java/lang/invoke/MethodHandle" ∧ yX8_many.cls ≠ "java/lang/invoke/VarHandle" ∧ (parseMethodDescriptor yX8_many.desc).map (fun d => d.parameters.length) = some 1 := by decide +kernel
theorem kd_X8_margin : yX8_margin.cls = RX8 ∧ yX8_margin.cls ≠ "java/lang/invoke/MethodHandle" ∧ yX8_margin.cls ≠ "java/lang/invoke/VarHandle" ∧ (parseMethodDescriptor yX8_margin.desc).map (fun d => d.parameters.length) = some 1 := by decide +kernel
theorem kd_X8_ofFrame : yX8_ofFrame.cls = RX8 ∧ yX8_ofFrame.cls ≠ "java/lang/invoke/MethodHandle" ∧ yX8_ofFrame.cls ≠ "java/lang/invoke/VarHandle" ∧ (parseMethodDescriptor yX8_ofFrame.desc).map (fun d => d.parameters.length) = some 2 := by decide +kernel
theorem kd_X8_ofSpurt : yX8_ofSpurt.cls = RX8 ∧ yX8_ofSpurt.cls ≠ "java/lang/invoke/MethodHandle" ∧ yX8_ofSpurt.cls ≠ "java/lang/invoke/VarHandle" ∧ (parseMethodDescriptor yX8_ofSpurt.desc).map (fun d => d.parameters.length) = some 2 := by decide +kernel
theorem kd_X8_playing : yX8_playing.cls = RX8 ∧ yX8_playing.cls ≠ "java/lang/invoke/MethodHandle" ∧ yX8_playing.cls ≠ "java/lang/invoke/VarHandle" ∧ (parseMethodDescriptor yX8_playing.desc).map (fun d => d.parameters.length) = some 1 := by decide +kernel
theorem kd_X8_spike : yX8_spike.cls = RX8 ∧ yX8_spike.cls ≠ "java/lang/invoke/MethodHandle" ∧ yX8_spike.cls ≠ "java/lang/invoke/VarHandle" ∧ (parseMethodDescriptor yX8_spike.desc).map (fun d => d.parameters.length) = some 1 := by decide +kernel
theorem kd_X8_text : yX8_text.cls = RX8 ∧ yX8_text.cls ≠ "java/lang/invoke/MethodHandle" ∧ yX8_text.cls ≠ "java/lang/invoke/VarHandle" ∧ (parseMethodDescriptor yX8_text.desc).map (fun d => d.parameters.length) = some 2 := by decide +kernel
theorem kd_X8_waiting : yX8_waiting.cls = RX8 ∧ yX8_waiting.cls ≠ "java/lang/invoke/MethodHandle" ∧ yX8_waiting.cls ≠ "java/lang/invoke/VarHandle" ∧ (parseMethodDescriptor yX8_waiting.desc).map (fun d => d.parameters.length) = some 1 := by decide +kernel
theorem kd_X8_wipe : yX8_wipe.cls = RX8 ∧ yX8_wipe.cls ≠ "java/lang/invoke/MethodHandle" ∧ yX8_wipe.cls ≠ "java/lang/invoke/VarHandle" ∧ (parseMethodDescriptor yX8_wipe.desc).map (fun d => d.parameters.length) = some 0 := by decide +kernel
theorem kd_X8_wish : yX8_wish.cls = RX8 ∧ yX8_wish.cls ≠ "java/lang/invoke/MethodHandle" ∧ yX8_wish.cls ≠ "java/lang/invoke/VarHandle" ∧ (parseMethodDescriptor yX8_wish.desc).map (fun d => d.parameters.length) = some 1 := by decide +kernel
theorem kd_X8_word : yX8_word.cls = RX8 ∧ yX8_word.cls ≠ "java/lang/invoke/MethodHandle" ∧ yX8_word.cls ≠ "java/lang/invoke/VarHandle" ∧ (parseMethodDescriptor yX8_word.desc).map (fun d => d.parameters.length) = some 1 := by decide +kernel
theorem kd_X9_anew : yX9_anew.cls = RX9 ∧ yX9_anew.cls ≠ "java/lang/invoke/MethodHandle" ∧ yX9_anew.cls ≠ "java/lang/invoke/VarHandle" ∧ (parseMethodDescriptor yX9_anew.desc).map (fun d => d.parameters.length) = some 0 := by decide +kernel
theorem kd_X9_arrive : yX9_arrive.cls = RX9 ∧ yX9_arrive.cls ≠ "java/lang/invoke/MethodHandle" ∧ yX9_arrive.cls ≠ "java/lang/invoke/VarHandle" ∧ (parseMethodDescriptor yX9_arrive.desc).map (fun d => d.parameters.length) = some 4 := by decide +kernel
theorem kd_X9_drift : yX9_drift.cls = RX9 ∧ yX9_drift.cls ≠ "java/lang/invoke/MethodHandle" ∧ yX9_drift.cls ≠ "java/lang/invoke/VarHandle" ∧ (parseMethodDescriptor yX9_drift.desc).map (fun d => d.parameters.length) = some 1 := by decide +kernel
theorem kd_X9_history : yX9_history.cls = RX9 ∧ yX9_history.cls ≠ "java/lang/invoke/MethodHandle" ∧ yX9_history.cls ≠ "java/lang/invoke/VarHandle" ∧ (parseMethodDescriptor yX9_history.desc).map (fun d => d.parameters.length) = some 1 := by decide +kernel
theorem kd_X9_inOrder : yX9_inOrder.cls = RX9 ∧ yX9_inOrder.cls ≠ "java/lang/invoke/MethodHandle" ∧ yX9_inOrder.cls ≠ "java/lang/invoke/VarHandle" ∧ (parseMethodDescriptor yX9_inOrder.desc).map (fun d => d.parameters.length) = some 1 := by decide +kernel
theorem kd_X9_jump : yX9_jump.cls = RX9 ∧ yX9_jump.cls ≠ "java/lang/invoke/MethodHandle" ∧ yX9_jump.cls ≠ "java/lang/invoke/VarHandle" ∧ (parseMethodDescriptor yX9_jump.desc).map (fun d => d.parameters.length) = some 1 := by decide +kernel
theorem kd_X9_key : yX9_key.cls = RX9 ∧ yX9_key.cls ≠ "java/lang/invoke/MethodHandle" ∧ yX9_key.cls ≠ "java/lang/invoke/VarHandle" ∧ (parseMethodDescriptor yX9_key.desc).map (fun d => d.parameters.length) = some 1 := by decide +kernel
theorem kd_X9_late : yX9_late.cls = RX9 ∧ yX9_late.cls ≠ "java/lang/invoke/MethodHandle" ∧ yX9_late.cls ≠ "java/lang/invoke/VarHandle" ∧ (parseMethodDescriptor yX9_late.desc).map (fun d => d.parameters.length) = some 1 := by decide +kernel
theorem kd_X9_loss : yX9_loss.cls = RX9 ∧ yX9_loss.cls ≠ "java/lang/invoke/MethodHandle" ∧ yX9_loss.cls ≠ "java/lang/invoke/VarHandle" ∧ (parseMethodDescriptor yX9_loss.desc).map (fun d => d.parameters.length) = some 1 := by decide +kernel
theorem kd_X9_manner : yX9_manner.cls = RX9 ∧ yX9_manner.cls ≠ "java/lang/invoke/MethodHandle" ∧ yX9_manner.cls ≠ "java/lang/invoke/VarHandle" ∧ (parseMethodDescriptor yX9_manner.desc).map (fun d => d.parameters.length) = some 1 := by decide +kernel
theorem kd_X9_many : yX9_many.cls = RX9 ∧ yX9_many.cls ≠ "java/lang/invoke/MethodHandle" ∧ yX9_many.cls ≠ "java/lang/invoke/VarHandle" ∧ (parseMethodDescriptor yX9_many.desc).map (fun d => d.parameters.length) = some 1 := by decide +kernel
theorem kd_X9_margin : yX9_margin.cls = RX9 ∧ yX9_margin.cls ≠ "java/lang/invoke/MethodHandle" ∧ yX9_margin.cls ≠ "java/lang/invoke/VarHandle" ∧ (parseMethodDescriptor yX9_margin.desc).map (fun d => d.parameters.length) = some 1 := by decide +kernel
theorem kd_X9_ofFrame : yX9_ofFrame.cls = RX9 ∧ yX9_ofFrame.cls ≠ "java/lang/invoke/MethodHandle" ∧ yX9_ofFrame.cls ≠ "java/lang/invoke/VarHandle" ∧ (parseMethodDescriptor yX9_ofFrame.desc).map (fun d => d.parameters.length) = some 2 := by decide +kernel
theorem kd_X9_ofSpurt : yX9_ofSpurt.cls = RX9 ∧ yX9_ofSpurt.cls ≠ "java/lang/invoke/MethodHandle" ∧ yX9_ofSpurt.cls ≠ "java/lang/invoke/VarHandle" ∧ (parseMethodDescriptor yX9_ofSpurt.desc).map (fun d => d.parameters.length) = some 2 := by decide +kernel
theorem kd_X9_playing : yX9_playing.cls = RX9 ∧ yX9_playing.cls ≠ "java/lang/invoke/MethodHandle" ∧ yX9_playing.cls ≠ "java/lang/invoke/VarHandle" ∧ (parseMethodDescriptor yX9_playing.desc).map (fun d => d.parameters.length) = some 1 := by decide +kernel
theorem kd_X9_spike : yX9_spike.cls = RX9 ∧ yX9_spike.cls ≠ "java/lang/invoke/MethodHandle" ∧ yX9_spike.cls ≠ "java/lang/invoke/VarHandle" ∧ (parseMethodDescriptor yX9_spike.desc).map (fun d => d.parameters.length) = some 1 := by decide +kernel
theorem kd_X9_text : yX9_text.cls = RX9 ∧ yX9_text.cls ≠ "java/lang/invoke/MethodHandle" ∧ yX9_text.cls ≠ "java/lang/invoke/VarHandle" ∧ (parseMethodDescriptor yX9_text.desc).map (fun d => d.parameters.length) = some 2 := by decide +kernel
theorem kd_X9_waiting : yX9_waiting.cls = RX9 ∧ yX9_waiting.cls ≠ "java/lang/invoke/MethodHandle" ∧ yX9_waiting.cls ≠ "java/lang/invoke/VarHandle" ∧ (parseMethodDescriptor yX9_waiting.desc).map (fun d => d.parameters.length) = some 1 := by decide +kernel
theorem kd_X9_wipe : yX9_wipe.cls = RX9 ∧ yX9_wipe.cls ≠ "java/lang/invoke/MethodHandle" ∧ yX9_wipe.cls ≠ "java/lang/invoke/VarHandle" ∧ (parseMethodDescriptor yX9_wipe.desc).map (fun d => d.parameters.length) = some 0 := by decide +kernel
theorem kd_X9_wish : yX9_wish.cls = RX9 ∧ yX9_wish.cls ≠ "java/lang/invoke/MethodHandle" ∧ yX9_wish.cls ≠ "java/lang/invoke/VarHandle" ∧ (parseMethodDescriptor yX9_wish.desc).map (fun d => d.parameters.length) = some 1 := by decide +kernel
theorem kd_X9_word : yX9_word.cls = RX9 ∧ yX9_word.cls ≠ "java/lang/invoke/MethodHandle" ∧ yX9_word.cls ≠ "java/lang/invoke/VarHandle" ∧ (parseMethodDescriptor yX9_word.desc).map (fun d => d.parameters.length) = some 1 := by decide +kernel
/-! THE CLAIM OUT OF ONE WALK OF THE LAW'S BODY. Your part is whole_start (and what it stands on); all else here is the same for every law, but numbers. -/
def R_law : String := "SpurtClockLaw"
def lw_P (b : Addr) (xs : List Int32) (args : Array Value) (s : State) : Prop := args = #[.ref b] ∧ s.IntsAt b xs ∧ xs.length ≤ 2560 ∧ (Jvm.Cond.and given_1 narrow_1).before args s = true
def lw_Q (_ : Array Value) (s : State) (o : Outcome) (t : State) : Prop := o = .returned (some (.int 1)) ∧ Framed s o t [] 600000 7302250
def lw_Z (below : List Frame) (a : Array Value) (s : State) : State → Prop := fun t => ∃ o, t.status = .running ∧ Ended t below o ∧ lw_Q a s o t
/-- the law's own end, with 1 on the stack, nothing written that was there before, its room as the claim has it -/
theorem lw_ret {p : Program} {l : Launch} {e : Env} {s : State} {m : MethodId} {below : List Frame} {meth : Method} {c : Code} {b : Nat} (hx : p.tables.exec = Jvm.exec) (hb : c.code = code) (hr : meth.sig.returnType = ret) (hlocks : meth.locks = false) {pc : Nat} {H : Heap} {ls : Array Slot} (hdg : decode code pc = .ok (.ireturn, 1)) : W p l e room_1 s m #[Value.ref b] below meth c H [] 600000 7302250 (lw_Z below #[Value.ref b] s) (F0 m pc ls [.int 1]) := by
  intro T hT X
  obtain ⟨fs, hret, hrun, hended, hW, hframe⟩ := X.leave (v := some (.int 1)) (hlocks := hlocks) (fun h => by rw [hr] at h; cases h)
  have hmeth' : T.vm.method? m = some meth := X.method'
  refine ⟨T.setFrames fs, ?_, .returned (some (.int 1)), hrun, hended, rfl, ⟨_, rfl⟩, hW, hframe⟩
  jvm_step X.here [X.here.top, hx, hb, hdg, hmeth', hr, ret, narrow_b1]
  (try refine ⟨rfl, ?_⟩); (try refine ⟨rfl, ?_⟩)
  first | (intro acts; rw [hret _ acts rfl rfl rfl]) | rw [hret _ _ rfl rfl rfl]
  exact Steps.refl _
/-- what holds at the law's entry: the machine, the code, the tables' words (any of lw_tbl by 'hts w (by decide +kernel)'), the script of L ints xs at the cell b, what the Statement gives of the start (any of its parts by flat_of_before) -/
def lw_At (p : Program) (s : State) (m : MethodId) (meth : Method) (c : Code) (b L : Nat) (xs : Nat → Int32) : Prop :=
  p.tables.exec = Jvm.exec ∧ c.code = code ∧ meth.sig.returnType = ret ∧ c.maxLocals = 4 ∧ s.vm.findClass R_law = some m.cls ∧ (∀ w ∈ lw_tbl, w.before #[Value.ref b] s = true) ∧ va_X b L xs s s.heap ∧ b < s.heap.size ∧ meth.locks = false ∧ (Jvm.Cond.and given_1 narrow_1).before #[Value.ref b] s = true
theorem law_gt {L j : Nat} (h : ¬ nI L - 5 < nI j) (hL : L ≤ 2560) (hj : j ≤ 2600) : j + 5 ≤ L := by
  rw [Int32.lt_iff_toInt_lt, show (5 : Int32) = nI 5 from rfl, pk_sub_toInt (by omega) (by omega), nI_toInt (by omega)] at h
  omega
theorem law_le {L j : Nat} (h : L + 1 ≤ j) (hL : L ≤ 2560) (hj : j ≤ 2600) : nI L - 5 < nI j := by
  rw [Int32.lt_iff_toInt_lt, show (5 : Int32) = nI 5 from rfl, pk_sub_toInt (by omega) (by omega), nI_toInt (by omega)]
  omega
set_option maxHeartbeats 4000000 in
set_option maxRecDepth 100000 in
theorem law_key {p : Program} {l : Launch} {e : Env} {s : State} {m : MethodId} {below : List Frame} {meth : Method} {c : Code} {E : xE} {b L : Nat} {xs : Nat → Int32} {ad am : Nat → Nat} (hL : L ≤ 2560) (C0 : lw_At p s m meth c b L xs) (hE : kE E (fun q : Nat => s.heap.size ≤ q) s s.heap) {z : SpcS} {y : MdS} (hR : Rel z y) {j : Nat} (hj : j + 5 ≤ L) {H : Heap} {locs : List Loc} (M : gM E (fun q : Nat => s.heap.size ≤ q) s.heap (spcGs E ad z ++ modGs E am y) H locs) {ls : Array Slot} (hl : lv_has ls 4 [(0, .ref b), (1, .ref (ad 0)), (2, .ref (am 0)), (3, .int (nI j))]) (kk : ∀ (z : SpcS) (y : MdS), Rel z y → ∀ (H : Heap) (locs : List Loc), gM E (fun q : Nat => s.heap.size ≤ q) s.heap (spcGs E ad z ++ modGs E am y) H locs → W p l e room_1 s m #[Value.ref b] below meth c H locs 57 3831 (lw_Z below #[Value.ref b] s) (F0 m 656 ls [])) : W p l e room_1 s m #[Value.ref b] below meth c H locs 57 3831 (lw_Z below #[Value.ref b] s) (F0 m 132 ls []) := by
  obtain ⟨hx, hb, hr, hml, hown, hts0, hX, hbl, hlocks, hgv⟩ := C0
  have hts : ∀ w ∈ wsL_law, w.before #[Value.ref b] s = true := fun w h => hts0 w (wsL_law_in w h)
  have S : CallFix p m c cL_law 4 s #[Value.ref b] wsL_law RL := ⟨hx, hb, hml, hown, hts⟩
  have hbA : ¬ (fun q : Nat => s.heap.size ≤ q) b := Nat.not_le.mpr hbl
  have hA := hR.a_ct
  have hS := hR.s_ct
  refine lv_aload_n S.1 S.2.1 dL_law_132 rfl (lv_at hl 1 rfl) ?_
  refine lv_aload_n S.1 S.2.1 dL_law_133 rfl (lv_at hl 0 rfl) ?_
  refine lv_iload_n S.1 S.2.1 dL_law_134 rfl (lv_at hl 3 rfl) ?_
  refine lv_iconst (v := nI 1) S.1 S.2.1 dL_law_135 (by decide) ?_
  refine lv_iadd S.1 S.2.1 dL_law_136 ?_
  refine gtop (x' := nI (j + 1)) (nI_add j 1) ?_
  refine va_sld S.1 S.2.1 hX hbl hbA M.2.2.1 (vp_in_nI (by omega) (by omega)) dL_law_137 ?_
  refine gtop (x' := xs (j + 1)) (by rw [nI_clamp (by omega)]) ?_
  refine gcalli (L := []) (Mid := spcGs E ad z) (Rr := modGs E am y) (Mid' := spcGs E ad (SpcS.key z (xs (j + 1))).2) hE M rfl rfl rfl (fun hgH => va_runV (As := [.int (xs (j + 1))]) (rest := []) S (c_X8_key l E ad z (xs (j + 1)) _) (cwV 1 S.2.2.2.2 gL_law_X8_key rfl rfl rfl kd_X8_key ⟨(Nat.le_of_ble_eq_true rfl), (Nat.le_of_ble_eq_true rfl)⟩) (hgH.V hE (show vwCl[8]? = some (RX8, TX8, 11) from rfl) rfl) rfl rfl hl.1 rfl (lv_room (Nat.le_of_ble_eq_true rfl)) dL_law_138 ⟨(Nat.le_of_ble_eq_true rfl), (Nat.le_of_ble_eq_true rfl)⟩) (fun H locs M => ?_)
  have M : gM E (fun q : Nat => s.heap.size ≤ q) s.heap (spcGs E ad (SpcS.key z (xs (j + 1))).2 ++ modGs E am y) H locs := M
  obtain ⟨y2, f2, n2, hf2, hn2, hC2, hR2⟩ := pk_key l E am hR (xs (j + 1))
  refine lv_aload_n S.1 S.2.1 dL_law_141 rfl (lv_at hl 2 rfl) ?_
  refine lv_aload_n S.1 S.2.1 dL_law_142 rfl (lv_at hl 0 rfl) ?_
  refine lv_iload_n S.1 S.2.1 dL_law_143 rfl (lv_at hl 3 rfl) ?_
  refine lv_iconst (v := nI 1) S.1 S.2.1 dL_law_144 (by decide) ?_
  refine lv_iadd S.1 S.2.1 dL_law_145 ?_
  refine gtop (x' := nI (j + 1)) (nI_add j 1) ?_
  refine va_sld S.1 S.2.1 hX hbl hbA M.2.2.1 (vp_in_nI (by omega) (by omega)) dL_law_146 ?_
  refine gtop (x' := xs (j + 1)) (by rw [nI_clamp (by omega)]) ?_
  refine gcalli (r := (SpcS.key z (xs (j + 1))).1) (L := spcGs E ad (SpcS.key z (xs (j + 1))).2) (Mid := modGs E am y) (Rr := []) (Mid' := modGs E am y2) hE M (by rw [List.append_nil]) rfl rfl (fun hgH => va_runV (As := [.int (xs (j + 1))]) (rest := [.int (SpcS.key z (xs (j + 1))).1]) S (hC2 _) (cwV 1 S.2.2.2.2 gL_law_X9_key rfl rfl rfl kd_X9_key ⟨show f2 + 1 ≤ 10 by omega, show 8 + (2 + 11) + n2 ≤ 346 by omega⟩) (hgH.V hE (show vwCl[9]? = some (RX9, TX9, 28) from rfl) rfl) rfl rfl hl.1 rfl (lv_room (Nat.le_of_ble_eq_true rfl)) dL_law_147 ⟨(Nat.le_of_ble_eq_true rfl), (Nat.le_of_ble_eq_true rfl)⟩) (fun H locs M => ?_)
  rw [List.append_nil] at M
  refine lv_icmp_eq (tgt := 656) S.1 S.2.1 dL_law_150 (by decide) (fun _ => ?_) (fun c_ => absurd rfl c_)
  exact kk _ _ hR2 _ _ M
set_option maxHeartbeats 4000000 in
set_option maxRecDepth 100000 in
theorem law_wipe {p : Program} {l : Launch} {e : Env} {s : State} {m : MethodId} {below : List Frame} {meth : Method} {c : Code} {E : xE} {b L : Nat} {xs : Nat → Int32} {ad am : Nat → Nat} (hL : L ≤ 2560) (C0 : lw_At p s m meth c b L xs) (hE : kE E (fun q : Nat => s.heap.size ≤ q) s s.heap) {z : SpcS} {y : MdS} (hR : Rel z y) {j : Nat} (hj : j + 5 ≤ L) {H : Heap} {locs : List Loc} (M : gM E (fun q : Nat => s.heap.size ≤ q) s.heap (spcGs E ad z ++ modGs E am y) H locs) {ls : Array Slot} (hl : lv_has ls 4 [(0, .ref b), (1, .ref (ad 0)), (2, .ref (am 0)), (3, .int (nI j))]) (kk : ∀ (z : SpcS) (y : MdS), Rel z y → ∀ (H : Heap) (locs : List Loc), gM E (fun q : Nat => s.heap.size ≤ q) s.heap (spcGs E ad z ++ modGs E am y) H locs → W p l e room_1 s m #[Value.ref b] below meth c H locs 57 3831 (lw_Z below #[Value.ref b] s) (F0 m 656 ls [])) : W p l e room_1 s m #[Value.ref b] below meth c H locs 57 3831 (lw_Z below #[Value.ref b] s) (F0 m 155 ls []) := by
  obtain ⟨hx, hb, hr, hml, hown, hts0, hX, hbl, hlocks, hgv⟩ := C0
  have hts : ∀ w ∈ wsL_law, w.before #[Value.ref b] s = true := fun w h => hts0 w (wsL_law_in w h)
  have S : CallFix p m c cL_law 4 s #[Value.ref b] wsL_law RL := ⟨hx, hb, hml, hown, hts⟩
  have hbA : ¬ (fun q : Nat => s.heap.size ≤ q) b := Nat.not_le.mpr hbl
  have hA := hR.a_ct
  have hS := hR.s_ct
  refine lv_aload_n S.1 S.2.1 dL_law_155 rfl (lv_at hl 1 rfl) ?_
  refine gcalli (L := []) (Mid := spcGs E ad z) (Rr := modGs E am y) (Mid' := spcGs E ad (SpcS.wipe z).2) hE M rfl rfl rfl (fun hgH => va_runV (As := []) (rest := []) S (c_X8_wipe l E ad z _) (cwV 0 S.2.2.2.2 gL_law_X8_wipe rfl rfl rfl kd_X8_wipe ⟨(Nat.le_of_ble_eq_true rfl), (Nat.le_of_ble_eq_true rfl)⟩) (hgH.V hE (show vwCl[8]? = some (RX8, TX8, 11) from rfl) rfl) rfl rfl hl.1 rfl (lv_room (Nat.le_of_ble_eq_true rfl)) dL_law_156 ⟨(Nat.le_of_ble_eq_true rfl), (Nat.le_of_ble_eq_true rfl)⟩) (fun H locs M => ?_)
  have M : gM E (fun q : Nat => s.heap.size ≤ q) s.heap (spcGs E ad (SpcS.wipe z).2 ++ modGs E am y) H locs := M
  obtain ⟨y2, f2, n2, hf2, hn2, hC2, hR2⟩ := pk_wipe l E am hR
  refine lv_aload_n S.1 S.2.1 dL_law_159 rfl (lv_at hl 2 rfl) ?_
  refine gcalli (r := (SpcS.wipe z).1) (L := spcGs E ad (SpcS.wipe z).2) (Mid := modGs E am y) (Rr := []) (Mid' := modGs E am y2) hE M (by rw [List.append_nil]) rfl rfl (fun hgH => va_runV (As := []) (rest := [.int (SpcS.wipe z).1]) S (hC2 _) (cwV 0 S.2.2.2.2 gL_law_X9_wipe rfl rfl rfl kd_X9_wipe ⟨show f2 + 1 ≤ 10 by omega, show 8 + (2 + 11) + n2 ≤ 346 by omega⟩) (hgH.V hE (show vwCl[9]? = some (RX9, TX9, 28) from rfl) rfl) rfl rfl hl.1 rfl (lv_room (Nat.le_of_ble_eq_true rfl)) dL_law_160 ⟨(Nat.le_of_ble_eq_true rfl), (Nat.le_of_ble_eq_true rfl)⟩) (fun H locs M => ?_)
  rw [List.append_nil] at M
  refine lv_icmp_eq (tgt := 656) S.1 S.2.1 dL_law_163 (by decide) (fun _ => ?_) (fun c_ => absurd rfl c_)
  exact kk _ _ hR2 _ _ M
set_option maxHeartbeats 4000000 in
set_option maxRecDepth 100000 in
theorem law_manner {p : Program} {l : Launch} {e : Env} {s : State} {m : MethodId} {below : List Frame} {meth : Method} {c : Code} {E : xE} {b L : Nat} {xs : Nat → Int32} {ad am : Nat → Nat} (hL : L ≤ 2560) (C0 : lw_At p s m meth c b L xs) (hE : kE E (fun q : Nat => s.heap.size ≤ q) s s.heap) {z : SpcS} {y : MdS} (hR : Rel z y) {j : Nat} (hj : j + 5 ≤ L) {H : Heap} {locs : List Loc} (M : gM E (fun q : Nat => s.heap.size ≤ q) s.heap (spcGs E ad z ++ modGs E am y) H locs) {ls : Array Slot} (hl : lv_has ls 4 [(0, .ref b), (1, .ref (ad 0)), (2, .ref (am 0)), (3, .int (nI j))]) (kk : ∀ (z : SpcS) (y : MdS), Rel z y → ∀ (H : Heap) (locs : List Loc), gM E (fun q : Nat => s.heap.size ≤ q) s.heap (spcGs E ad z ++ modGs E am y) H locs → W p l e room_1 s m #[Value.ref b] below meth c H locs 57 3831 (lw_Z below #[Value.ref b] s) (F0 m 656 ls [])) : W p l e room_1 s m #[Value.ref b] below meth c H locs 57 3831 (lw_Z below #[Value.ref b] s) (F0 m 168 ls []) := by
  obtain ⟨hx, hb, hr, hml, hown, hts0, hX, hbl, hlocks, hgv⟩ := C0
  have hts : ∀ w ∈ wsL_law, w.before #[Value.ref b] s = true := fun w h => hts0 w (wsL_law_in w h)
  have S : CallFix p m c cL_law 4 s #[Value.ref b] wsL_law RL := ⟨hx, hb, hml, hown, hts⟩
  have hbA : ¬ (fun q : Nat => s.heap.size ≤ q) b := Nat.not_le.mpr hbl
  have hA := hR.a_ct
  have hS := hR.s_ct
  refine lv_aload_n S.1 S.2.1 dL_law_168 rfl (lv_at hl 1 rfl) ?_
  refine lv_aload_n S.1 S.2.1 dL_law_169 rfl (lv_at hl 0 rfl) ?_
  refine lv_iload_n S.1 S.2.1 dL_law_170 rfl (lv_at hl 3 rfl) ?_
  refine lv_iconst (v := nI 1) S.1 S.2.1 dL_law_171 (by decide) ?_
  refine lv_iadd S.1 S.2.1 dL_law_172 ?_
  refine gtop (x' := nI (j + 1)) (nI_add j 1) ?_
  refine va_sld S.1 S.2.1 hX hbl hbA M.2.2.1 (vp_in_nI (by omega) (by omega)) dL_law_173 ?_
  refine gtop (x' := xs (j + 1)) (by rw [nI_clamp (by omega)]) ?_
  refine gcalli (L := []) (Mid := spcGs E ad z) (Rr := modGs E am y) (Mid' := spcGs E ad (SpcS.manner z (xs (j + 1))).2) hE M rfl rfl rfl (fun hgH => va_runV (As := [.int (xs (j + 1))]) (rest := []) S (c_X8_manner l E ad z (xs (j + 1)) _) (cwV 1 S.2.2.2.2 gL_law_X8_manner rfl rfl rfl kd_X8_manner ⟨(Nat.le_of_ble_eq_true rfl), (Nat.le_of_ble_eq_true rfl)⟩) (hgH.V hE (show vwCl[8]? = some (RX8, TX8, 11) from rfl) rfl) rfl rfl hl.1 rfl (lv_room (Nat.le_of_ble_eq_true rfl)) dL_law_174 ⟨(Nat.le_of_ble_eq_true rfl), (Nat.le_of_ble_eq_true rfl)⟩) (fun H locs M => ?_)
  have M : gM E (fun q : Nat => s.heap.size ≤ q) s.heap (spcGs E ad (SpcS.manner z (xs (j + 1))).2 ++ modGs E am y) H locs := M
  obtain ⟨y2, f2, n2, hf2, hn2, hC2, hR2⟩ := pk_manner l E am hR (xs (j + 1))
  refine lv_aload_n S.1 S.2.1 dL_law_177 rfl (lv_at hl 2 rfl) ?_
  refine lv_aload_n S.1 S.2.1 dL_law_178 rfl (lv_at hl 0 rfl) ?_
  refine lv_iload_n S.1 S.2.1 dL_law_179 rfl (lv_at hl 3 rfl) ?_
  refine lv_iconst (v := nI 1) S.1 S.2.1 dL_law_180 (by decide) ?_
  refine lv_iadd S.1 S.2.1 dL_law_181 ?_
  refine gtop (x' := nI (j + 1)) (nI_add j 1) ?_
  refine va_sld S.1 S.2.1 hX hbl hbA M.2.2.1 (vp_in_nI (by omega) (by omega)) dL_law_182 ?_
  refine gtop (x' := xs (j + 1)) (by rw [nI_clamp (by omega)]) ?_
  refine gcalli (r := (SpcS.manner z (xs (j + 1))).1) (L := spcGs E ad (SpcS.manner z (xs (j + 1))).2) (Mid := modGs E am y) (Rr := []) (Mid' := modGs E am y2) hE M (by rw [List.append_nil]) rfl rfl (fun hgH => va_runV (As := [.int (xs (j + 1))]) (rest := [.int (SpcS.manner z (xs (j + 1))).1]) S (hC2 _) (cwV 1 S.2.2.2.2 gL_law_X9_manner rfl rfl rfl kd_X9_manner ⟨show f2 + 1 ≤ 10 by omega, show 8 + (4 + 11) + n2 ≤ 346 by omega⟩) (hgH.V hE (show vwCl[9]? = some (RX9, TX9, 28) from rfl) rfl) rfl rfl hl.1 rfl (lv_room (Nat.le_of_ble_eq_true rfl)) dL_law_183 ⟨(Nat.le_of_ble_eq_true rfl), (Nat.le_of_ble_eq_true rfl)⟩) (fun H locs M => ?_)
  rw [List.append_nil] at M
  refine lv_icmp_eq (tgt := 656) S.1 S.2.1 dL_law_186 (by decide) (fun _ => ?_) (fun c_ => absurd rfl c_)
  exact kk _ _ hR2 _ _ M
set_option maxHeartbeats 4000000 in
set_option maxRecDepth 100000 in
theorem law_margin {p : Program} {l : Launch} {e : Env} {s : State} {m : MethodId} {below : List Frame} {meth : Method} {c : Code} {E : xE} {b L : Nat} {xs : Nat → Int32} {ad am : Nat → Nat} (hL : L ≤ 2560) (C0 : lw_At p s m meth c b L xs) (hE : kE E (fun q : Nat => s.heap.size ≤ q) s s.heap) {z : SpcS} {y : MdS} (hR : Rel z y) {j : Nat} (hj : j + 5 ≤ L) {H : Heap} {locs : List Loc} (M : gM E (fun q : Nat => s.heap.size ≤ q) s.heap (spcGs E ad z ++ modGs E am y) H locs) {ls : Array Slot} (hl : lv_has ls 4 [(0, .ref b), (1, .ref (ad 0)), (2, .ref (am 0)), (3, .int (nI j))]) (kk : ∀ (z : SpcS) (y : MdS), Rel z y → ∀ (H : Heap) (locs : List Loc), gM E (fun q : Nat => s.heap.size ≤ q) s.heap (spcGs E ad z ++ modGs E am y) H locs → W p l e room_1 s m #[Value.ref b] below meth c H locs 57 3831 (lw_Z below #[Value.ref b] s) (F0 m 656 ls [])) : W p l e room_1 s m #[Value.ref b] below meth c H locs 57 3831 (lw_Z below #[Value.ref b] s) (F0 m 191 ls []) := by
  obtain ⟨hx, hb, hr, hml, hown, hts0, hX, hbl, hlocks, hgv⟩ := C0
  have hts : ∀ w ∈ wsL_law, w.before #[Value.ref b] s = true := fun w h => hts0 w (wsL_law_in w h)
  have S : CallFix p m c cL_law 4 s #[Value.ref b] wsL_law RL := ⟨hx, hb, hml, hown, hts⟩
  have hbA : ¬ (fun q : Nat => s.heap.size ≤ q) b := Nat.not_le.mpr hbl
  have hA := hR.a_ct
  have hS := hR.s_ct
  refine lv_aload_n S.1 S.2.1 dL_law_191 rfl (lv_at hl 1 rfl) ?_
  refine lv_aload_n S.1 S.2.1 dL_law_192 rfl (lv_at hl 0 rfl) ?_
  refine lv_iload_n S.1 S.2.1 dL_law_193 rfl (lv_at hl 3 rfl) ?_
  refine lv_iconst (v := nI 1) S.1 S.2.1 dL_law_194 (by decide) ?_
  refine lv_iadd S.1 S.2.1 dL_law_195 ?_
  refine gtop (x' := nI (j + 1)) (nI_add j 1) ?_
  refine va_sld S.1 S.2.1 hX hbl hbA M.2.2.1 (vp_in_nI (by omega) (by omega)) dL_law_196 ?_
  refine gtop (x' := xs (j + 1)) (by rw [nI_clamp (by omega)]) ?_
  refine gcalli (L := []) (Mid := spcGs E ad z) (Rr := modGs E am y) (Mid' := spcGs E ad (SpcS.margin z (xs (j + 1))).2) hE M rfl rfl rfl (fun hgH => va_runV (As := [.int (xs (j + 1))]) (rest := []) S (c_X8_margin l E ad z (xs (j + 1)) _) (cwV 1 S.2.2.2.2 gL_law_X8_margin rfl rfl rfl kd_X8_margin ⟨(Nat.le_of_ble_eq_true rfl), (Nat.le_of_ble_eq_true rfl)⟩) (hgH.V hE (show vwCl[8]? = some (RX8, TX8, 11) from rfl) rfl) rfl rfl hl.1 rfl (lv_room (Nat.le_of_ble_eq_true rfl)) dL_law_197 ⟨(Nat.le_of_ble_eq_true rfl), (Nat.le_of_ble_eq_true rfl)⟩) (fun H locs M => ?_)
  have M : gM E (fun q : Nat => s.heap.size ≤ q) s.heap (spcGs E ad (SpcS.margin z (xs (j + 1))).2 ++ modGs E am y) H locs := M
  obtain ⟨y2, f2, n2, hf2, hn2, hC2, hR2⟩ := pk_margin l E am hR (xs (j + 1))
  refine lv_aload_n S.1 S.2.1 dL_law_200 rfl (lv_at hl 2 rfl) ?_
  refine lv_aload_n S.1 S.2.1 dL_law_201 rfl (lv_at hl 0 rfl) ?_
  refine lv_iload_n S.1 S.2.1 dL_law_202 rfl (lv_at hl 3 rfl) ?_
  refine lv_iconst (v := nI 1) S.1 S.2.1 dL_law_203 (by decide) ?_
  refine lv_iadd S.1 S.2.1 dL_law_204 ?_
  refine gtop (x' := nI (j + 1)) (nI_add j 1) ?_
  refine va_sld S.1 S.2.1 hX hbl hbA M.2.2.1 (vp_in_nI (by omega) (by omega)) dL_law_205 ?_
  refine gtop (x' := xs (j + 1)) (by rw [nI_clamp (by omega)]) ?_
  refine gcalli (r := (SpcS.margin z (xs (j + 1))).1) (L := spcGs E ad (SpcS.margin z (xs (j + 1))).2) (Mid := modGs E am y) (Rr := []) (Mid' := modGs E am y2) hE M (by rw [List.append_nil]) rfl rfl (fun hgH => va_runV (As := [.int (xs (j + 1))]) (rest := [.int (SpcS.margin z (xs (j + 1))).1]) S (hC2 _) (cwV 1 S.2.2.2.2 gL_law_X9_margin rfl rfl rfl kd_X9_margin ⟨show f2 + 1 ≤ 10 by omega, show 8 + (3 + 11) + n2 ≤ 346 by omega⟩) (hgH.V hE (show vwCl[9]? = some (RX9, TX9, 28) from rfl) rfl) rfl rfl hl.1 rfl (lv_room (Nat.le_of_ble_eq_true rfl)) dL_law_206 ⟨(Nat.le_of_ble_eq_true rfl), (Nat.le_of_ble_eq_true rfl)⟩) (fun H locs M => ?_)
  rw [List.append_nil] at M
  refine lv_icmp_eq (tgt := 656) S.1 S.2.1 dL_law_209 (by decide) (fun _ => ?_) (fun c_ => absurd rfl c_)
  exact kk _ _ hR2 _ _ M
set_option maxHeartbeats 4000000 in
set_option maxRecDepth 100000 in
theorem law_jump {p : Program} {l : Launch} {e : Env} {s : State} {m : MethodId} {below : List Frame} {meth : Method} {c : Code} {E : xE} {b L : Nat} {xs : Nat → Int32} {ad am : Nat → Nat} (hL : L ≤ 2560) (C0 : lw_At p s m meth c b L xs) (hE : kE E (fun q : Nat => s.heap.size ≤ q) s s.heap) {z : SpcS} {y : MdS} (hR : Rel z y) {j : Nat} (hj : j + 5 ≤ L) {H : Heap} {locs : List Loc} (M : gM E (fun q : Nat => s.heap.size ≤ q) s.heap (spcGs E ad z ++ modGs E am y) H locs) {ls : Array Slot} (hl : lv_has ls 4 [(0, .ref b), (1, .ref (ad 0)), (2, .ref (am 0)), (3, .int (nI j))]) (kk : ∀ (z : SpcS) (y : MdS), Rel z y → ∀ (H : Heap) (locs : List Loc), gM E (fun q : Nat => s.heap.size ≤ q) s.heap (spcGs E ad z ++ modGs E am y) H locs → W p l e room_1 s m #[Value.ref b] below meth c H locs 57 3831 (lw_Z below #[Value.ref b] s) (F0 m 656 ls [])) : W p l e room_1 s m #[Value.ref b] below meth c H locs 57 3831 (lw_Z below #[Value.ref b] s) (F0 m 214 ls []) := by
  obtain ⟨hx, hb, hr, hml, hown, hts0, hX, hbl, hlocks, hgv⟩ := C0
  have hts : ∀ w ∈ wsL_law, w.before #[Value.ref b] s = true := fun w h => hts0 w (wsL_law_in w h)
  have S : CallFix p m c cL_law 4 s #[Value.ref b] wsL_law RL := ⟨hx, hb, hml, hown, hts⟩
  have hbA : ¬ (fun q : Nat => s.heap.size ≤ q) b := Nat.not_le.mpr hbl
  have hA := hR.a_ct
  have hS := hR.s_ct
  refine lv_aload_n S.1 S.2.1 dL_law_214 rfl (lv_at hl 1 rfl) ?_
  refine lv_aload_n S.1 S.2.1 dL_law_215 rfl (lv_at hl 0 rfl) ?_
  refine lv_iload_n S.1 S.2.1 dL_law_216 rfl (lv_at hl 3 rfl) ?_
  refine lv_iconst (v := nI 1) S.1 S.2.1 dL_law_217 (by decide) ?_
  refine lv_iadd S.1 S.2.1 dL_law_218 ?_
  refine gtop (x' := nI (j + 1)) (nI_add j 1) ?_
  refine va_sld S.1 S.2.1 hX hbl hbA M.2.2.1 (vp_in_nI (by omega) (by omega)) dL_law_219 ?_
  refine gtop (x' := xs (j + 1)) (by rw [nI_clamp (by omega)]) ?_
  refine gcalli (L := []) (Mid := spcGs E ad z) (Rr := modGs E am y) (Mid' := spcGs E ad (SpcS.jump z (xs (j + 1))).2) hE M rfl rfl rfl (fun hgH => va_runV (As := [.int (xs (j + 1))]) (rest := []) S (c_X8_jump l E ad z (xs (j + 1)) _) (cwV 1 S.2.2.2.2 gL_law_X8_jump rfl rfl rfl kd_X8_jump ⟨(Nat.le_of_ble_eq_true rfl), (Nat.le_of_ble_eq_true rfl)⟩) (hgH.V hE (show vwCl[8]? = some (RX8, TX8, 11) from rfl) rfl) rfl rfl hl.1 rfl (lv_room (Nat.le_of_ble_eq_true rfl)) dL_law_220 ⟨(Nat.le_of_ble_eq_true rfl), (Nat.le_of_ble_eq_true rfl)⟩) (fun H locs M => ?_)
  have M : gM E (fun q : Nat => s.heap.size ≤ q) s.heap (spcGs E ad (SpcS.jump z (xs (j + 1))).2 ++ modGs E am y) H locs := M
  obtain ⟨y2, f2, n2, hf2, hn2, hC2, hR2⟩ := pk_jump l E am hR (xs (j + 1))
  refine lv_aload_n S.1 S.2.1 dL_law_223 rfl (lv_at hl 2 rfl) ?_
  refine lv_aload_n S.1 S.2.1 dL_law_224 rfl (lv_at hl 0 rfl) ?_
  refine lv_iload_n S.1 S.2.1 dL_law_225 rfl (lv_at hl 3 rfl) ?_
  refine lv_iconst (v := nI 1) S.1 S.2.1 dL_law_226 (by decide) ?_
  refine lv_iadd S.1 S.2.1 dL_law_227 ?_
  refine gtop (x' := nI (j + 1)) (nI_add j 1) ?_
  refine va_sld S.1 S.2.1 hX hbl hbA M.2.2.1 (vp_in_nI (by omega) (by omega)) dL_law_228 ?_
  refine gtop (x' := xs (j + 1)) (by rw [nI_clamp (by omega)]) ?_
  refine gcalli (r := (SpcS.jump z (xs (j + 1))).1) (L := spcGs E ad (SpcS.jump z (xs (j + 1))).2) (Mid := modGs E am y) (Rr := []) (Mid' := modGs E am y2) hE M (by rw [List.append_nil]) rfl rfl (fun hgH => va_runV (As := [.int (xs (j + 1))]) (rest := [.int (SpcS.jump z (xs (j + 1))).1]) S (hC2 _) (cwV 1 S.2.2.2.2 gL_law_X9_jump rfl rfl rfl kd_X9_jump ⟨show f2 + 1 ≤ 10 by omega, show 8 + (3 + 11) + n2 ≤ 346 by omega⟩) (hgH.V hE (show vwCl[9]? = some (RX9, TX9, 28) from rfl) rfl) rfl rfl hl.1 rfl (lv_room (Nat.le_of_ble_eq_true rfl)) dL_law_229 ⟨(Nat.le_of_ble_eq_true rfl), (Nat.le_of_ble_eq_true rfl)⟩) (fun H locs M => ?_)
  rw [List.append_nil] at M
  refine lv_icmp_eq (tgt := 656) S.1 S.2.1 dL_law_232 (by decide) (fun _ => ?_) (fun c_ => absurd rfl c_)
  exact kk _ _ hR2 _ _ M
set_option maxHeartbeats 4000000 in
set_option maxRecDepth 100000 in
theorem law_arrive {p : Program} {l : Launch} {e : Env} {s : State} {m : MethodId} {below : List Frame} {meth : Method} {c : Code} {E : xE} {b L : Nat} {xs : Nat → Int32} {ad am : Nat → Nat} (hL : L ≤ 2560) (C0 : lw_At p s m meth c b L xs) (hE : kE E (fun q : Nat => s.heap.size ≤ q) s s.heap) {z : SpcS} {y : MdS} (hR : Rel z y) {j : Nat} (hj : j + 5 ≤ L) {H : Heap} {locs : List Loc} (M : gM E (fun q : Nat => s.heap.size ≤ q) s.heap (spcGs E ad z ++ modGs E am y) H locs) {ls : Array Slot} (hl : lv_has ls 4 [(0, .ref b), (1, .ref (ad 0)), (2, .ref (am 0)), (3, .int (nI j))]) (kk : ∀ (z : SpcS) (y : MdS), Rel z y → ∀ (H : Heap) (locs : List Loc), gM E (fun q : Nat => s.heap.size ≤ q) s.heap (spcGs E ad z ++ modGs E am y) H locs → W p l e room_1 s m #[Value.ref b] below meth c H locs 57 3831 (lw_Z below #[Value.ref b] s) (F0 m 656 ls [])) : W p l e room_1 s m #[Value.ref b] below meth c H locs 57 3831 (lw_Z below #[Value.ref b] s) (F0 m 237 ls []) := by
  obtain ⟨hx, hb, hr, hml, hown, hts0, hX, hbl, hlocks, hgv⟩ := C0
  have hts : ∀ w ∈ wsL_law, w.before #[Value.ref b] s = true := fun w h => hts0 w (wsL_law_in w h)
  have S : CallFix p m c cL_law 4 s #[Value.ref b] wsL_law RL := ⟨hx, hb, hml, hown, hts⟩
  have hbA : ¬ (fun q : Nat => s.heap.size ≤ q) b := Nat.not_le.mpr hbl
  have hA := hR.a_ct
  have hS := hR.s_ct
  refine lv_aload_n S.1 S.2.1 dL_law_237 rfl (lv_at hl 1 rfl) ?_
  refine lv_aload_n S.1 S.2.1 dL_law_238 rfl (lv_at hl 0 rfl) ?_
  refine lv_iload_n S.1 S.2.1 dL_law_239 rfl (lv_at hl 3 rfl) ?_
  refine lv_iconst (v := nI 1) S.1 S.2.1 dL_law_240 (by decide) ?_
  refine lv_iadd S.1 S.2.1 dL_law_241 ?_
  refine gtop (x' := nI (j + 1)) (nI_add j 1) ?_
  refine va_sld S.1 S.2.1 hX hbl hbA M.2.2.1 (vp_in_nI (by omega) (by omega)) dL_law_242 ?_
  refine gtop (x' := xs (j + 1)) (by rw [nI_clamp (by omega)]) ?_
  refine lv_aload_n S.1 S.2.1 dL_law_243 rfl (lv_at hl 0 rfl) ?_
  refine lv_iload_n S.1 S.2.1 dL_law_244 rfl (lv_at hl 3 rfl) ?_
  refine lv_iconst (v := nI 2) S.1 S.2.1 dL_law_245 (by decide) ?_
  refine lv_iadd S.1 S.2.1 dL_law_246 ?_
  refine gtop (x' := nI (j + 2)) (nI_add j 2) ?_
  refine va_sld S.1 S.2.1 hX hbl hbA M.2.2.1 (vp_in_nI (by omega) (by omega)) dL_law_247 ?_
  refine gtop (x' := xs (j + 2)) (by rw [nI_clamp (by omega)]) ?_
  refine lv_aload_n S.1 S.2.1 dL_law_248 rfl (lv_at hl 0 rfl) ?_
  refine lv_iload_n S.1 S.2.1 dL_law_249 rfl (lv_at hl 3 rfl) ?_
  refine lv_iconst (v := nI 3) S.1 S.2.1 dL_law_250 (by decide) ?_
  refine lv_iadd S.1 S.2.1 dL_law_251 ?_
  refine gtop (x' := nI (j + 3)) (nI_add j 3) ?_
  refine va_sld S.1 S.2.1 hX hbl hbA M.2.2.1 (vp_in_nI (by omega) (by omega)) dL_law_252 ?_
  refine gtop (x' := xs (j + 3)) (by rw [nI_clamp (by omega)]) ?_
  refine lv_aload_n S.1 S.2.1 dL_law_253 rfl (lv_at hl 0 rfl) ?_
  refine lv_iload_n S.1 S.2.1 dL_law_254 rfl (lv_at hl 3 rfl) ?_
  refine lv_iconst (v := nI 4) S.1 S.2.1 dL_law_255 (by decide) ?_
  refine lv_iadd S.1 S.2.1 dL_law_256 ?_
  refine gtop (x' := nI (j + 4)) (nI_add j 4) ?_
  refine va_sld S.1 S.2.1 hX hbl hbA M.2.2.1 (vp_in_nI (by omega) (by omega)) dL_law_257 ?_
  refine gtop (x' := xs (j + 4)) (by rw [nI_clamp (by omega)]) ?_
  refine gcalli (L := []) (Mid := spcGs E ad z) (Rr := modGs E am y) (Mid' := spcGs E ad (SpcS.arrive z (xs (j + 1)) (xs (j + 2)) (xs (j + 3)) (xs (j + 4))).2) hE M rfl rfl rfl (fun hgH => va_runV (As := [.int (xs (j + 1)), .int (xs (j + 2)), .int (xs (j + 3)), .int (xs (j + 4))]) (rest := []) S (c_X8_arrive l E ad z (xs (j + 1)) (xs (j + 2)) (xs (j + 3)) (xs (j + 4)) hA hS _) (cwV 4 S.2.2.2.2 gL_law_X8_arrive rfl rfl rfl kd_X8_arrive ⟨(Nat.le_of_ble_eq_true rfl), (Nat.le_of_ble_eq_true rfl)⟩) (hgH.V hE (show vwCl[8]? = some (RX8, TX8, 11) from rfl) rfl) rfl rfl hl.1 rfl (lv_room (Nat.le_of_ble_eq_true rfl)) dL_law_258 ⟨(Nat.le_of_ble_eq_true rfl), (Nat.le_of_ble_eq_true rfl)⟩) (fun H locs M => ?_)
  have M : gM E (fun q : Nat => s.heap.size ≤ q) s.heap (spcGs E ad (SpcS.arrive z (xs (j + 1)) (xs (j + 2)) (xs (j + 3)) (xs (j + 4))).2 ++ modGs E am y) H locs := M
  obtain ⟨y2, f2, n2, hf2, hn2, hC2, hR2⟩ := pk_arrive l E am hR (xs (j + 1)) (xs (j + 2)) (xs (j + 3)) (xs (j + 4))
  refine lv_aload_n S.1 S.2.1 dL_law_261 rfl (lv_at hl 2 rfl) ?_
  refine lv_aload_n S.1 S.2.1 dL_law_262 rfl (lv_at hl 0 rfl) ?_
  refine lv_iload_n S.1 S.2.1 dL_law_263 rfl (lv_at hl 3 rfl) ?_
  refine lv_iconst (v := nI 1) S.1 S.2.1 dL_law_264 (by decide) ?_
  refine lv_iadd S.1 S.2.1 dL_law_265 ?_
  refine gtop (x' := nI (j + 1)) (nI_add j 1) ?_
  refine va_sld S.1 S.2.1 hX hbl hbA M.2.2.1 (vp_in_nI (by omega) (by omega)) dL_law_266 ?_
  refine gtop (x' := xs (j + 1)) (by rw [nI_clamp (by omega)]) ?_
  refine lv_aload_n S.1 S.2.1 dL_law_267 rfl (lv_at hl 0 rfl) ?_
  refine lv_iload_n S.1 S.2.1 dL_law_268 rfl (lv_at hl 3 rfl) ?_
  refine lv_iconst (v := nI 2) S.1 S.2.1 dL_law_269 (by decide) ?_
  refine lv_iadd S.1 S.2.1 dL_law_270 ?_
  refine gtop (x' := nI (j + 2)) (nI_add j 2) ?_
  refine va_sld S.1 S.2.1 hX hbl hbA M.2.2.1 (vp_in_nI (by omega) (by omega)) dL_law_271 ?_
  refine gtop (x' := xs (j + 2)) (by rw [nI_clamp (by omega)]) ?_
  refine lv_aload_n S.1 S.2.1 dL_law_272 rfl (lv_at hl 0 rfl) ?_
  refine lv_iload_n S.1 S.2.1 dL_law_273 rfl (lv_at hl 3 rfl) ?_
  refine lv_iconst (v := nI 3) S.1 S.2.1 dL_law_274 (by decide) ?_
  refine lv_iadd S.1 S.2.1 dL_law_275 ?_
  refine gtop (x' := nI (j + 3)) (nI_add j 3) ?_
  refine va_sld S.1 S.2.1 hX hbl hbA M.2.2.1 (vp_in_nI (by omega) (by omega)) dL_law_276 ?_
  refine gtop (x' := xs (j + 3)) (by rw [nI_clamp (by omega)]) ?_
  refine lv_aload_n S.1 S.2.1 dL_law_277 rfl (lv_at hl 0 rfl) ?_
  refine lv_iload_n S.1 S.2.1 dL_law_278 rfl (lv_at hl 3 rfl) ?_
  refine lv_iconst (v := nI 4) S.1 S.2.1 dL_law_279 (by decide) ?_
  refine lv_iadd S.1 S.2.1 dL_law_280 ?_
  refine gtop (x' := nI (j + 4)) (nI_add j 4) ?_
  refine va_sld S.1 S.2.1 hX hbl hbA M.2.2.1 (vp_in_nI (by omega) (by omega)) dL_law_281 ?_
  refine gtop (x' := xs (j + 4)) (by rw [nI_clamp (by omega)]) ?_
  refine gcalli (r := (SpcS.arrive z (xs (j + 1)) (xs (j + 2)) (xs (j + 3)) (xs (j + 4))).1) (L := spcGs E ad (SpcS.arrive z (xs (j + 1)) (xs (j + 2)) (xs (j + 3)) (xs (j + 4))).2) (Mid := modGs E am y) (Rr := []) (Mid' := modGs E am y2) hE M (by rw [List.append_nil]) rfl rfl (fun hgH => va_runV (As := [.int (xs (j + 1)), .int (xs (j + 2)), .int (xs (j + 3)), .int (xs (j + 4))]) (rest := [.int (SpcS.arrive z (xs (j + 1)) (xs (j + 2)) (xs (j + 3)) (xs (j + 4))).1]) S (hC2 _) (cwV 4 S.2.2.2.2 gL_law_X9_arrive rfl rfl rfl kd_X9_arrive ⟨show f2 + 1 ≤ 10 by omega, show 8 + (6 + 11) + n2 ≤ 346 by omega⟩) (hgH.V hE (show vwCl[9]? = some (RX9, TX9, 28) from rfl) rfl) rfl rfl hl.1 rfl (lv_room (Nat.le_of_ble_eq_true rfl)) dL_law_282 ⟨(Nat.le_of_ble_eq_true rfl), (Nat.le_of_ble_eq_true rfl)⟩) (fun H locs M => ?_)
  rw [List.append_nil] at M
  refine lv_icmp_eq (tgt := 656) S.1 S.2.1 dL_law_285 (by decide) (fun _ => ?_) (fun c_ => absurd rfl c_)
  exact kk _ _ hR2 _ _ M
set_option maxHeartbeats 4000000 in
set_option maxRecDepth 100000 in
theorem law_anew {p : Program} {l : Launch} {e : Env} {s : State} {m : MethodId} {below : List Frame} {meth : Method} {c : Code} {E : xE} {b L : Nat} {xs : Nat → Int32} {ad am : Nat → Nat} (hL : L ≤ 2560) (C0 : lw_At p s m meth c b L xs) (hE : kE E (fun q : Nat => s.heap.size ≤ q) s s.heap) {z : SpcS} {y : MdS} (hR : Rel z y) {j : Nat} (hj : j + 5 ≤ L) {H : Heap} {locs : List Loc} (M : gM E (fun q : Nat => s.heap.size ≤ q) s.heap (spcGs E ad z ++ modGs E am y) H locs) {ls : Array Slot} (hl : lv_has ls 4 [(0, .ref b), (1, .ref (ad 0)), (2, .ref (am 0)), (3, .int (nI j))]) (kk : ∀ (z : SpcS) (y : MdS), Rel z y → ∀ (H : Heap) (locs : List Loc), gM E (fun q : Nat => s.heap.size ≤ q) s.heap (spcGs E ad z ++ modGs E am y) H locs → W p l e room_1 s m #[Value.ref b] below meth c H locs 57 3831 (lw_Z below #[Value.ref b] s) (F0 m 656 ls [])) : W p l e room_1 s m #[Value.ref b] below meth c H locs 57 3831 (lw_Z below #[Value.ref b] s) (F0 m 290 ls []) := by
  obtain ⟨hx, hb, hr, hml, hown, hts0, hX, hbl, hlocks, hgv⟩ := C0
  have hts : ∀ w ∈ wsL_law, w.before #[Value.ref b] s = true := fun w h => hts0 w (wsL_law_in w h)
  have S : CallFix p m c cL_law 4 s #[Value.ref b] wsL_law RL := ⟨hx, hb, hml, hown, hts⟩
  have hbA : ¬ (fun q : Nat => s.heap.size ≤ q) b := Nat.not_le.mpr hbl
  have hA := hR.a_ct
  have hS := hR.s_ct
  refine lv_aload_n S.1 S.2.1 dL_law_290 rfl (lv_at hl 1 rfl) ?_
  refine gcalli (L := []) (Mid := spcGs E ad z) (Rr := modGs E am y) (Mid' := spcGs E ad (SpcS.anew z).2) hE M rfl rfl rfl (fun hgH => va_runV (As := []) (rest := []) S (c_X8_anew l E ad z hA _) (cwV 0 S.2.2.2.2 gL_law_X8_anew rfl rfl rfl kd_X8_anew ⟨(Nat.le_of_ble_eq_true rfl), (Nat.le_of_ble_eq_true rfl)⟩) (hgH.V hE (show vwCl[8]? = some (RX8, TX8, 11) from rfl) rfl) rfl rfl hl.1 rfl (lv_room (Nat.le_of_ble_eq_true rfl)) dL_law_291 ⟨(Nat.le_of_ble_eq_true rfl), (Nat.le_of_ble_eq_true rfl)⟩) (fun H locs M => ?_)
  have M : gM E (fun q : Nat => s.heap.size ≤ q) s.heap (spcGs E ad (SpcS.anew z).2 ++ modGs E am y) H locs := M
  obtain ⟨y2, f2, n2, hf2, hn2, hC2, hR2⟩ := pk_anew l E am hR
  refine lv_aload_n S.1 S.2.1 dL_law_294 rfl (lv_at hl 2 rfl) ?_
  refine gcalli (r := (SpcS.anew z).1) (L := spcGs E ad (SpcS.anew z).2) (Mid := modGs E am y) (Rr := []) (Mid' := modGs E am y2) hE M (by rw [List.append_nil]) rfl rfl (fun hgH => va_runV (As := []) (rest := [.int (SpcS.anew z).1]) S (hC2 _) (cwV 0 S.2.2.2.2 gL_law_X9_anew rfl rfl rfl kd_X9_anew ⟨show f2 + 1 ≤ 10 by omega, show 8 + (3 + 11) + n2 ≤ 346 by omega⟩) (hgH.V hE (show vwCl[9]? = some (RX9, TX9, 28) from rfl) rfl) rfl rfl hl.1 rfl (lv_room (Nat.le_of_ble_eq_true rfl)) dL_law_295 ⟨(Nat.le_of_ble_eq_true rfl), (Nat.le_of_ble_eq_true rfl)⟩) (fun H locs M => ?_)
  rw [List.append_nil] at M
  refine lv_icmp_eq (tgt := 656) S.1 S.2.1 dL_law_298 (by decide) (fun _ => ?_) (fun c_ => absurd rfl c_)
  exact kk _ _ hR2 _ _ M
set_option maxHeartbeats 4000000 in
set_option maxRecDepth 100000 in
theorem law_ofFrame {p : Program} {l : Launch} {e : Env} {s : State} {m : MethodId} {below : List Frame} {meth : Method} {c : Code} {E : xE} {b L : Nat} {xs : Nat → Int32} {ad am : Nat → Nat} (hL : L ≤ 2560) (C0 : lw_At p s m meth c b L xs) (hE : kE E (fun q : Nat => s.heap.size ≤ q) s s.heap) {z : SpcS} {y : MdS} (hR : Rel z y) {j : Nat} (hj : j + 5 ≤ L) {H : Heap} {locs : List Loc} (M : gM E (fun q : Nat => s.heap.size ≤ q) s.heap (spcGs E ad z ++ modGs E am y) H locs) {ls : Array Slot} (hl : lv_has ls 4 [(0, .ref b), (1, .ref (ad 0)), (2, .ref (am 0)), (3, .int (nI j))]) (kk : ∀ (z : SpcS) (y : MdS), Rel z y → ∀ (H : Heap) (locs : List Loc), gM E (fun q : Nat => s.heap.size ≤ q) s.heap (spcGs E ad z ++ modGs E am y) H locs → W p l e room_1 s m #[Value.ref b] below meth c H locs 57 3831 (lw_Z below #[Value.ref b] s) (F0 m 656 ls [])) : W p l e room_1 s m #[Value.ref b] below meth c H locs 57 3831 (lw_Z below #[Value.ref b] s) (F0 m 303 ls []) := by
  obtain ⟨hx, hb, hr, hml, hown, hts0, hX, hbl, hlocks, hgv⟩ := C0
  have hts : ∀ w ∈ wsL_law, w.before #[Value.ref b] s = true := fun w h => hts0 w (wsL_law_in w h)
  have S : CallFix p m c cL_law 4 s #[Value.ref b] wsL_law RL := ⟨hx, hb, hml, hown, hts⟩
  have hbA : ¬ (fun q : Nat => s.heap.size ≤ q) b := Nat.not_le.mpr hbl
  have hA := hR.a_ct
  have hS := hR.s_ct
  refine lv_aload_n S.1 S.2.1 dL_law_303 rfl (lv_at hl 1 rfl) ?_
  refine lv_aload_n S.1 S.2.1 dL_law_304 rfl (lv_at hl 0 rfl) ?_
  refine lv_iload_n S.1 S.2.1 dL_law_305 rfl (lv_at hl 3 rfl) ?_
  refine lv_iconst (v := nI 1) S.1 S.2.1 dL_law_306 (by decide) ?_
  refine lv_iadd S.1 S.2.1 dL_law_307 ?_
  refine gtop (x' := nI (j + 1)) (nI_add j 1) ?_
  refine va_sld S.1 S.2.1 hX hbl hbA M.2.2.1 (vp_in_nI (by omega) (by omega)) dL_law_308 ?_
  refine gtop (x' := xs (j + 1)) (by rw [nI_clamp (by omega)]) ?_
  refine lv_aload_n S.1 S.2.1 dL_law_309 rfl (lv_at hl 0 rfl) ?_
  refine lv_iload_n S.1 S.2.1 dL_law_310 rfl (lv_at hl 3 rfl) ?_
  refine lv_iconst (v := nI 2) S.1 S.2.1 dL_law_311 (by decide) ?_
  refine lv_iadd S.1 S.2.1 dL_law_312 ?_
  refine gtop (x' := nI (j + 2)) (nI_add j 2) ?_
  refine va_sld S.1 S.2.1 hX hbl hbA M.2.2.1 (vp_in_nI (by omega) (by omega)) dL_law_313 ?_
  refine gtop (x' := xs (j + 2)) (by rw [nI_clamp (by omega)]) ?_
  refine gcalli (L := []) (Mid := spcGs E ad z) (Rr := modGs E am y) (Mid' := spcGs E ad z) hE M rfl rfl rfl (fun hgH => va_runV (As := [.int (xs (j + 1)), .int (xs (j + 2))]) (rest := []) S (c_X8_ofFrame l E ad z (xs (j + 1)) (xs (j + 2)) _) (cwV 2 S.2.2.2.2 gL_law_X8_ofFrame rfl rfl rfl kd_X8_ofFrame ⟨(Nat.le_of_ble_eq_true rfl), (Nat.le_of_ble_eq_true rfl)⟩) (hgH.V hE (show vwCl[8]? = some (RX8, TX8, 11) from rfl) rfl) rfl rfl hl.1 rfl (lv_room (Nat.le_of_ble_eq_true rfl)) dL_law_314 ⟨(Nat.le_of_ble_eq_true rfl), (Nat.le_of_ble_eq_true rfl)⟩) (fun H locs M => ?_)
  have M : gM E (fun q : Nat => s.heap.size ≤ q) s.heap (spcGs E ad z ++ modGs E am y) H locs := M
  obtain ⟨y2, f2, n2, hf2, hn2, hC2, hR2⟩ := pk_ofFrame l E am hR (xs (j + 1)) (xs (j + 2))
  refine lv_aload_n S.1 S.2.1 dL_law_317 rfl (lv_at hl 2 rfl) ?_
  refine lv_aload_n S.1 S.2.1 dL_law_318 rfl (lv_at hl 0 rfl) ?_
  refine lv_iload_n S.1 S.2.1 dL_law_319 rfl (lv_at hl 3 rfl) ?_
  refine lv_iconst (v := nI 1) S.1 S.2.1 dL_law_320 (by decide) ?_
  refine lv_iadd S.1 S.2.1 dL_law_321 ?_
  refine gtop (x' := nI (j + 1)) (nI_add j 1) ?_
  refine va_sld S.1 S.2.1 hX hbl hbA M.2.2.1 (vp_in_nI (by omega) (by omega)) dL_law_322 ?_
  refine gtop (x' := xs (j + 1)) (by rw [nI_clamp (by omega)]) ?_
  refine lv_aload_n S.1 S.2.1 dL_law_323 rfl (lv_at hl 0 rfl) ?_
  refine lv_iload_n S.1 S.2.1 dL_law_324 rfl (lv_at hl 3 rfl) ?_
  refine lv_iconst (v := nI 2) S.1 S.2.1 dL_law_325 (by decide) ?_
  refine lv_iadd S.1 S.2.1 dL_law_326 ?_
  refine gtop (x' := nI (j + 2)) (nI_add j 2) ?_
  refine va_sld S.1 S.2.1 hX hbl hbA M.2.2.1 (vp_in_nI (by omega) (by omega)) dL_law_327 ?_
  refine gtop (x' := xs (j + 2)) (by rw [nI_clamp (by omega)]) ?_
  refine gcalli (r := (SpcS.ofFrame z (xs (j + 1)) (xs (j + 2)))) (L := spcGs E ad z) (Mid := modGs E am y) (Rr := []) (Mid' := modGs E am y2) hE M (by rw [List.append_nil]) rfl rfl (fun hgH => va_runV (As := [.int (xs (j + 1)), .int (xs (j + 2))]) (rest := [.int (SpcS.ofFrame z (xs (j + 1)) (xs (j + 2)))]) S (hC2 _) (cwV 2 S.2.2.2.2 gL_law_X9_ofFrame rfl rfl rfl kd_X9_ofFrame ⟨show f2 + 1 ≤ 10 by omega, show 8 + (4 + 11) + n2 ≤ 346 by omega⟩) (hgH.V hE (show vwCl[9]? = some (RX9, TX9, 28) from rfl) rfl) rfl rfl hl.1 rfl (lv_room (Nat.le_of_ble_eq_true rfl)) dL_law_328 ⟨(Nat.le_of_ble_eq_true rfl), (Nat.le_of_ble_eq_true rfl)⟩) (fun H locs M => ?_)
  rw [List.append_nil] at M
  refine lv_icmp_eq (tgt := 656) S.1 S.2.1 dL_law_331 (by decide) (fun _ => ?_) (fun c_ => absurd rfl c_)
  exact kk _ _ hR2 _ _ M
set_option maxHeartbeats 4000000 in
set_option maxRecDepth 100000 in
theorem law_ofSpurt {p : Program} {l : Launch} {e : Env} {s : State} {m : MethodId} {below : List Frame} {meth : Method} {c : Code} {E : xE} {b L : Nat} {xs : Nat → Int32} {ad am : Nat → Nat} (hL : L ≤ 2560) (C0 : lw_At p s m meth c b L xs) (hE : kE E (fun q : Nat => s.heap.size ≤ q) s s.heap) {z : SpcS} {y : MdS} (hR : Rel z y) {j : Nat} (hj : j + 5 ≤ L) {H : Heap} {locs : List Loc} (M : gM E (fun q : Nat => s.heap.size ≤ q) s.heap (spcGs E ad z ++ modGs E am y) H locs) {ls : Array Slot} (hl : lv_has ls 4 [(0, .ref b), (1, .ref (ad 0)), (2, .ref (am 0)), (3, .int (nI j))]) (kk : ∀ (z : SpcS) (y : MdS), Rel z y → ∀ (H : Heap) (locs : List Loc), gM E (fun q : Nat => s.heap.size ≤ q) s.heap (spcGs E ad z ++ modGs E am y) H locs → W p l e room_1 s m #[Value.ref b] below meth c H locs 57 3831 (lw_Z below #[Value.ref b] s) (F0 m 656 ls [])) : W p l e room_1 s m #[Value.ref b] below meth c H locs 57 3831 (lw_Z below #[Value.ref b] s) (F0 m 336 ls []) := by
  obtain ⟨hx, hb, hr, hml, hown, hts0, hX, hbl, hlocks, hgv⟩ := C0
  have hts : ∀ w ∈ wsL_law, w.before #[Value.ref b] s = true := fun w h => hts0 w (wsL_law_in w h)
  have S : CallFix p m c cL_law 4 s #[Value.ref b] wsL_law RL := ⟨hx, hb, hml, hown, hts⟩
  have hbA : ¬ (fun q : Nat => s.heap.size ≤ q) b := Nat.not_le.mpr hbl
  have hA := hR.a_ct
  have hS := hR.s_ct
  refine lv_aload_n S.1 S.2.1 dL_law_336 rfl (lv_at hl 1 rfl) ?_
  refine lv_aload_n S.1 S.2.1 dL_law_337 rfl (lv_at hl 0 rfl) ?_
  refine lv_iload_n S.1 S.2.1 dL_law_338 rfl (lv_at hl 3 rfl) ?_
  refine lv_iconst (v := nI 1) S.1 S.2.1 dL_law_339 (by decide) ?_
  refine lv_iadd S.1 S.2.1 dL_law_340 ?_
  refine gtop (x' := nI (j + 1)) (nI_add j 1) ?_
  refine va_sld S.1 S.2.1 hX hbl hbA M.2.2.1 (vp_in_nI (by omega) (by omega)) dL_law_341 ?_
  refine gtop (x' := xs (j + 1)) (by rw [nI_clamp (by omega)]) ?_
  refine lv_aload_n S.1 S.2.1 dL_law_342 rfl (lv_at hl 0 rfl) ?_
  refine lv_iload_n S.1 S.2.1 dL_law_343 rfl (lv_at hl 3 rfl) ?_
  refine lv_iconst (v := nI 2) S.1 S.2.1 dL_law_344 (by decide) ?_
  refine lv_iadd S.1 S.2.1 dL_law_345 ?_
  refine gtop (x' := nI (j + 2)) (nI_add j 2) ?_
  refine va_sld S.1 S.2.1 hX hbl hbA M.2.2.1 (vp_in_nI (by omega) (by omega)) dL_law_346 ?_
  refine gtop (x' := xs (j + 2)) (by rw [nI_clamp (by omega)]) ?_
  refine gcalli (L := []) (Mid := spcGs E ad z) (Rr := modGs E am y) (Mid' := spcGs E ad z) hE M rfl rfl rfl (fun hgH => va_runV (As := [.int (xs (j + 1)), .int (xs (j + 2))]) (rest := []) S (c_X8_ofSpurt l E ad z (xs (j + 1)) (xs (j + 2)) _) (cwV 2 S.2.2.2.2 gL_law_X8_ofSpurt rfl rfl rfl kd_X8_ofSpurt ⟨(Nat.le_of_ble_eq_true rfl), (Nat.le_of_ble_eq_true rfl)⟩) (hgH.V hE (show vwCl[8]? = some (RX8, TX8, 11) from rfl) rfl) rfl rfl hl.1 rfl (lv_room (Nat.le_of_ble_eq_true rfl)) dL_law_347 ⟨(Nat.le_of_ble_eq_true rfl), (Nat.le_of_ble_eq_true rfl)⟩) (fun H locs M => ?_)
  have M : gM E (fun q : Nat => s.heap.size ≤ q) s.heap (spcGs E ad z ++ modGs E am y) H locs := M
  obtain ⟨y2, f2, n2, hf2, hn2, hC2, hR2⟩ := pk_ofSpurt l E am hR (xs (j + 1)) (xs (j + 2))
  refine lv_aload_n S.1 S.2.1 dL_law_350 rfl (lv_at hl 2 rfl) ?_
  refine lv_aload_n S.1 S.2.1 dL_law_351 rfl (lv_at hl 0 rfl) ?_
  refine lv_iload_n S.1 S.2.1 dL_law_352 rfl (lv_at hl 3 rfl) ?_
  refine lv_iconst (v := nI 1) S.1 S.2.1 dL_law_353 (by decide) ?_
  refine lv_iadd S.1 S.2.1 dL_law_354 ?_
  refine gtop (x' := nI (j + 1)) (nI_add j 1) ?_
  refine va_sld S.1 S.2.1 hX hbl hbA M.2.2.1 (vp_in_nI (by omega) (by omega)) dL_law_355 ?_
  refine gtop (x' := xs (j + 1)) (by rw [nI_clamp (by omega)]) ?_
  refine lv_aload_n S.1 S.2.1 dL_law_356 rfl (lv_at hl 0 rfl) ?_
  refine lv_iload_n S.1 S.2.1 dL_law_357 rfl (lv_at hl 3 rfl) ?_
  refine lv_iconst (v := nI 2) S.1 S.2.1 dL_law_358 (by decide) ?_
  refine lv_iadd S.1 S.2.1 dL_law_359 ?_
  refine gtop (x' := nI (j + 2)) (nI_add j 2) ?_
  refine va_sld S.1 S.2.1 hX hbl hbA M.2.2.1 (vp_in_nI (by omega) (by omega)) dL_law_360 ?_
  refine gtop (x' := xs (j + 2)) (by rw [nI_clamp (by omega)]) ?_
  refine gcalli (r := (SpcS.ofSpurt z (xs (j + 1)) (xs (j + 2)))) (L := spcGs E ad z) (Mid := modGs E am y) (Rr := []) (Mid' := modGs E am y2) hE M (by rw [List.append_nil]) rfl rfl (fun hgH => va_runV (As := [.int (xs (j + 1)), .int (xs (j + 2))]) (rest := [.int (SpcS.ofSpurt z (xs (j + 1)) (xs (j + 2)))]) S (hC2 _) (cwV 2 S.2.2.2.2 gL_law_X9_ofSpurt rfl rfl rfl kd_X9_ofSpurt ⟨show f2 + 1 ≤ 10 by omega, show 8 + (3 + 11) + n2 ≤ 346 by omega⟩) (hgH.V hE (show vwCl[9]? = some (RX9, TX9, 28) from rfl) rfl) rfl rfl hl.1 rfl (lv_room (Nat.le_of_ble_eq_true rfl)) dL_law_361 ⟨(Nat.le_of_ble_eq_true rfl), (Nat.le_of_ble_eq_true rfl)⟩) (fun H locs M => ?_)
  rw [List.append_nil] at M
  refine lv_icmp_eq (tgt := 656) S.1 S.2.1 dL_law_364 (by decide) (fun _ => ?_) (fun c_ => absurd rfl c_)
  exact kk _ _ hR2 _ _ M
set_option maxHeartbeats 4000000 in
set_option maxRecDepth 100000 in
theorem law_inOrder {p : Program} {l : Launch} {e : Env} {s : State} {m : MethodId} {below : List Frame} {meth : Method} {c : Code} {E : xE} {b L : Nat} {xs : Nat → Int32} {ad am : Nat → Nat} (hL : L ≤ 2560) (C0 : lw_At p s m meth c b L xs) (hE : kE E (fun q : Nat => s.heap.size ≤ q) s s.heap) {z : SpcS} {y : MdS} (hR : Rel z y) {j : Nat} (hj : j + 5 ≤ L) {H : Heap} {locs : List Loc} (M : gM E (fun q : Nat => s.heap.size ≤ q) s.heap (spcGs E ad z ++ modGs E am y) H locs) {ls : Array Slot} (hl : lv_has ls 4 [(0, .ref b), (1, .ref (ad 0)), (2, .ref (am 0)), (3, .int (nI j))]) (kk : ∀ (z : SpcS) (y : MdS), Rel z y → ∀ (H : Heap) (locs : List Loc), gM E (fun q : Nat => s.heap.size ≤ q) s.heap (spcGs E ad z ++ modGs E am y) H locs → W p l e room_1 s m #[Value.ref b] below meth c H locs 57 3831 (lw_Z below #[Value.ref b] s) (F0 m 656 ls [])) : W p l e room_1 s m #[Value.ref b] below meth c H locs 57 3831 (lw_Z below #[Value.ref b] s) (F0 m 369 ls []) := by
  obtain ⟨hx, hb, hr, hml, hown, hts0, hX, hbl, hlocks, hgv⟩ := C0
  have hts : ∀ w ∈ wsL_law, w.before #[Value.ref b] s = true := fun w h => hts0 w (wsL_law_in w h)
  have S : CallFix p m c cL_law 4 s #[Value.ref b] wsL_law RL := ⟨hx, hb, hml, hown, hts⟩
  have hbA : ¬ (fun q : Nat => s.heap.size ≤ q) b := Nat.not_le.mpr hbl
  have hA := hR.a_ct
  have hS := hR.s_ct
  refine lv_aload_n S.1 S.2.1 dL_law_369 rfl (lv_at hl 1 rfl) ?_
  refine lv_aload_n S.1 S.2.1 dL_law_370 rfl (lv_at hl 0 rfl) ?_
  refine lv_iload_n S.1 S.2.1 dL_law_371 rfl (lv_at hl 3 rfl) ?_
  refine lv_iconst (v := nI 1) S.1 S.2.1 dL_law_372 (by decide) ?_
  refine lv_iadd S.1 S.2.1 dL_law_373 ?_
  refine gtop (x' := nI (j + 1)) (nI_add j 1) ?_
  refine va_sld S.1 S.2.1 hX hbl hbA M.2.2.1 (vp_in_nI (by omega) (by omega)) dL_law_374 ?_
  refine gtop (x' := xs (j + 1)) (by rw [nI_clamp (by omega)]) ?_
  refine gcalli (L := []) (Mid := spcGs E ad z) (Rr := modGs E am y) (Mid' := spcGs E ad z) hE M rfl rfl rfl (fun hgH => va_runV (As := [.int (xs (j + 1))]) (rest := []) S (c_X8_inOrder l E ad z (xs (j + 1)) _) (cwV 1 S.2.2.2.2 gL_law_X8_inOrder rfl rfl rfl kd_X8_inOrder ⟨(Nat.le_of_ble_eq_true rfl), (Nat.le_of_ble_eq_true rfl)⟩) (hgH.V hE (show vwCl[8]? = some (RX8, TX8, 11) from rfl) rfl) rfl rfl hl.1 rfl (lv_room (Nat.le_of_ble_eq_true rfl)) dL_law_375 ⟨(Nat.le_of_ble_eq_true rfl), (Nat.le_of_ble_eq_true rfl)⟩) (fun H locs M => ?_)
  have M : gM E (fun q : Nat => s.heap.size ≤ q) s.heap (spcGs E ad z ++ modGs E am y) H locs := M
  obtain ⟨y2, f2, n2, hf2, hn2, hC2, hR2⟩ := pk_inOrder l E am hR (xs (j + 1))
  refine lv_aload_n S.1 S.2.1 dL_law_378 rfl (lv_at hl 2 rfl) ?_
  refine lv_aload_n S.1 S.2.1 dL_law_379 rfl (lv_at hl 0 rfl) ?_
  refine lv_iload_n S.1 S.2.1 dL_law_380 rfl (lv_at hl 3 rfl) ?_
  refine lv_iconst (v := nI 1) S.1 S.2.1 dL_law_381 (by decide) ?_
  refine lv_iadd S.1 S.2.1 dL_law_382 ?_
  refine gtop (x' := nI (j + 1)) (nI_add j 1) ?_
  refine va_sld S.1 S.2.1 hX hbl hbA M.2.2.1 (vp_in_nI (by omega) (by omega)) dL_law_383 ?_
  refine gtop (x' := xs (j + 1)) (by rw [nI_clamp (by omega)]) ?_
  refine gcalli (r := (SpcS.inOrder z (xs (j + 1)))) (L := spcGs E ad z) (Mid := modGs E am y) (Rr := []) (Mid' := modGs E am y2) hE M (by rw [List.append_nil]) rfl rfl (fun hgH => va_runV (As := [.int (xs (j + 1))]) (rest := [.int (SpcS.inOrder z (xs (j + 1)))]) S (hC2 _) (cwV 1 S.2.2.2.2 gL_law_X9_inOrder rfl rfl rfl kd_X9_inOrder ⟨show f2 + 1 ≤ 10 by omega, show 8 + (5 + 11) + n2 ≤ 346 by omega⟩) (hgH.V hE (show vwCl[9]? = some (RX9, TX9, 28) from rfl) rfl) rfl rfl hl.1 rfl (lv_room (Nat.le_of_ble_eq_true rfl)) dL_law_384 ⟨(Nat.le_of_ble_eq_true rfl), (Nat.le_of_ble_eq_true rfl)⟩) (fun H locs M => ?_)
  rw [List.append_nil] at M
  refine lv_icmp_eq (tgt := 656) S.1 S.2.1 dL_law_387 (by decide) (fun _ => ?_) (fun c_ => absurd rfl c_)
  exact kk _ _ hR2 _ _ M
set_option maxHeartbeats 4000000 in
set_option maxRecDepth 100000 in
theorem law_wish {p : Program} {l : Launch} {e : Env} {s : State} {m : MethodId} {below : List Frame} {meth : Method} {c : Code} {E : xE} {b L : Nat} {xs : Nat → Int32} {ad am : Nat → Nat} (hL : L ≤ 2560) (C0 : lw_At p s m meth c b L xs) (hE : kE E (fun q : Nat => s.heap.size ≤ q) s s.heap) {z : SpcS} {y : MdS} (hR : Rel z y) {j : Nat} (hj : j + 5 ≤ L) {H : Heap} {locs : List Loc} (M : gM E (fun q : Nat => s.heap.size ≤ q) s.heap (spcGs E ad z ++ modGs E am y) H locs) {ls : Array Slot} (hl : lv_has ls 4 [(0, .ref b), (1, .ref (ad 0)), (2, .ref (am 0)), (3, .int (nI j))]) (kk : ∀ (z : SpcS) (y : MdS), Rel z y → ∀ (H : Heap) (locs : List Loc), gM E (fun q : Nat => s.heap.size ≤ q) s.heap (spcGs E ad z ++ modGs E am y) H locs → W p l e room_1 s m #[Value.ref b] below meth c H locs 57 3831 (lw_Z below #[Value.ref b] s) (F0 m 656 ls [])) : W p l e room_1 s m #[Value.ref b] below meth c H locs 57 3831 (lw_Z below #[Value.ref b] s) (F0 m 392 ls []) := by
  obtain ⟨hx, hb, hr, hml, hown, hts0, hX, hbl, hlocks, hgv⟩ := C0
  have hts : ∀ w ∈ wsL_law, w.before #[Value.ref b] s = true := fun w h => hts0 w (wsL_law_in w h)
  have S : CallFix p m c cL_law 4 s #[Value.ref b] wsL_law RL := ⟨hx, hb, hml, hown, hts⟩
  have hbA : ¬ (fun q : Nat => s.heap.size ≤ q) b := Nat.not_le.mpr hbl
  have hA := hR.a_ct
  have hS := hR.s_ct
  refine lv_aload_n S.1 S.2.1 dL_law_392 rfl (lv_at hl 1 rfl) ?_
  refine lv_aload_n S.1 S.2.1 dL_law_393 rfl (lv_at hl 0 rfl) ?_
  refine lv_iload_n S.1 S.2.1 dL_law_394 rfl (lv_at hl 3 rfl) ?_
  refine lv_iconst (v := nI 1) S.1 S.2.1 dL_law_395 (by decide) ?_
  refine lv_iadd S.1 S.2.1 dL_law_396 ?_
  refine gtop (x' := nI (j + 1)) (nI_add j 1) ?_
  refine va_sld S.1 S.2.1 hX hbl hbA M.2.2.1 (vp_in_nI (by omega) (by omega)) dL_law_397 ?_
  refine gtop (x' := xs (j + 1)) (by rw [nI_clamp (by omega)]) ?_
  refine gcalli (L := []) (Mid := spcGs E ad z) (Rr := modGs E am y) (Mid' := spcGs E ad (SpcS.wish z (xs (j + 1))).2) hE M rfl rfl rfl (fun hgH => va_runV (As := [.int (xs (j + 1))]) (rest := []) S (c_X8_wish l E ad z (xs (j + 1)) hA _) (cwV 1 S.2.2.2.2 gL_law_X8_wish rfl rfl rfl kd_X8_wish ⟨(Nat.le_of_ble_eq_true rfl), (Nat.le_of_ble_eq_true rfl)⟩) (hgH.V hE (show vwCl[8]? = some (RX8, TX8, 11) from rfl) rfl) rfl rfl hl.1 rfl (lv_room (Nat.le_of_ble_eq_true rfl)) dL_law_398 ⟨(Nat.le_of_ble_eq_true rfl), (Nat.le_of_ble_eq_true rfl)⟩) (fun H locs M => ?_)
  have M : gM E (fun q : Nat => s.heap.size ≤ q) s.heap (spcGs E ad (SpcS.wish z (xs (j + 1))).2 ++ modGs E am y) H locs := M
  obtain ⟨y2, f2, n2, hf2, hn2, hC2, hR2⟩ := pk_wish l E am hR (xs (j + 1))
  refine lv_aload_n S.1 S.2.1 dL_law_401 rfl (lv_at hl 2 rfl) ?_
  refine lv_aload_n S.1 S.2.1 dL_law_402 rfl (lv_at hl 0 rfl) ?_
  refine lv_iload_n S.1 S.2.1 dL_law_403 rfl (lv_at hl 3 rfl) ?_
  refine lv_iconst (v := nI 1) S.1 S.2.1 dL_law_404 (by decide) ?_
  refine lv_iadd S.1 S.2.1 dL_law_405 ?_
  refine gtop (x' := nI (j + 1)) (nI_add j 1) ?_
  refine va_sld S.1 S.2.1 hX hbl hbA M.2.2.1 (vp_in_nI (by omega) (by omega)) dL_law_406 ?_
  refine gtop (x' := xs (j + 1)) (by rw [nI_clamp (by omega)]) ?_
  refine gcalli (r := (SpcS.wish z (xs (j + 1))).1) (L := spcGs E ad (SpcS.wish z (xs (j + 1))).2) (Mid := modGs E am y) (Rr := []) (Mid' := modGs E am y2) hE M (by rw [List.append_nil]) rfl rfl (fun hgH => va_runV (As := [.int (xs (j + 1))]) (rest := [.int (SpcS.wish z (xs (j + 1))).1]) S (hC2 _) (cwV 1 S.2.2.2.2 gL_law_X9_wish rfl rfl rfl kd_X9_wish ⟨show f2 + 1 ≤ 10 by omega, show 8 + (2 + 11) + n2 ≤ 346 by omega⟩) (hgH.V hE (show vwCl[9]? = some (RX9, TX9, 28) from rfl) rfl) rfl rfl hl.1 rfl (lv_room (Nat.le_of_ble_eq_true rfl)) dL_law_407 ⟨(Nat.le_of_ble_eq_true rfl), (Nat.le_of_ble_eq_true rfl)⟩) (fun H locs M => ?_)
  rw [List.append_nil] at M
  refine lv_icmp_eq (tgt := 656) S.1 S.2.1 dL_law_410 (by decide) (fun _ => ?_) (fun c_ => absurd rfl c_)
  exact kk _ _ hR2 _ _ M
set_option maxHeartbeats 4000000 in
set_option maxRecDepth 100000 in
theorem law_spike {p : Program} {l : Launch} {e : Env} {s : State} {m : MethodId} {below : List Frame} {meth : Method} {c : Code} {E : xE} {b L : Nat} {xs : Nat → Int32} {ad am : Nat → Nat} (hL : L ≤ 2560) (C0 : lw_At p s m meth c b L xs) (hE : kE E (fun q : Nat => s.heap.size ≤ q) s s.heap) {z : SpcS} {y : MdS} (hR : Rel z y) {j : Nat} (hj : j + 5 ≤ L) {H : Heap} {locs : List Loc} (M : gM E (fun q : Nat => s.heap.size ≤ q) s.heap (spcGs E ad z ++ modGs E am y) H locs) {ls : Array Slot} (hl : lv_has ls 4 [(0, .ref b), (1, .ref (ad 0)), (2, .ref (am 0)), (3, .int (nI j))]) (kk : ∀ (z : SpcS) (y : MdS), Rel z y → ∀ (H : Heap) (locs : List Loc), gM E (fun q : Nat => s.heap.size ≤ q) s.heap (spcGs E ad z ++ modGs E am y) H locs → W p l e room_1 s m #[Value.ref b] below meth c H locs 57 3831 (lw_Z below #[Value.ref b] s) (F0 m 656 ls [])) : W p l e room_1 s m #[Value.ref b] below meth c H locs 57 3831 (lw_Z below #[Value.ref b] s) (F0 m 415 ls []) := by
  obtain ⟨hx, hb, hr, hml, hown, hts0, hX, hbl, hlocks, hgv⟩ := C0
  have hts : ∀ w ∈ wsL_law, w.before #[Value.ref b] s = true := fun w h => hts0 w (wsL_law_in w h)
  have S : CallFix p m c cL_law 4 s #[Value.ref b] wsL_law RL := ⟨hx, hb, hml, hown, hts⟩
  have hbA : ¬ (fun q : Nat => s.heap.size ≤ q) b := Nat.not_le.mpr hbl
  have hA := hR.a_ct
  have hS := hR.s_ct
  refine lv_aload_n S.1 S.2.1 dL_law_415 rfl (lv_at hl 1 rfl) ?_
  refine lv_aload_n S.1 S.2.1 dL_law_416 rfl (lv_at hl 0 rfl) ?_
  refine lv_iload_n S.1 S.2.1 dL_law_417 rfl (lv_at hl 3 rfl) ?_
  refine lv_iconst (v := nI 1) S.1 S.2.1 dL_law_418 (by decide) ?_
  refine lv_iadd S.1 S.2.1 dL_law_419 ?_
  refine gtop (x' := nI (j + 1)) (nI_add j 1) ?_
  refine va_sld S.1 S.2.1 hX hbl hbA M.2.2.1 (vp_in_nI (by omega) (by omega)) dL_law_420 ?_
  refine gtop (x' := xs (j + 1)) (by rw [nI_clamp (by omega)]) ?_
  refine gcalli (L := []) (Mid := spcGs E ad z) (Rr := modGs E am y) (Mid' := spcGs E ad z) hE M rfl rfl rfl (fun hgH => va_runV (As := [.int (xs (j + 1))]) (rest := []) S (c_X8_spike l E ad z (xs (j + 1)) _) (cwV 1 S.2.2.2.2 gL_law_X8_spike rfl rfl rfl kd_X8_spike ⟨(Nat.le_of_ble_eq_true rfl), (Nat.le_of_ble_eq_true rfl)⟩) (hgH.V hE (show vwCl[8]? = some (RX8, TX8, 11) from rfl) rfl) rfl rfl hl.1 rfl (lv_room (Nat.le_of_ble_eq_true rfl)) dL_law_421 ⟨(Nat.le_of_ble_eq_true rfl), (Nat.le_of_ble_eq_true rfl)⟩) (fun H locs M => ?_)
  have M : gM E (fun q : Nat => s.heap.size ≤ q) s.heap (spcGs E ad z ++ modGs E am y) H locs := M
  obtain ⟨y2, f2, n2, hf2, hn2, hC2, hR2⟩ := pk_spike l E am hR (xs (j + 1))
  refine lv_aload_n S.1 S.2.1 dL_law_424 rfl (lv_at hl 2 rfl) ?_
  refine lv_aload_n S.1 S.2.1 dL_law_425 rfl (lv_at hl 0 rfl) ?_
  refine lv_iload_n S.1 S.2.1 dL_law_426 rfl (lv_at hl 3 rfl) ?_
  refine lv_iconst (v := nI 1) S.1 S.2.1 dL_law_427 (by decide) ?_
  refine lv_iadd S.1 S.2.1 dL_law_428 ?_
  refine gtop (x' := nI (j + 1)) (nI_add j 1) ?_
  refine va_sld S.1 S.2.1 hX hbl hbA M.2.2.1 (vp_in_nI (by omega) (by omega)) dL_law_429 ?_
  refine gtop (x' := xs (j + 1)) (by rw [nI_clamp (by omega)]) ?_
  refine gcalli (r := (SpcS.spike z (xs (j + 1)))) (L := spcGs E ad z) (Mid := modGs E am y) (Rr := []) (Mid' := modGs E am y2) hE M (by rw [List.append_nil]) rfl rfl (fun hgH => va_runV (As := [.int (xs (j + 1))]) (rest := [.int (SpcS.spike z (xs (j + 1)))]) S (hC2 _) (cwV 1 S.2.2.2.2 gL_law_X9_spike rfl rfl rfl kd_X9_spike ⟨show f2 + 1 ≤ 10 by omega, show 8 + (2 + 11) + n2 ≤ 346 by omega⟩) (hgH.V hE (show vwCl[9]? = some (RX9, TX9, 28) from rfl) rfl) rfl rfl hl.1 rfl (lv_room (Nat.le_of_ble_eq_true rfl)) dL_law_430 ⟨(Nat.le_of_ble_eq_true rfl), (Nat.le_of_ble_eq_true rfl)⟩) (fun H locs M => ?_)
  rw [List.append_nil] at M
  refine lv_icmp_eq (tgt := 656) S.1 S.2.1 dL_law_433 (by decide) (fun _ => ?_) (fun c_ => absurd rfl c_)
  exact kk _ _ hR2 _ _ M
set_option maxHeartbeats 4000000 in
set_option maxRecDepth 100000 in
theorem law_late {p : Program} {l : Launch} {e : Env} {s : State} {m : MethodId} {below : List Frame} {meth : Method} {c : Code} {E : xE} {b L : Nat} {xs : Nat → Int32} {ad am : Nat → Nat} (hL : L ≤ 2560) (C0 : lw_At p s m meth c b L xs) (hE : kE E (fun q : Nat => s.heap.size ≤ q) s s.heap) {z : SpcS} {y : MdS} (hR : Rel z y) {j : Nat} (hj : j + 5 ≤ L) {H : Heap} {locs : List Loc} (M : gM E (fun q : Nat => s.heap.size ≤ q) s.heap (spcGs E ad z ++ modGs E am y) H locs) {ls : Array Slot} (hl : lv_has ls 4 [(0, .ref b), (1, .ref (ad 0)), (2, .ref (am 0)), (3, .int (nI j))]) (kk : ∀ (z : SpcS) (y : MdS), Rel z y → ∀ (H : Heap) (locs : List Loc), gM E (fun q : Nat => s.heap.size ≤ q) s.heap (spcGs E ad z ++ modGs E am y) H locs → W p l e room_1 s m #[Value.ref b] below meth c H locs 57 3831 (lw_Z below #[Value.ref b] s) (F0 m 656 ls [])) : W p l e room_1 s m #[Value.ref b] below meth c H locs 57 3831 (lw_Z below #[Value.ref b] s) (F0 m 438 ls []) := by
  obtain ⟨hx, hb, hr, hml, hown, hts0, hX, hbl, hlocks, hgv⟩ := C0
  have hts : ∀ w ∈ wsL_law, w.before #[Value.ref b] s = true := fun w h => hts0 w (wsL_law_in w h)
  have S : CallFix p m c cL_law 4 s #[Value.ref b] wsL_law RL := ⟨hx, hb, hml, hown, hts⟩
  have hbA : ¬ (fun q : Nat => s.heap.size ≤ q) b := Nat.not_le.mpr hbl
  have hA := hR.a_ct
  have hS := hR.s_ct
  refine lv_aload_n S.1 S.2.1 dL_law_438 rfl (lv_at hl 1 rfl) ?_
  refine lv_aload_n S.1 S.2.1 dL_law_439 rfl (lv_at hl 0 rfl) ?_
  refine lv_iload_n S.1 S.2.1 dL_law_440 rfl (lv_at hl 3 rfl) ?_
  refine lv_iconst (v := nI 1) S.1 S.2.1 dL_law_441 (by decide) ?_
  refine lv_iadd S.1 S.2.1 dL_law_442 ?_
  refine gtop (x' := nI (j + 1)) (nI_add j 1) ?_
  refine va_sld S.1 S.2.1 hX hbl hbA M.2.2.1 (vp_in_nI (by omega) (by omega)) dL_law_443 ?_
  refine gtop (x' := xs (j + 1)) (by rw [nI_clamp (by omega)]) ?_
  refine gcalli (L := []) (Mid := spcGs E ad z) (Rr := modGs E am y) (Mid' := spcGs E ad z) hE M rfl rfl rfl (fun hgH => va_runV (As := [.int (xs (j + 1))]) (rest := []) S (c_X8_late l E ad z (xs (j + 1)) hA _) (cwV 1 S.2.2.2.2 gL_law_X8_late rfl rfl rfl kd_X8_late ⟨(Nat.le_of_ble_eq_true rfl), (Nat.le_of_ble_eq_true rfl)⟩) (hgH.V hE (show vwCl[8]? = some (RX8, TX8, 11) from rfl) rfl) rfl rfl hl.1 rfl (lv_room (Nat.le_of_ble_eq_true rfl)) dL_law_444 ⟨(Nat.le_of_ble_eq_true rfl), (Nat.le_of_ble_eq_true rfl)⟩) (fun H locs M => ?_)
  have M : gM E (fun q : Nat => s.heap.size ≤ q) s.heap (spcGs E ad z ++ modGs E am y) H locs := M
  obtain ⟨y2, f2, n2, hf2, hn2, hC2, hR2⟩ := pk_late l E am hR (xs (j + 1))
  refine lv_aload_n S.1 S.2.1 dL_law_447 rfl (lv_at hl 2 rfl) ?_
  refine lv_aload_n S.1 S.2.1 dL_law_448 rfl (lv_at hl 0 rfl) ?_
  refine lv_iload_n S.1 S.2.1 dL_law_449 rfl (lv_at hl 3 rfl) ?_
  refine lv_iconst (v := nI 1) S.1 S.2.1 dL_law_450 (by decide) ?_
  refine lv_iadd S.1 S.2.1 dL_law_451 ?_
  refine gtop (x' := nI (j + 1)) (nI_add j 1) ?_
  refine va_sld S.1 S.2.1 hX hbl hbA M.2.2.1 (vp_in_nI (by omega) (by omega)) dL_law_452 ?_
  refine gtop (x' := xs (j + 1)) (by rw [nI_clamp (by omega)]) ?_
  refine gcalli (r := (SpcS.late z (xs (j + 1)))) (L := spcGs E ad z) (Mid := modGs E am y) (Rr := []) (Mid' := modGs E am y2) hE M (by rw [List.append_nil]) rfl rfl (fun hgH => va_runV (As := [.int (xs (j + 1))]) (rest := [.int (SpcS.late z (xs (j + 1)))]) S (hC2 _) (cwV 1 S.2.2.2.2 gL_law_X9_late rfl rfl rfl kd_X9_late ⟨show f2 + 1 ≤ 10 by omega, show 8 + (4 + 11) + n2 ≤ 346 by omega⟩) (hgH.V hE (show vwCl[9]? = some (RX9, TX9, 28) from rfl) rfl) rfl rfl hl.1 rfl (lv_room (Nat.le_of_ble_eq_true rfl)) dL_law_453 ⟨(Nat.le_of_ble_eq_true rfl), (Nat.le_of_ble_eq_true rfl)⟩) (fun H locs M => ?_)
  rw [List.append_nil] at M
  refine lv_icmp_eq (tgt := 656) S.1 S.2.1 dL_law_456 (by decide) (fun _ => ?_) (fun c_ => absurd rfl c_)
  exact kk _ _ hR2 _ _ M
set_option maxHeartbeats 4000000 in
set_option maxRecDepth 100000 in
theorem law_history {p : Program} {l : Launch} {e : Env} {s : State} {m : MethodId} {below : List Frame} {meth : Method} {c : Code} {E : xE} {b L : Nat} {xs : Nat → Int32} {ad am : Nat → Nat} (hL : L ≤ 2560) (C0 : lw_At p s m meth c b L xs) (hE : kE E (fun q : Nat => s.heap.size ≤ q) s s.heap) {z : SpcS} {y : MdS} (hR : Rel z y) {j : Nat} (hj : j + 5 ≤ L) {H : Heap} {locs : List Loc} (M : gM E (fun q : Nat => s.heap.size ≤ q) s.heap (spcGs E ad z ++ modGs E am y) H locs) {ls : Array Slot} (hl : lv_has ls 4 [(0, .ref b), (1, .ref (ad 0)), (2, .ref (am 0)), (3, .int (nI j))]) (kk : ∀ (z : SpcS) (y : MdS), Rel z y → ∀ (H : Heap) (locs : List Loc), gM E (fun q : Nat => s.heap.size ≤ q) s.heap (spcGs E ad z ++ modGs E am y) H locs → W p l e room_1 s m #[Value.ref b] below meth c H locs 57 3831 (lw_Z below #[Value.ref b] s) (F0 m 656 ls [])) : W p l e room_1 s m #[Value.ref b] below meth c H locs 57 3831 (lw_Z below #[Value.ref b] s) (F0 m 461 ls []) := by
  obtain ⟨hx, hb, hr, hml, hown, hts0, hX, hbl, hlocks, hgv⟩ := C0
  have hts : ∀ w ∈ wsL_law, w.before #[Value.ref b] s = true := fun w h => hts0 w (wsL_law_in w h)
  have S : CallFix p m c cL_law 4 s #[Value.ref b] wsL_law RL := ⟨hx, hb, hml, hown, hts⟩
  have hbA : ¬ (fun q : Nat => s.heap.size ≤ q) b := Nat.not_le.mpr hbl
  have hA := hR.a_ct
  have hS := hR.s_ct
  refine lv_aload_n S.1 S.2.1 dL_law_461 rfl (lv_at hl 1 rfl) ?_
  refine lv_aload_n S.1 S.2.1 dL_law_462 rfl (lv_at hl 0 rfl) ?_
  refine lv_iload_n S.1 S.2.1 dL_law_463 rfl (lv_at hl 3 rfl) ?_
  refine lv_iconst (v := nI 1) S.1 S.2.1 dL_law_464 (by decide) ?_
  refine lv_iadd S.1 S.2.1 dL_law_465 ?_
  refine gtop (x' := nI (j + 1)) (nI_add j 1) ?_
  refine va_sld S.1 S.2.1 hX hbl hbA M.2.2.1 (vp_in_nI (by omega) (by omega)) dL_law_466 ?_
  refine gtop (x' := xs (j + 1)) (by rw [nI_clamp (by omega)]) ?_
  refine gcalli (L := []) (Mid := spcGs E ad z) (Rr := modGs E am y) (Mid' := spcGs E ad z) hE M rfl rfl rfl (fun hgH => va_runV (As := [.int (xs (j + 1))]) (rest := []) S (c_X8_history l E ad z (xs (j + 1)) hA _) (cwV 1 S.2.2.2.2 gL_law_X8_history rfl rfl rfl kd_X8_history ⟨(Nat.le_of_ble_eq_true rfl), (Nat.le_of_ble_eq_true rfl)⟩) (hgH.V hE (show vwCl[8]? = some (RX8, TX8, 11) from rfl) rfl) rfl rfl hl.1 rfl (lv_room (Nat.le_of_ble_eq_true rfl)) dL_law_467 ⟨(Nat.le_of_ble_eq_true rfl), (Nat.le_of_ble_eq_true rfl)⟩) (fun H locs M => ?_)
  have M : gM E (fun q : Nat => s.heap.size ≤ q) s.heap (spcGs E ad z ++ modGs E am y) H locs := M
  obtain ⟨y2, f2, n2, hf2, hn2, hC2, hR2⟩ := pk_history l E am hR (xs (j + 1))
  refine lv_aload_n S.1 S.2.1 dL_law_470 rfl (lv_at hl 2 rfl) ?_
  refine lv_aload_n S.1 S.2.1 dL_law_471 rfl (lv_at hl 0 rfl) ?_
  refine lv_iload_n S.1 S.2.1 dL_law_472 rfl (lv_at hl 3 rfl) ?_
  refine lv_iconst (v := nI 1) S.1 S.2.1 dL_law_473 (by decide) ?_
  refine lv_iadd S.1 S.2.1 dL_law_474 ?_
  refine gtop (x' := nI (j + 1)) (nI_add j 1) ?_
  refine va_sld S.1 S.2.1 hX hbl hbA M.2.2.1 (vp_in_nI (by omega) (by omega)) dL_law_475 ?_
  refine gtop (x' := xs (j + 1)) (by rw [nI_clamp (by omega)]) ?_
  refine gcalli (r := (SpcS.history z (xs (j + 1)))) (L := spcGs E ad z) (Mid := modGs E am y) (Rr := []) (Mid' := modGs E am y2) hE M (by rw [List.append_nil]) rfl rfl (fun hgH => va_runV (As := [.int (xs (j + 1))]) (rest := [.int (SpcS.history z (xs (j + 1)))]) S (hC2 _) (cwV 1 S.2.2.2.2 gL_law_X9_history rfl rfl rfl kd_X9_history ⟨show f2 + 1 ≤ 10 by omega, show 8 + (2 + 11) + n2 ≤ 346 by omega⟩) (hgH.V hE (show vwCl[9]? = some (RX9, TX9, 28) from rfl) rfl) rfl rfl hl.1 rfl (lv_room (Nat.le_of_ble_eq_true rfl)) dL_law_476 ⟨(Nat.le_of_ble_eq_true rfl), (Nat.le_of_ble_eq_true rfl)⟩) (fun H locs M => ?_)
  rw [List.append_nil] at M
  refine lv_icmp_eq (tgt := 656) S.1 S.2.1 dL_law_479 (by decide) (fun _ => ?_) (fun c_ => absurd rfl c_)
  exact kk _ _ hR2 _ _ M
set_option maxHeartbeats 4000000 in
set_option maxRecDepth 100000 in
theorem law_loss {p : Program} {l : Launch} {e : Env} {s : State} {m : MethodId} {below : List Frame} {meth : Method} {c : Code} {E : xE} {b L : Nat} {xs : Nat → Int32} {ad am : Nat → Nat} (hL : L ≤ 2560) (C0 : lw_At p s m meth c b L xs) (hE : kE E (fun q : Nat => s.heap.size ≤ q) s s.heap) {z : SpcS} {y : MdS} (hR : Rel z y) {j : Nat} (hj : j + 5 ≤ L) {H : Heap} {locs : List Loc} (M : gM E (fun q : Nat => s.heap.size ≤ q) s.heap (spcGs E ad z ++ modGs E am y) H locs) {ls : Array Slot} (hl : lv_has ls 4 [(0, .ref b), (1, .ref (ad 0)), (2, .ref (am 0)), (3, .int (nI j))]) (kk : ∀ (z : SpcS) (y : MdS), Rel z y → ∀ (H : Heap) (locs : List Loc), gM E (fun q : Nat => s.heap.size ≤ q) s.heap (spcGs E ad z ++ modGs E am y) H locs → W p l e room_1 s m #[Value.ref b] below meth c H locs 57 3831 (lw_Z below #[Value.ref b] s) (F0 m 656 ls [])) : W p l e room_1 s m #[Value.ref b] below meth c H locs 57 3831 (lw_Z below #[Value.ref b] s) (F0 m 484 ls []) := by
  obtain ⟨hx, hb, hr, hml, hown, hts0, hX, hbl, hlocks, hgv⟩ := C0
  have hts : ∀ w ∈ wsL_law, w.before #[Value.ref b] s = true := fun w h => hts0 w (wsL_law_in w h)
  have S : CallFix p m c cL_law 4 s #[Value.ref b] wsL_law RL := ⟨hx, hb, hml, hown, hts⟩
  have hbA : ¬ (fun q : Nat => s.heap.size ≤ q) b := Nat.not_le.mpr hbl
  have hA := hR.a_ct
  have hS := hR.s_ct
  refine lv_aload_n S.1 S.2.1 dL_law_484 rfl (lv_at hl 1 rfl) ?_
  refine lv_aload_n S.1 S.2.1 dL_law_485 rfl (lv_at hl 0 rfl) ?_
  refine lv_iload_n S.1 S.2.1 dL_law_486 rfl (lv_at hl 3 rfl) ?_
  refine lv_iconst (v := nI 1) S.1 S.2.1 dL_law_487 (by decide) ?_
  refine lv_iadd S.1 S.2.1 dL_law_488 ?_
  refine gtop (x' := nI (j + 1)) (nI_add j 1) ?_
  refine va_sld S.1 S.2.1 hX hbl hbA M.2.2.1 (vp_in_nI (by omega) (by omega)) dL_law_489 ?_
  refine gtop (x' := xs (j + 1)) (by rw [nI_clamp (by omega)]) ?_
  refine gcalli (L := []) (Mid := spcGs E ad z) (Rr := modGs E am y) (Mid' := spcGs E ad z) hE M rfl rfl rfl (fun hgH => va_runV (As := [.int (xs (j + 1))]) (rest := []) S (c_X8_loss l E ad z (xs (j + 1)) hA _) (cwV 1 S.2.2.2.2 gL_law_X8_loss rfl rfl rfl kd_X8_loss ⟨(Nat.le_of_ble_eq_true rfl), (Nat.le_of_ble_eq_true rfl)⟩) (hgH.V hE (show vwCl[8]? = some (RX8, TX8, 11) from rfl) rfl) rfl rfl hl.1 rfl (lv_room (Nat.le_of_ble_eq_true rfl)) dL_law_490 ⟨(Nat.le_of_ble_eq_true rfl), (Nat.le_of_ble_eq_true rfl)⟩) (fun H locs M => ?_)
  have M : gM E (fun q : Nat => s.heap.size ≤ q) s.heap (spcGs E ad z ++ modGs E am y) H locs := M
  obtain ⟨y2, f2, n2, hf2, hn2, hC2, hR2⟩ := pk_loss l E am hR (xs (j + 1))
  refine lv_aload_n S.1 S.2.1 dL_law_493 rfl (lv_at hl 2 rfl) ?_
  refine lv_aload_n S.1 S.2.1 dL_law_494 rfl (lv_at hl 0 rfl) ?_
  refine lv_iload_n S.1 S.2.1 dL_law_495 rfl (lv_at hl 3 rfl) ?_
  refine lv_iconst (v := nI 1) S.1 S.2.1 dL_law_496 (by decide) ?_
  refine lv_iadd S.1 S.2.1 dL_law_497 ?_
  refine gtop (x' := nI (j + 1)) (nI_add j 1) ?_
  refine va_sld S.1 S.2.1 hX hbl hbA M.2.2.1 (vp_in_nI (by omega) (by omega)) dL_law_498 ?_
  refine gtop (x' := xs (j + 1)) (by rw [nI_clamp (by omega)]) ?_
  refine gcalli (r := (SpcS.loss z (xs (j + 1)))) (L := spcGs E ad z) (Mid := modGs E am y) (Rr := []) (Mid' := modGs E am y2) hE M (by rw [List.append_nil]) rfl rfl (fun hgH => va_runV (As := [.int (xs (j + 1))]) (rest := [.int (SpcS.loss z (xs (j + 1)))]) S (hC2 _) (cwV 1 S.2.2.2.2 gL_law_X9_loss rfl rfl rfl kd_X9_loss ⟨show f2 + 1 ≤ 10 by omega, show 8 + (4 + 11) + n2 ≤ 346 by omega⟩) (hgH.V hE (show vwCl[9]? = some (RX9, TX9, 28) from rfl) rfl) rfl rfl hl.1 rfl (lv_room (Nat.le_of_ble_eq_true rfl)) dL_law_499 ⟨(Nat.le_of_ble_eq_true rfl), (Nat.le_of_ble_eq_true rfl)⟩) (fun H locs M => ?_)
  rw [List.append_nil] at M
  refine lv_icmp_eq (tgt := 656) S.1 S.2.1 dL_law_502 (by decide) (fun _ => ?_) (fun c_ => absurd rfl c_)
  exact kk _ _ hR2 _ _ M
set_option maxHeartbeats 4000000 in
set_option maxRecDepth 100000 in
theorem law_drift {p : Program} {l : Launch} {e : Env} {s : State} {m : MethodId} {below : List Frame} {meth : Method} {c : Code} {E : xE} {b L : Nat} {xs : Nat → Int32} {ad am : Nat → Nat} (hL : L ≤ 2560) (C0 : lw_At p s m meth c b L xs) (hE : kE E (fun q : Nat => s.heap.size ≤ q) s s.heap) {z : SpcS} {y : MdS} (hR : Rel z y) {j : Nat} (hj : j + 5 ≤ L) {H : Heap} {locs : List Loc} (M : gM E (fun q : Nat => s.heap.size ≤ q) s.heap (spcGs E ad z ++ modGs E am y) H locs) {ls : Array Slot} (hl : lv_has ls 4 [(0, .ref b), (1, .ref (ad 0)), (2, .ref (am 0)), (3, .int (nI j))]) (kk : ∀ (z : SpcS) (y : MdS), Rel z y → ∀ (H : Heap) (locs : List Loc), gM E (fun q : Nat => s.heap.size ≤ q) s.heap (spcGs E ad z ++ modGs E am y) H locs → W p l e room_1 s m #[Value.ref b] below meth c H locs 57 3831 (lw_Z below #[Value.ref b] s) (F0 m 656 ls [])) : W p l e room_1 s m #[Value.ref b] below meth c H locs 57 3831 (lw_Z below #[Value.ref b] s) (F0 m 507 ls []) := by
  obtain ⟨hx, hb, hr, hml, hown, hts0, hX, hbl, hlocks, hgv⟩ := C0
  have hts : ∀ w ∈ wsL_law, w.before #[Value.ref b] s = true := fun w h => hts0 w (wsL_law_in w h)
  have S : CallFix p m c cL_law 4 s #[Value.ref b] wsL_law RL := ⟨hx, hb, hml, hown, hts⟩
  have hbA : ¬ (fun q : Nat => s.heap.size ≤ q) b := Nat.not_le.mpr hbl
  have hA := hR.a_ct
  have hS := hR.s_ct
  refine lv_aload_n S.1 S.2.1 dL_law_507 rfl (lv_at hl 1 rfl) ?_
  refine lv_aload_n S.1 S.2.1 dL_law_508 rfl (lv_at hl 0 rfl) ?_
  refine lv_iload_n S.1 S.2.1 dL_law_509 rfl (lv_at hl 3 rfl) ?_
  refine lv_iconst (v := nI 1) S.1 S.2.1 dL_law_510 (by decide) ?_
  refine lv_iadd S.1 S.2.1 dL_law_511 ?_
  refine gtop (x' := nI (j + 1)) (nI_add j 1) ?_
  refine va_sld S.1 S.2.1 hX hbl hbA M.2.2.1 (vp_in_nI (by omega) (by omega)) dL_law_512 ?_
  refine gtop (x' := xs (j + 1)) (by rw [nI_clamp (by omega)]) ?_
  refine gcalll (L := []) (Mid := spcGs E ad z) (Rr := modGs E am y) (Mid' := spcGs E ad z.fitted) hE M rfl rfl rfl (fun hgH => va_runV (As := [.int (xs (j + 1))]) (rest := []) S (c_X8_drift l E ad z (xs (j + 1)) _) (cwV 1 S.2.2.2.2 gL_law_X8_drift rfl rfl rfl kd_X8_drift ⟨(Nat.le_of_ble_eq_true rfl), (Nat.le_of_ble_eq_true rfl)⟩) (hgH.V hE (show vwCl[8]? = some (RX8, TX8, 11) from rfl) rfl) rfl rfl hl.1 rfl (lv_room (Nat.le_of_ble_eq_true rfl)) dL_law_513 ⟨(Nat.le_of_ble_eq_true rfl), (Nat.le_of_ble_eq_true rfl)⟩) (fun H locs M => ?_)
  have M : gM E (fun q : Nat => s.heap.size ≤ q) s.heap (spcGs E ad z.fitted ++ modGs E am y) H locs := M
  obtain ⟨y2, f2, n2, hf2, hn2, hC2, hR2⟩ := pk_drift l E am hR (xs (j + 1))
  refine lv_aload_n S.1 S.2.1 dL_law_516 rfl (lv_at hl 2 rfl) ?_
  refine lv_aload_n S.1 S.2.1 dL_law_517 rfl (lv_at hl 0 rfl) ?_
  refine lv_iload_n S.1 S.2.1 dL_law_518 rfl (lv_at hl 3 rfl) ?_
  refine lv_iconst (v := nI 1) S.1 S.2.1 dL_law_519 (by decide) ?_
  refine lv_iadd S.1 S.2.1 dL_law_520 ?_
  refine gtop (x' := nI (j + 1)) (nI_add j 1) ?_
  refine va_sld S.1 S.2.1 hX hbl hbA M.2.2.1 (vp_in_nI (by omega) (by omega)) dL_law_521 ?_
  refine gtop (x' := xs (j + 1)) (by rw [nI_clamp (by omega)]) ?_
  refine gcalll (r := (SpcS.drift z (xs (j + 1)))) (L := spcGs E ad z.fitted) (Mid := modGs E am y) (Rr := []) (Mid' := modGs E am y2) hE M (by rw [List.append_nil]) rfl rfl (fun hgH => va_runV (As := [.int (xs (j + 1))]) (rest := [.long (SpcS.drift z (xs (j + 1)))]) S (hC2 _) (cwV 1 S.2.2.2.2 gL_law_X9_drift rfl rfl rfl kd_X9_drift ⟨show f2 + 1 ≤ 10 by omega, show 8 + (2 + 11) + n2 ≤ 346 by omega⟩) (hgH.V hE (show vwCl[9]? = some (RX9, TX9, 28) from rfl) rfl) rfl rfl hl.1 rfl (lv_room (Nat.le_of_ble_eq_true rfl)) dL_law_522 ⟨(Nat.le_of_ble_eq_true rfl), (Nat.le_of_ble_eq_true rfl)⟩) (fun H locs M => ?_)
  rw [List.append_nil] at M
  refine W.lcmp S.1 S.2.1 dL_law_525 ?_
  refine lv_if_eq (tgt := 656) S.1 S.2.1 dL_law_526 (by decide) (fun _ => ?_) (fun c_ => absurd ((lg_cmp_eq _ _).mpr rfl) c_)
  exact kk _ _ hR2 _ _ M
set_option maxHeartbeats 4000000 in
set_option maxRecDepth 100000 in
theorem law_waiting {p : Program} {l : Launch} {e : Env} {s : State} {m : MethodId} {below : List Frame} {meth : Method} {c : Code} {E : xE} {b L : Nat} {xs : Nat → Int32} {ad am : Nat → Nat} (hL : L ≤ 2560) (C0 : lw_At p s m meth c b L xs) (hE : kE E (fun q : Nat => s.heap.size ≤ q) s s.heap) {z : SpcS} {y : MdS} (hR : Rel z y) {j : Nat} (hj : j + 5 ≤ L) {H : Heap} {locs : List Loc} (M : gM E (fun q : Nat => s.heap.size ≤ q) s.heap (spcGs E ad z ++ modGs E am y) H locs) {ls : Array Slot} (hl : lv_has ls 4 [(0, .ref b), (1, .ref (ad 0)), (2, .ref (am 0)), (3, .int (nI j))]) (kk : ∀ (z : SpcS) (y : MdS), Rel z y → ∀ (H : Heap) (locs : List Loc), gM E (fun q : Nat => s.heap.size ≤ q) s.heap (spcGs E ad z ++ modGs E am y) H locs → W p l e room_1 s m #[Value.ref b] below meth c H locs 57 3831 (lw_Z below #[Value.ref b] s) (F0 m 656 ls [])) : W p l e room_1 s m #[Value.ref b] below meth c H locs 57 3831 (lw_Z below #[Value.ref b] s) (F0 m 531 ls []) := by
  obtain ⟨hx, hb, hr, hml, hown, hts0, hX, hbl, hlocks, hgv⟩ := C0
  have hts : ∀ w ∈ wsL_law, w.before #[Value.ref b] s = true := fun w h => hts0 w (wsL_law_in w h)
  have S : CallFix p m c cL_law 4 s #[Value.ref b] wsL_law RL := ⟨hx, hb, hml, hown, hts⟩
  have hbA : ¬ (fun q : Nat => s.heap.size ≤ q) b := Nat.not_le.mpr hbl
  have hA := hR.a_ct
  have hS := hR.s_ct
  refine lv_aload_n S.1 S.2.1 dL_law_531 rfl (lv_at hl 1 rfl) ?_
  refine lv_aload_n S.1 S.2.1 dL_law_532 rfl (lv_at hl 0 rfl) ?_
  refine lv_iload_n S.1 S.2.1 dL_law_533 rfl (lv_at hl 3 rfl) ?_
  refine lv_iconst (v := nI 1) S.1 S.2.1 dL_law_534 (by decide) ?_
  refine lv_iadd S.1 S.2.1 dL_law_535 ?_
  refine gtop (x' := nI (j + 1)) (nI_add j 1) ?_
  refine va_sld S.1 S.2.1 hX hbl hbA M.2.2.1 (vp_in_nI (by omega) (by omega)) dL_law_536 ?_
  refine gtop (x' := xs (j + 1)) (by rw [nI_clamp (by omega)]) ?_
  refine gcalli (L := []) (Mid := spcGs E ad z) (Rr := modGs E am y) (Mid' := spcGs E ad z) hE M rfl rfl rfl (fun hgH => va_runV (As := [.int (xs (j + 1))]) (rest := []) S (c_X8_waiting l E ad z (xs (j + 1)) hA _) (cwV 1 S.2.2.2.2 gL_law_X8_waiting rfl rfl rfl kd_X8_waiting ⟨(Nat.le_of_ble_eq_true rfl), (Nat.le_of_ble_eq_true rfl)⟩) (hgH.V hE (show vwCl[8]? = some (RX8, TX8, 11) from rfl) rfl) rfl rfl hl.1 rfl (lv_room (Nat.le_of_ble_eq_true rfl)) dL_law_537 ⟨(Nat.le_of_ble_eq_true rfl), (Nat.le_of_ble_eq_true rfl)⟩) (fun H locs M => ?_)
  have M : gM E (fun q : Nat => s.heap.size ≤ q) s.heap (spcGs E ad z ++ modGs E am y) H locs := M
  obtain ⟨y2, f2, n2, hf2, hn2, hC2, hR2⟩ := pk_waiting l E am hR (xs (j + 1))
  refine lv_aload_n S.1 S.2.1 dL_law_540 rfl (lv_at hl 2 rfl) ?_
  refine lv_aload_n S.1 S.2.1 dL_law_541 rfl (lv_at hl 0 rfl) ?_
  refine lv_iload_n S.1 S.2.1 dL_law_542 rfl (lv_at hl 3 rfl) ?_
  refine lv_iconst (v := nI 1) S.1 S.2.1 dL_law_543 (by decide) ?_
  refine lv_iadd S.1 S.2.1 dL_law_544 ?_
  refine gtop (x' := nI (j + 1)) (nI_add j 1) ?_
  refine va_sld S.1 S.2.1 hX hbl hbA M.2.2.1 (vp_in_nI (by omega) (by omega)) dL_law_545 ?_
  refine gtop (x' := xs (j + 1)) (by rw [nI_clamp (by omega)]) ?_
  refine gcalli (r := (SpcS.waiting z (xs (j + 1)))) (L := spcGs E ad z) (Mid := modGs E am y) (Rr := []) (Mid' := modGs E am y2) hE M (by rw [List.append_nil]) rfl rfl (fun hgH => va_runV (As := [.int (xs (j + 1))]) (rest := [.int (SpcS.waiting z (xs (j + 1)))]) S (hC2 _) (cwV 1 S.2.2.2.2 gL_law_X9_waiting rfl rfl rfl kd_X9_waiting ⟨show f2 + 1 ≤ 10 by omega, show 8 + (4 + 11) + n2 ≤ 346 by omega⟩) (hgH.V hE (show vwCl[9]? = some (RX9, TX9, 28) from rfl) rfl) rfl rfl hl.1 rfl (lv_room (Nat.le_of_ble_eq_true rfl)) dL_law_546 ⟨(Nat.le_of_ble_eq_true rfl), (Nat.le_of_ble_eq_true rfl)⟩) (fun H locs M => ?_)
  rw [List.append_nil] at M
  refine lv_icmp_eq (tgt := 656) S.1 S.2.1 dL_law_549 (by decide) (fun _ => ?_) (fun c_ => absurd rfl c_)
  exact kk _ _ hR2 _ _ M
set_option maxHeartbeats 4000000 in
set_option maxRecDepth 100000 in
theorem law_playing {p : Program} {l : Launch} {e : Env} {s : State} {m : MethodId} {below : List Frame} {meth : Method} {c : Code} {E : xE} {b L : Nat} {xs : Nat → Int32} {ad am : Nat → Nat} (hL : L ≤ 2560) (C0 : lw_At p s m meth c b L xs) (hE : kE E (fun q : Nat => s.heap.size ≤ q) s s.heap) {z : SpcS} {y : MdS} (hR : Rel z y) {j : Nat} (hj : j + 5 ≤ L) {H : Heap} {locs : List Loc} (M : gM E (fun q : Nat => s.heap.size ≤ q) s.heap (spcGs E ad z ++ modGs E am y) H locs) {ls : Array Slot} (hl : lv_has ls 4 [(0, .ref b), (1, .ref (ad 0)), (2, .ref (am 0)), (3, .int (nI j))]) (kk : ∀ (z : SpcS) (y : MdS), Rel z y → ∀ (H : Heap) (locs : List Loc), gM E (fun q : Nat => s.heap.size ≤ q) s.heap (spcGs E ad z ++ modGs E am y) H locs → W p l e room_1 s m #[Value.ref b] below meth c H locs 57 3831 (lw_Z below #[Value.ref b] s) (F0 m 656 ls [])) : W p l e room_1 s m #[Value.ref b] below meth c H locs 57 3831 (lw_Z below #[Value.ref b] s) (F0 m 554 ls []) := by
  obtain ⟨hx, hb, hr, hml, hown, hts0, hX, hbl, hlocks, hgv⟩ := C0
  have hts : ∀ w ∈ wsL_law, w.before #[Value.ref b] s = true := fun w h => hts0 w (wsL_law_in w h)
  have S : CallFix p m c cL_law 4 s #[Value.ref b] wsL_law RL := ⟨hx, hb, hml, hown, hts⟩
  have hbA : ¬ (fun q : Nat => s.heap.size ≤ q) b := Nat.not_le.mpr hbl
  have hA := hR.a_ct
  have hS := hR.s_ct
  refine lv_aload_n S.1 S.2.1 dL_law_554 rfl (lv_at hl 1 rfl) ?_
  refine lv_aload_n S.1 S.2.1 dL_law_555 rfl (lv_at hl 0 rfl) ?_
  refine lv_iload_n S.1 S.2.1 dL_law_556 rfl (lv_at hl 3 rfl) ?_
  refine lv_iconst (v := nI 1) S.1 S.2.1 dL_law_557 (by decide) ?_
  refine lv_iadd S.1 S.2.1 dL_law_558 ?_
  refine gtop (x' := nI (j + 1)) (nI_add j 1) ?_
  refine va_sld S.1 S.2.1 hX hbl hbA M.2.2.1 (vp_in_nI (by omega) (by omega)) dL_law_559 ?_
  refine gtop (x' := xs (j + 1)) (by rw [nI_clamp (by omega)]) ?_
  refine gcalli (L := []) (Mid := spcGs E ad z) (Rr := modGs E am y) (Mid' := spcGs E ad z) hE M rfl rfl rfl (fun hgH => va_runV (As := [.int (xs (j + 1))]) (rest := []) S (c_X8_playing l E ad z (xs (j + 1)) hA _) (cwV 1 S.2.2.2.2 gL_law_X8_playing rfl rfl rfl kd_X8_playing ⟨(Nat.le_of_ble_eq_true rfl), (Nat.le_of_ble_eq_true rfl)⟩) (hgH.V hE (show vwCl[8]? = some (RX8, TX8, 11) from rfl) rfl) rfl rfl hl.1 rfl (lv_room (Nat.le_of_ble_eq_true rfl)) dL_law_560 ⟨(Nat.le_of_ble_eq_true rfl), (Nat.le_of_ble_eq_true rfl)⟩) (fun H locs M => ?_)
  have M : gM E (fun q : Nat => s.heap.size ≤ q) s.heap (spcGs E ad z ++ modGs E am y) H locs := M
  obtain ⟨y2, f2, n2, hf2, hn2, hC2, hR2⟩ := pk_playing l E am hR (xs (j + 1))
  refine lv_aload_n S.1 S.2.1 dL_law_563 rfl (lv_at hl 2 rfl) ?_
  refine lv_aload_n S.1 S.2.1 dL_law_564 rfl (lv_at hl 0 rfl) ?_
  refine lv_iload_n S.1 S.2.1 dL_law_565 rfl (lv_at hl 3 rfl) ?_
  refine lv_iconst (v := nI 1) S.1 S.2.1 dL_law_566 (by decide) ?_
  refine lv_iadd S.1 S.2.1 dL_law_567 ?_
  refine gtop (x' := nI (j + 1)) (nI_add j 1) ?_
  refine va_sld S.1 S.2.1 hX hbl hbA M.2.2.1 (vp_in_nI (by omega) (by omega)) dL_law_568 ?_
  refine gtop (x' := xs (j + 1)) (by rw [nI_clamp (by omega)]) ?_
  refine gcalli (r := (SpcS.playing z (xs (j + 1)))) (L := spcGs E ad z) (Mid := modGs E am y) (Rr := []) (Mid' := modGs E am y2) hE M (by rw [List.append_nil]) rfl rfl (fun hgH => va_runV (As := [.int (xs (j + 1))]) (rest := [.int (SpcS.playing z (xs (j + 1)))]) S (hC2 _) (cwV 1 S.2.2.2.2 gL_law_X9_playing rfl rfl rfl kd_X9_playing ⟨show f2 + 1 ≤ 10 by omega, show 8 + (3 + 11) + n2 ≤ 346 by omega⟩) (hgH.V hE (show vwCl[9]? = some (RX9, TX9, 28) from rfl) rfl) rfl rfl hl.1 rfl (lv_room (Nat.le_of_ble_eq_true rfl)) dL_law_569 ⟨(Nat.le_of_ble_eq_true rfl), (Nat.le_of_ble_eq_true rfl)⟩) (fun H locs M => ?_)
  rw [List.append_nil] at M
  refine lv_icmp_eq (tgt := 656) S.1 S.2.1 dL_law_572 (by decide) (fun _ => ?_) (fun c_ => absurd rfl c_)
  exact kk _ _ hR2 _ _ M
set_option maxHeartbeats 4000000 in
set_option maxRecDepth 100000 in
theorem law_text {p : Program} {l : Launch} {e : Env} {s : State} {m : MethodId} {below : List Frame} {meth : Method} {c : Code} {E : xE} {b L : Nat} {xs : Nat → Int32} {ad am : Nat → Nat} (hL : L ≤ 2560) (C0 : lw_At p s m meth c b L xs) (hE : kE E (fun q : Nat => s.heap.size ≤ q) s s.heap) {z : SpcS} {y : MdS} (hR : Rel z y) {j : Nat} (hj : j + 5 ≤ L) {H : Heap} {locs : List Loc} (M : gM E (fun q : Nat => s.heap.size ≤ q) s.heap (spcGs E ad z ++ modGs E am y) H locs) {ls : Array Slot} (hl : lv_has ls 4 [(0, .ref b), (1, .ref (ad 0)), (2, .ref (am 0)), (3, .int (nI j))]) (kk : ∀ (z : SpcS) (y : MdS), Rel z y → ∀ (H : Heap) (locs : List Loc), gM E (fun q : Nat => s.heap.size ≤ q) s.heap (spcGs E ad z ++ modGs E am y) H locs → W p l e room_1 s m #[Value.ref b] below meth c H locs 57 3831 (lw_Z below #[Value.ref b] s) (F0 m 656 ls [])) : W p l e room_1 s m #[Value.ref b] below meth c H locs 57 3831 (lw_Z below #[Value.ref b] s) (F0 m 577 ls []) := by
  obtain ⟨hx, hb, hr, hml, hown, hts0, hX, hbl, hlocks, hgv⟩ := C0
  have hts : ∀ w ∈ wsL_law, w.before #[Value.ref b] s = true := fun w h => hts0 w (wsL_law_in w h)
  have S : CallFix p m c cL_law 4 s #[Value.ref b] wsL_law RL := ⟨hx, hb, hml, hown, hts⟩
  have hbA : ¬ (fun q : Nat => s.heap.size ≤ q) b := Nat.not_le.mpr hbl
  have hA := hR.a_ct
  have hS := hR.s_ct
  refine lv_aload_n S.1 S.2.1 dL_law_577 rfl (lv_at hl 1 rfl) ?_
  refine lv_aload_n S.1 S.2.1 dL_law_578 rfl (lv_at hl 0 rfl) ?_
  refine lv_iload_n S.1 S.2.1 dL_law_579 rfl (lv_at hl 3 rfl) ?_
  refine lv_iconst (v := nI 1) S.1 S.2.1 dL_law_580 (by decide) ?_
  refine lv_iadd S.1 S.2.1 dL_law_581 ?_
  refine gtop (x' := nI (j + 1)) (nI_add j 1) ?_
  refine va_sld S.1 S.2.1 hX hbl hbA M.2.2.1 (vp_in_nI (by omega) (by omega)) dL_law_582 ?_
  refine gtop (x' := xs (j + 1)) (by rw [nI_clamp (by omega)]) ?_
  refine lv_aload_n S.1 S.2.1 dL_law_583 rfl (lv_at hl 0 rfl) ?_
  refine lv_iload_n S.1 S.2.1 dL_law_584 rfl (lv_at hl 3 rfl) ?_
  refine lv_iconst (v := nI 2) S.1 S.2.1 dL_law_585 (by decide) ?_
  refine lv_iadd S.1 S.2.1 dL_law_586 ?_
  refine gtop (x' := nI (j + 2)) (nI_add j 2) ?_
  refine va_sld S.1 S.2.1 hX hbl hbA M.2.2.1 (vp_in_nI (by omega) (by omega)) dL_law_587 ?_
  refine gtop (x' := xs (j + 2)) (by rw [nI_clamp (by omega)]) ?_
  refine gcalli (L := []) (Mid := spcGs E ad z) (Rr := modGs E am y) (Mid' := spcGs E ad (SpcS.text z (xs (j + 1)) (xs (j + 2))).2) hE M rfl rfl rfl (fun hgH => va_runV (As := [.int (xs (j + 1)), .int (xs (j + 2))]) (rest := []) S (c_X8_text l E ad z (xs (j + 1)) (xs (j + 2)) _) (cwV 2 S.2.2.2.2 gL_law_X8_text rfl rfl rfl kd_X8_text ⟨(Nat.le_of_ble_eq_true rfl), (Nat.le_of_ble_eq_true rfl)⟩) (hgH.V hE (show vwCl[8]? = some (RX8, TX8, 11) from rfl) rfl) rfl rfl hl.1 rfl (lv_room (Nat.le_of_ble_eq_true rfl)) dL_law_588 ⟨(Nat.le_of_ble_eq_true rfl), (Nat.le_of_ble_eq_true rfl)⟩) (fun H locs M => ?_)
  have M : gM E (fun q : Nat => s.heap.size ≤ q) s.heap (spcGs E ad (SpcS.text z (xs (j + 1)) (xs (j + 2))).2 ++ modGs E am y) H locs := M
  obtain ⟨y2, f2, n2, hf2, hn2, hC2, hR2⟩ := pk_text l E am hR (xs (j + 1)) (xs (j + 2))
  refine lv_aload_n S.1 S.2.1 dL_law_591 rfl (lv_at hl 2 rfl) ?_
  refine lv_aload_n S.1 S.2.1 dL_law_592 rfl (lv_at hl 0 rfl) ?_
  refine lv_iload_n S.1 S.2.1 dL_law_593 rfl (lv_at hl 3 rfl) ?_
  refine lv_iconst (v := nI 1) S.1 S.2.1 dL_law_594 (by decide) ?_
  refine lv_iadd S.1 S.2.1 dL_law_595 ?_
  refine gtop (x' := nI (j + 1)) (nI_add j 1) ?_
  refine va_sld S.1 S.2.1 hX hbl hbA M.2.2.1 (vp_in_nI (by omega) (by omega)) dL_law_596 ?_
  refine gtop (x' := xs (j + 1)) (by rw [nI_clamp (by omega)]) ?_
  refine lv_aload_n S.1 S.2.1 dL_law_597 rfl (lv_at hl 0 rfl) ?_
  refine lv_iload_n S.1 S.2.1 dL_law_598 rfl (lv_at hl 3 rfl) ?_
  refine lv_iconst (v := nI 2) S.1 S.2.1 dL_law_599 (by decide) ?_
  refine lv_iadd S.1 S.2.1 dL_law_600 ?_
  refine gtop (x' := nI (j + 2)) (nI_add j 2) ?_
  refine va_sld S.1 S.2.1 hX hbl hbA M.2.2.1 (vp_in_nI (by omega) (by omega)) dL_law_601 ?_
  refine gtop (x' := xs (j + 2)) (by rw [nI_clamp (by omega)]) ?_
  refine gcalli (r := (SpcS.text z (xs (j + 1)) (xs (j + 2))).1) (L := spcGs E ad (SpcS.text z (xs (j + 1)) (xs (j + 2))).2) (Mid := modGs E am y) (Rr := []) (Mid' := modGs E am y2) hE M (by rw [List.append_nil]) rfl rfl (fun hgH => va_runV (As := [.int (xs (j + 1)), .int (xs (j + 2))]) (rest := [.int (SpcS.text z (xs (j + 1)) (xs (j + 2))).1]) S (hC2 _) (cwV 2 S.2.2.2.2 gL_law_X9_text rfl rfl rfl kd_X9_text ⟨show f2 + 1 ≤ 10 by omega, show 8 + (3 + 11) + n2 ≤ 346 by omega⟩) (hgH.V hE (show vwCl[9]? = some (RX9, TX9, 28) from rfl) rfl) rfl rfl hl.1 rfl (lv_room (Nat.le_of_ble_eq_true rfl)) dL_law_602 ⟨(Nat.le_of_ble_eq_true rfl), (Nat.le_of_ble_eq_true rfl)⟩) (fun H locs M => ?_)
  rw [List.append_nil] at M
  refine lv_icmp_eq (tgt := 656) S.1 S.2.1 dL_law_605 (by decide) (fun _ => ?_) (fun c_ => absurd rfl c_)
  exact kk _ _ hR2 _ _ M
set_option maxHeartbeats 4000000 in
set_option maxRecDepth 100000 in
theorem law_word {p : Program} {l : Launch} {e : Env} {s : State} {m : MethodId} {below : List Frame} {meth : Method} {c : Code} {E : xE} {b L : Nat} {xs : Nat → Int32} {ad am : Nat → Nat} (hL : L ≤ 2560) (C0 : lw_At p s m meth c b L xs) (hE : kE E (fun q : Nat => s.heap.size ≤ q) s s.heap) {z : SpcS} {y : MdS} (hR : Rel z y) {j : Nat} (hj : j + 5 ≤ L) {H : Heap} {locs : List Loc} (M : gM E (fun q : Nat => s.heap.size ≤ q) s.heap (spcGs E ad z ++ modGs E am y) H locs) {ls : Array Slot} (hl : lv_has ls 4 [(0, .ref b), (1, .ref (ad 0)), (2, .ref (am 0)), (3, .int (nI j))]) (kk : ∀ (z : SpcS) (y : MdS), Rel z y → ∀ (H : Heap) (locs : List Loc), gM E (fun q : Nat => s.heap.size ≤ q) s.heap (spcGs E ad z ++ modGs E am y) H locs → W p l e room_1 s m #[Value.ref b] below meth c H locs 57 3831 (lw_Z below #[Value.ref b] s) (F0 m 656 ls [])) : W p l e room_1 s m #[Value.ref b] below meth c H locs 57 3831 (lw_Z below #[Value.ref b] s) (F0 m 610 ls []) := by
  obtain ⟨hx, hb, hr, hml, hown, hts0, hX, hbl, hlocks, hgv⟩ := C0
  have hts : ∀ w ∈ wsL_law, w.before #[Value.ref b] s = true := fun w h => hts0 w (wsL_law_in w h)
  have S : CallFix p m c cL_law 4 s #[Value.ref b] wsL_law RL := ⟨hx, hb, hml, hown, hts⟩
  have hbA : ¬ (fun q : Nat => s.heap.size ≤ q) b := Nat.not_le.mpr hbl
  have hA := hR.a_ct
  have hS := hR.s_ct
  refine lv_aload_n S.1 S.2.1 dL_law_610 rfl (lv_at hl 1 rfl) ?_
  refine lv_aload_n S.1 S.2.1 dL_law_611 rfl (lv_at hl 0 rfl) ?_
  refine lv_iload_n S.1 S.2.1 dL_law_612 rfl (lv_at hl 3 rfl) ?_
  refine lv_iconst (v := nI 1) S.1 S.2.1 dL_law_613 (by decide) ?_
  refine lv_iadd S.1 S.2.1 dL_law_614 ?_
  refine gtop (x' := nI (j + 1)) (nI_add j 1) ?_
  refine va_sld S.1 S.2.1 hX hbl hbA M.2.2.1 (vp_in_nI (by omega) (by omega)) dL_law_615 ?_
  refine gtop (x' := xs (j + 1)) (by rw [nI_clamp (by omega)]) ?_
  refine gcalli (L := []) (Mid := spcGs E ad z) (Rr := modGs E am y) (Mid' := spcGs E ad z) hE M rfl rfl rfl (fun hgH => va_runV (As := [.int (xs (j + 1))]) (rest := []) S (c_X8_word l E ad z (xs (j + 1)) _) (cwV 1 S.2.2.2.2 gL_law_X8_word rfl rfl rfl kd_X8_word ⟨(Nat.le_of_ble_eq_true rfl), (Nat.le_of_ble_eq_true rfl)⟩) (hgH.V hE (show vwCl[8]? = some (RX8, TX8, 11) from rfl) rfl) rfl rfl hl.1 rfl (lv_room (Nat.le_of_ble_eq_true rfl)) dL_law_616 ⟨(Nat.le_of_ble_eq_true rfl), (Nat.le_of_ble_eq_true rfl)⟩) (fun H locs M => ?_)
  have M : gM E (fun q : Nat => s.heap.size ≤ q) s.heap (spcGs E ad z ++ modGs E am y) H locs := M
  obtain ⟨y2, f2, n2, hf2, hn2, hC2, hR2⟩ := pk_word l E am hR (xs (j + 1))
  refine lv_aload_n S.1 S.2.1 dL_law_619 rfl (lv_at hl 2 rfl) ?_
  refine lv_aload_n S.1 S.2.1 dL_law_620 rfl (lv_at hl 0 rfl) ?_
  refine lv_iload_n S.1 S.2.1 dL_law_621 rfl (lv_at hl 3 rfl) ?_
  refine lv_iconst (v := nI 1) S.1 S.2.1 dL_law_622 (by decide) ?_
  refine lv_iadd S.1 S.2.1 dL_law_623 ?_
  refine gtop (x' := nI (j + 1)) (nI_add j 1) ?_
  refine va_sld S.1 S.2.1 hX hbl hbA M.2.2.1 (vp_in_nI (by omega) (by omega)) dL_law_624 ?_
  refine gtop (x' := xs (j + 1)) (by rw [nI_clamp (by omega)]) ?_
  refine gcalli (r := (SpcS.word z (xs (j + 1)))) (L := spcGs E ad z) (Mid := modGs E am y) (Rr := []) (Mid' := modGs E am y2) hE M (by rw [List.append_nil]) rfl rfl (fun hgH => va_runV (As := [.int (xs (j + 1))]) (rest := [.int (SpcS.word z (xs (j + 1)))]) S (hC2 _) (cwV 1 S.2.2.2.2 gL_law_X9_word rfl rfl rfl kd_X9_word ⟨show f2 + 1 ≤ 10 by omega, show 8 + (2 + 11) + n2 ≤ 346 by omega⟩) (hgH.V hE (show vwCl[9]? = some (RX9, TX9, 28) from rfl) rfl) rfl rfl hl.1 rfl (lv_room (Nat.le_of_ble_eq_true rfl)) dL_law_625 ⟨(Nat.le_of_ble_eq_true rfl), (Nat.le_of_ble_eq_true rfl)⟩) (fun H locs M => ?_)
  rw [List.append_nil] at M
  refine lv_icmp_eq (tgt := 656) S.1 S.2.1 dL_law_628 (by decide) (fun _ => ?_) (fun c_ => absurd rfl c_)
  exact kk _ _ hR2 _ _ M
set_option maxHeartbeats 4000000 in
set_option maxRecDepth 100000 in
theorem law_many {p : Program} {l : Launch} {e : Env} {s : State} {m : MethodId} {below : List Frame} {meth : Method} {c : Code} {E : xE} {b L : Nat} {xs : Nat → Int32} {ad am : Nat → Nat} (hL : L ≤ 2560) (C0 : lw_At p s m meth c b L xs) (hE : kE E (fun q : Nat => s.heap.size ≤ q) s s.heap) {z : SpcS} {y : MdS} (hR : Rel z y) {j : Nat} (hj : j + 5 ≤ L) {H : Heap} {locs : List Loc} (M : gM E (fun q : Nat => s.heap.size ≤ q) s.heap (spcGs E ad z ++ modGs E am y) H locs) {ls : Array Slot} (hl : lv_has ls 4 [(0, .ref b), (1, .ref (ad 0)), (2, .ref (am 0)), (3, .int (nI j))]) (kk : ∀ (z : SpcS) (y : MdS), Rel z y → ∀ (H : Heap) (locs : List Loc), gM E (fun q : Nat => s.heap.size ≤ q) s.heap (spcGs E ad z ++ modGs E am y) H locs → W p l e room_1 s m #[Value.ref b] below meth c H locs 57 3831 (lw_Z below #[Value.ref b] s) (F0 m 656 ls [])) : W p l e room_1 s m #[Value.ref b] below meth c H locs 57 3831 (lw_Z below #[Value.ref b] s) (F0 m 633 ls []) := by
  obtain ⟨hx, hb, hr, hml, hown, hts0, hX, hbl, hlocks, hgv⟩ := C0
  have hts : ∀ w ∈ wsL_law, w.before #[Value.ref b] s = true := fun w h => hts0 w (wsL_law_in w h)
  have S : CallFix p m c cL_law 4 s #[Value.ref b] wsL_law RL := ⟨hx, hb, hml, hown, hts⟩
  have hbA : ¬ (fun q : Nat => s.heap.size ≤ q) b := Nat.not_le.mpr hbl
  have hA := hR.a_ct
  have hS := hR.s_ct
  refine lv_aload_n S.1 S.2.1 dL_law_633 rfl (lv_at hl 1 rfl) ?_
  refine lv_aload_n S.1 S.2.1 dL_law_634 rfl (lv_at hl 0 rfl) ?_
  refine lv_iload_n S.1 S.2.1 dL_law_635 rfl (lv_at hl 3 rfl) ?_
  refine lv_iconst (v := nI 1) S.1 S.2.1 dL_law_636 (by decide) ?_
  refine lv_iadd S.1 S.2.1 dL_law_637 ?_
  refine gtop (x' := nI (j + 1)) (nI_add j 1) ?_
  refine va_sld S.1 S.2.1 hX hbl hbA M.2.2.1 (vp_in_nI (by omega) (by omega)) dL_law_638 ?_
  refine gtop (x' := xs (j + 1)) (by rw [nI_clamp (by omega)]) ?_
  refine gcalli (L := []) (Mid := spcGs E ad z) (Rr := modGs E am y) (Mid' := spcGs E ad z) hE M rfl rfl rfl (fun hgH => va_runV (As := [.int (xs (j + 1))]) (rest := []) S (c_X8_many l E ad z (xs (j + 1)) hA hS _) (cwV 1 S.2.2.2.2 gL_law_X8_many rfl rfl rfl kd_X8_many ⟨(Nat.le_of_ble_eq_true rfl), (Nat.le_of_ble_eq_true rfl)⟩) (hgH.V hE (show vwCl[8]? = some (RX8, TX8, 11) from rfl) rfl) rfl rfl hl.1 rfl (lv_room (Nat.le_of_ble_eq_true rfl)) dL_law_639 ⟨(Nat.le_of_ble_eq_true rfl), (Nat.le_of_ble_eq_true rfl)⟩) (fun H locs M => ?_)
  have M : gM E (fun q : Nat => s.heap.size ≤ q) s.heap (spcGs E ad z ++ modGs E am y) H locs := M
  obtain ⟨y2, f2, n2, hf2, hn2, hC2, hR2⟩ := pk_many l E am hR (xs (j + 1))
  refine lv_aload_n S.1 S.2.1 dL_law_642 rfl (lv_at hl 2 rfl) ?_
  refine lv_aload_n S.1 S.2.1 dL_law_643 rfl (lv_at hl 0 rfl) ?_
  refine lv_iload_n S.1 S.2.1 dL_law_644 rfl (lv_at hl 3 rfl) ?_
  refine lv_iconst (v := nI 1) S.1 S.2.1 dL_law_645 (by decide) ?_
  refine lv_iadd S.1 S.2.1 dL_law_646 ?_
  refine gtop (x' := nI (j + 1)) (nI_add j 1) ?_
  refine va_sld S.1 S.2.1 hX hbl hbA M.2.2.1 (vp_in_nI (by omega) (by omega)) dL_law_647 ?_
  refine gtop (x' := xs (j + 1)) (by rw [nI_clamp (by omega)]) ?_
  refine gcalli (r := (SpcS.many z (xs (j + 1)))) (L := spcGs E ad z) (Mid := modGs E am y) (Rr := []) (Mid' := modGs E am y2) hE M (by rw [List.append_nil]) rfl rfl (fun hgH => va_runV (As := [.int (xs (j + 1))]) (rest := [.int (SpcS.many z (xs (j + 1)))]) S (hC2 _) (cwV 1 S.2.2.2.2 gL_law_X9_many rfl rfl rfl kd_X9_many ⟨show f2 + 1 ≤ 10 by omega, show 8 + (5 + 11) + n2 ≤ 346 by omega⟩) (hgH.V hE (show vwCl[9]? = some (RX9, TX9, 28) from rfl) rfl) rfl rfl hl.1 rfl (lv_room (Nat.le_of_ble_eq_true rfl)) dL_law_648 ⟨(Nat.le_of_ble_eq_true rfl), (Nat.le_of_ble_eq_true rfl)⟩) (fun H locs M => ?_)
  rw [List.append_nil] at M
  refine lv_icmp_eq (tgt := 656) S.1 S.2.1 dL_law_651 (by decide) (fun _ => ?_) (fun c_ => absurd rfl c_)
  exact kk _ _ hR2 _ _ M
set_option maxHeartbeats 4000000 in
set_option maxRecDepth 100000 in
theorem law_loop {p : Program} {l : Launch} {e : Env} {s : State} {m : MethodId} {below : List Frame} {meth : Method} {c : Code} {E : xE} {b L : Nat} {xs : Nat → Int32} {ad am : Nat → Nat} (hL : L ≤ 2560) (C0 : lw_At p s m meth c b L xs) (hE : kE E (fun q : Nat => s.heap.size ≤ q) s s.heap) : ∀ (n j : Nat), j ≤ L + 5 → L + 1 ≤ j + 5 * n → ∀ (z : SpcS) (y : MdS), Rel z y → ∀ (H : Heap) (locs : List Loc), gM E (fun q : Nat => s.heap.size ≤ q) s.heap (spcGs E ad z ++ modGs E am y) H locs → ∀ (ls : Array Slot), lv_has ls 4 [(0, .ref b), (1, .ref (ad 0)), (2, .ref (am 0)), (3, .int (nI j))] → W p l e room_1 s m #[Value.ref b] below meth c H locs 57 3831 (lw_Z below #[Value.ref b] s) (F0 m 18 ls []) := by
  have C1 := C0
  obtain ⟨hx, hb, hr, hml, hown, hts0, hX, hbl, hlocks, hgv⟩ := C0
  have hts : ∀ w ∈ wsL_law, w.before #[Value.ref b] s = true := fun w h => hts0 w (wsL_law_in w h)
  have S : CallFix p m c cL_law 4 s #[Value.ref b] wsL_law RL := ⟨hx, hb, hml, hown, hts⟩
  have hbA : ¬ (fun q : Nat => s.heap.size ≤ q) b := Nat.not_le.mpr hbl
  intro n
  induction n with
  | zero =>
    intro j hj hn z y hR H locs M ls hl
    refine lv_iload_n S.1 S.2.1 dL_law_18 rfl (lv_at hl 3 rfl) ?_
    refine lv_aload_n S.1 S.2.1 dL_law_19 rfl (lv_at hl 0 rfl) ?_
    refine va_slen S.1 S.2.1 hX hbl hbA M.2.2.1 dL_law_20 ?_
    refine lv_iconst (v := 5) S.1 S.2.1 dL_law_21 (by decide) ?_
    refine lv_isub S.1 S.2.1 dL_law_22 ?_
    refine lv_icmp_gt (tgt := 662) S.1 S.2.1 dL_law_23 (by decide) (fun _ => ?_) (fun c_ => absurd (law_le (L := L) (by omega) hL (by omega)) c_)
    refine lv_iconst (v := 1) S.1 S.2.1 dL_law_662 (by decide) ?_
    refine va_forget (fun q hq => M.2.2.1.2.2 q hq) ?_
    refine W.widen (k := 600000) (n := 7302250) (Nat.le_of_ble_eq_true rfl) (Nat.le_of_ble_eq_true rfl) ?_
    exact lw_ret hx hb hr hlocks dL_law_663
  | succ n ih =>
    intro j hj hn z y hR H locs M ls hl
    refine lv_iload_n S.1 S.2.1 dL_law_18 rfl (lv_at hl 3 rfl) ?_
    refine lv_aload_n S.1 S.2.1 dL_law_19 rfl (lv_at hl 0 rfl) ?_
    refine va_slen S.1 S.2.1 hX hbl hbA M.2.2.1 dL_law_20 ?_
    refine lv_iconst (v := 5) S.1 S.2.1 dL_law_21 (by decide) ?_
    refine lv_isub S.1 S.2.1 dL_law_22 ?_
    refine lv_icmp_gt (tgt := 662) S.1 S.2.1 dL_law_23 (by decide) (fun _ => ?_) (fun c23 => ?_)
    ·
      refine lv_iconst (v := 1) S.1 S.2.1 dL_law_662 (by decide) ?_
      refine va_forget (fun q hq => M.2.2.1.2.2 q hq) ?_
      refine W.widen (k := 600000) (n := 7302250) (Nat.le_of_ble_eq_true rfl) (Nat.le_of_ble_eq_true rfl) ?_
      exact lw_ret hx hb hr hlocks dL_law_663
    ·
      have hj5 := law_gt (L := L) c23 hL (by omega)
      have kk : ∀ (z : SpcS) (y : MdS), Rel z y → ∀ (H : Heap) (locs : List Loc), gM E (fun q : Nat => s.heap.size ≤ q) s.heap (spcGs E ad z ++ modGs E am y) H locs → W p l e room_1 s m #[Value.ref b] below meth c H locs 57 3831 (lw_Z below #[Value.ref b] s) (F0 m 656 ls []) := by
        intro z y hR H locs M
        refine lv_iinc (v := nI (j + 5)) (lv' := [(3, .int (nI (j + 5))), (0, .ref b), (1, .ref (ad 0)), (2, .ref (am 0))]) S.1 S.2.1 dL_law_656 hl (k := 3) rfl (nI_add j 5) (by decide) rfl (fun ls hl => ?_)
        refine lv_goto (tgt := 18) S.1 S.2.1 dL_law_659 (by decide) ?_
        exact ih (j + 5) (by omega) (by omega) z y hR _ _ M ls (lv_sub hl [1, 2, 3, 0] rfl)
      refine lv_aload_n S.1 S.2.1 dL_law_26 rfl (lv_at hl 0 rfl) ?_
      refine lv_iload_n S.1 S.2.1 dL_law_27 rfl (lv_at hl 3 rfl) ?_
      refine va_sld S.1 S.2.1 hX hbl hbA M.2.2.1 (vp_in_nI (by omega) (by omega)) dL_law_28 ?_
      refine lv_bipush (v := 31) S.1 S.2.1 dL_law_29 (by decide) ?_
      refine lv_iand S.1 S.2.1 dL_law_31 ?_
      refine lv_topi (fun x ex => ?_)
      by_cases d0 : x = 0
      ·
        refine gtop (x' := 0) d0 ?_
        refine lv_tableIn (off := 100) (tgt := 132) S.1 S.2.1 dL_law_32 (by decide) (by decide) rfl (by decide) ?_
        exact law_key hL C1 hE hR hj5 M hl kk
      by_cases d1 : x = 1
      ·
        refine gtop (x' := 1) d1 ?_
        refine lv_tableIn (off := 123) (tgt := 155) S.1 S.2.1 dL_law_32 (by decide) (by decide) rfl (by decide) ?_
        exact law_wipe hL C1 hE hR hj5 M hl kk
      by_cases d2 : x = 2
      ·
        refine gtop (x' := 2) d2 ?_
        refine lv_tableIn (off := 136) (tgt := 168) S.1 S.2.1 dL_law_32 (by decide) (by decide) rfl (by decide) ?_
        exact law_manner hL C1 hE hR hj5 M hl kk
      by_cases d3 : x = 3
      ·
        refine gtop (x' := 3) d3 ?_
        refine lv_tableIn (off := 159) (tgt := 191) S.1 S.2.1 dL_law_32 (by decide) (by decide) rfl (by decide) ?_
        exact law_margin hL C1 hE hR hj5 M hl kk
      by_cases d4 : x = 4
      ·
        refine gtop (x' := 4) d4 ?_
        refine lv_tableIn (off := 182) (tgt := 214) S.1 S.2.1 dL_law_32 (by decide) (by decide) rfl (by decide) ?_
        exact law_jump hL C1 hE hR hj5 M hl kk
      by_cases d5 : x = 5
      ·
        refine gtop (x' := 5) d5 ?_
        refine lv_tableIn (off := 205) (tgt := 237) S.1 S.2.1 dL_law_32 (by decide) (by decide) rfl (by decide) ?_
        exact law_arrive hL C1 hE hR hj5 M hl kk
      by_cases d6 : x = 6
      ·
        refine gtop (x' := 6) d6 ?_
        refine lv_tableIn (off := 258) (tgt := 290) S.1 S.2.1 dL_law_32 (by decide) (by decide) rfl (by decide) ?_
        exact law_anew hL C1 hE hR hj5 M hl kk
      by_cases d7 : x = 7
      ·
        refine gtop (x' := 7) d7 ?_
        refine lv_tableIn (off := 271) (tgt := 303) S.1 S.2.1 dL_law_32 (by decide) (by decide) rfl (by decide) ?_
        exact law_ofFrame hL C1 hE hR hj5 M hl kk
      by_cases d8 : x = 8
      ·
        refine gtop (x' := 8) d8 ?_
        refine lv_tableIn (off := 304) (tgt := 336) S.1 S.2.1 dL_law_32 (by decide) (by decide) rfl (by decide) ?_
        exact law_ofSpurt hL C1 hE hR hj5 M hl kk
      by_cases d9 : x = 9
      ·
        refine gtop (x' := 9) d9 ?_
        refine lv_tableIn (off := 337) (tgt := 369) S.1 S.2.1 dL_law_32 (by decide) (by decide) rfl (by decide) ?_
        exact law_inOrder hL C1 hE hR hj5 M hl kk
      by_cases d10 : x = 10
      ·
        refine gtop (x' := 10) d10 ?_
        refine lv_tableIn (off := 360) (tgt := 392) S.1 S.2.1 dL_law_32 (by decide) (by decide) rfl (by decide) ?_
        exact law_wish hL C1 hE hR hj5 M hl kk
      by_cases d11 : x = 11
      ·
        refine gtop (x' := 11) d11 ?_
        refine lv_tableIn (off := 383) (tgt := 415) S.1 S.2.1 dL_law_32 (by decide) (by decide) rfl (by decide) ?_
        exact law_spike hL C1 hE hR hj5 M hl kk
      by_cases d12 : x = 12
      ·
        refine gtop (x' := 12) d12 ?_
        refine lv_tableIn (off := 406) (tgt := 438) S.1 S.2.1 dL_law_32 (by decide) (by decide) rfl (by decide) ?_
        exact law_late hL C1 hE hR hj5 M hl kk
      by_cases d13 : x = 13
      ·
        refine gtop (x' := 13) d13 ?_
        refine lv_tableIn (off := 429) (tgt := 461) S.1 S.2.1 dL_law_32 (by decide) (by decide) rfl (by decide) ?_
        exact law_history hL C1 hE hR hj5 M hl kk
      by_cases d14 : x = 14
      ·
        refine gtop (x' := 14) d14 ?_
        refine lv_tableIn (off := 452) (tgt := 484) S.1 S.2.1 dL_law_32 (by decide) (by decide) rfl (by decide) ?_
        exact law_loss hL C1 hE hR hj5 M hl kk
      by_cases d15 : x = 15
      ·
        refine gtop (x' := 15) d15 ?_
        refine lv_tableIn (off := 475) (tgt := 507) S.1 S.2.1 dL_law_32 (by decide) (by decide) rfl (by decide) ?_
        exact law_drift hL C1 hE hR hj5 M hl kk
      by_cases d16 : x = 16
      ·
        refine gtop (x' := 16) d16 ?_
        refine lv_tableIn (off := 499) (tgt := 531) S.1 S.2.1 dL_law_32 (by decide) (by decide) rfl (by decide) ?_
        exact law_waiting hL C1 hE hR hj5 M hl kk
      by_cases d17 : x = 17
      ·
        refine gtop (x' := 17) d17 ?_
        refine lv_tableIn (off := 522) (tgt := 554) S.1 S.2.1 dL_law_32 (by decide) (by decide) rfl (by decide) ?_
        exact law_playing hL C1 hE hR hj5 M hl kk
      by_cases d18 : x = 18
      ·
        refine gtop (x' := 18) d18 ?_
        refine lv_tableIn (off := 545) (tgt := 577) S.1 S.2.1 dL_law_32 (by decide) (by decide) rfl (by decide) ?_
        exact law_text hL C1 hE hR hj5 M hl kk
      by_cases d19 : x = 19
      ·
        refine gtop (x' := 19) d19 ?_
        refine lv_tableIn (off := 578) (tgt := 610) S.1 S.2.1 dL_law_32 (by decide) (by decide) rfl (by decide) ?_
        exact law_word hL C1 hE hR hj5 M hl kk
      by_cases d20 : x = 20
      ·
        refine gtop (x' := 20) d20 ?_
        refine lv_tableIn (off := 601) (tgt := 633) S.1 S.2.1 dL_law_32 (by decide) (by decide) rfl (by decide) ?_
        exact law_many hL C1 hE hR hj5 M hl kk
      refine lv_tableOut (tgt := 656) S.1 S.2.1 dL_law_32 (by have h0 := lv_neT d0 (a := 0) rfl; have h1 := lv_neT d1 (a := 1) rfl; have h2 := lv_neT d2 (a := 2) rfl; have h3 := lv_neT d3 (a := 3) rfl; have h4 := lv_neT d4 (a := 4) rfl; have h5 := lv_neT d5 (a := 5) rfl; have h6 := lv_neT d6 (a := 6) rfl; have h7 := lv_neT d7 (a := 7) rfl; have h8 := lv_neT d8 (a := 8) rfl; have h9 := lv_neT d9 (a := 9) rfl; have h10 := lv_neT d10 (a := 10) rfl; have h11 := lv_neT d11 (a := 11) rfl; have h12 := lv_neT d12 (a := 12) rfl; have h13 := lv_neT d13 (a := 13) rfl; have h14 := lv_neT d14 (a := 14) rfl; have h15 := lv_neT d15 (a := 15) rfl; have h16 := lv_neT d16 (a := 16) rfl; have h17 := lv_neT d17 (a := 17) rfl; have h18 := lv_neT d18 (a := 18) rfl; have h19 := lv_neT d19 (a := 19) rfl; have h20 := lv_neT d20 (a := 20) rfl; omega) (by decide) ?_
      exact kk z y hR _ _ M
