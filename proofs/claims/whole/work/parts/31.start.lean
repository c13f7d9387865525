theorem gM.perm {E : xE} {A : Nat → Prop} {H0 H : Heap} {Gs Gs' : List va_W} {locs : List Loc} (M : gM E A H0 Gs H locs) (h : Gs.flatten.Perm Gs'.flatten) : gM E A H0 Gs' H locs := by
  refine ⟨va_P_iff.mpr (fun q hq => va_P_iff.mp M.1 q (h.mem_iff.mpr hq)), va_D_nd.mpr ⟨?_, fun q hq => (va_D_nd.mp M.2.1).2 q (h.mem_iff.mpr hq)⟩, M.2.2.1, M.2.2.2⟩
  exact (h.map Prod.fst).nodup_iff.mp (va_D_nd.mp M.2.1).1
theorem perm8 {α : Type} (o T A S U L W H : List α) : (o ++ (T ++ (A ++ (S ++ (U ++ (L ++ (W ++ (H ++ [])))))))).Perm (o ++ (T ++ (S ++ (U ++ (H ++ (W ++ (L ++ (A ++ [])))))))) := by
  classical
  rw [List.perm_iff_count]
  intro a
  simp only [List.count_append]
  omega
set_option maxHeartbeats 4000000 in
set_option maxRecDepth 100000 in
theorem kE_of {s : State} {b : Nat} (hts : ∀ w ∈ lw_tbl, w.before #[Value.ref b] s = true) (hgv : (Jvm.Cond.and given_1 narrow_1).before #[Value.ref b] s = true) : ∃ E : xE, kE E (fun q : Nat => s.heap.size ≤ q) s s.heap := by
  have hs := flat_of_before _ hgv
  have hA : ∀ a : Nat, a < s.heap.size → ¬ (fun q : Nat => s.heap.size ≤ q) a := fun a h => Nat.not_le.mpr h
  obtain ⟨c0, i0, k0⟩ := u_known (C := RX0) (T := TX0) (N := 6) (n := 6) hts (by decide +kernel) (hts (.instantiable RX0 6) (by decide +kernel))
  obtain ⟨c1, i1, k1⟩ := u_known (C := RX1) (T := TX1) (N := 5) (n := 5) hts (by decide +kernel) (hts (.instantiable RX1 5) (by decide +kernel))
  obtain ⟨c2, i2, k2⟩ := u_known (C := RX2) (T := TX2) (N := 1) (n := 1) hts (by decide +kernel) (hts (.instantiable RX2 1) (by decide +kernel))
  obtain ⟨c3, i3, k3⟩ := u_known (C := RX3) (T := TX3) (N := 2) (n := 2) hts (by decide +kernel) (hts (.instantiable RX3 2) (by decide +kernel))
  obtain ⟨c4, i4, k4⟩ := u_known (C := RX4) (T := TX4) (N := 9) (n := 9) hts (by decide +kernel) (hts (.instantiable RX4 9) (by decide +kernel))
  obtain ⟨c5, i5, k5⟩ := u_known (C := RX5) (T := TX5) (N := 3) (n := 3) hts (by decide +kernel) (hts (.instantiable RX5 3) (by decide +kernel))
  obtain ⟨c6, i6, k6⟩ := u_known (C := RX6) (T := TX6) (N := 2) (n := 2) hts (by decide +kernel) (hts (.instantiable RX6 2) (by decide +kernel))
  obtain ⟨c7, i7, k7⟩ := u_known (C := RX7) (T := TX7) (N := 2) (n := 2) hts (by decide +kernel) (hts (.instantiable RX7 2) (by decide +kernel))
  obtain ⟨c8, i8, k8⟩ := u_known (C := RX8) (T := TX8) (N := 11) (n := 11) hts (by decide +kernel) (hts (.instantiable RX8 11) (by decide +kernel))
  obtain ⟨c9, i9, k9⟩ := u_known (C := RX9) (T := TX9) (N := 28) (n := 28) hts (by decide +kernel) (hts (.instantiable RX9 28) (by decide +kernel))
  obtain ⟨dC, dI, hKc⟩ : ∃ (dC : Nat → ClassId) (dI : Nat → Nat → Nat), ∀ (k : Nat) (q : vw_C), vwCl[k]? = some q → u_Kn s q.1 q.2.1 q.2.2 (dC k) (dI k) := by
    refine ⟨fun k => [c0, c1, c2, c3, c4, c5, c6, c7, c8, c9].getD k c0, fun k => [i0, i1, i2, i3, i4, i5, i6, i7, i8, i9].getD k i0, ?_⟩
    intro k q hq
    match k, hq with
    | 0, hq => cases hq; exact k0
    | 1, hq => cases hq; exact k1
    | 2, hq => cases hq; exact k2
    | 3, hq => cases hq; exact k3
    | 4, hq => cases hq; exact k4
    | 5, hq => cases hq; exact k5
    | 6, hq => cases hq; exact k6
    | 7, hq => cases hq; exact k7
    | 8, hq => cases hq; exact k8
    | 9, hq => cases hq; exact k9
    | k + 10, hq => simp [vwCl] at hq
  obtain ⟨cI, kI, pI, fI, hI, eI⟩ := Cond.arrayClass_spec (hts (.arrayClass .int) (by decide +kernel))
  obtain ⟨cJ, kJ, pJ, fJ, hJ, eJ⟩ := Cond.arrayClass_spec (hts (.arrayClass .long) (by decide +kernel))
  have aI : ArrOfT s cI .int := fun n z => ⟨fun k h => (by cases h), kI, hI, pI, eI⟩
  have aJ : ArrOfT s cJ .long := fun n z => ⟨fun k h => (by cases h), kJ, hJ, pJ, eJ⟩
  obtain ⟨adK, adV, hS, hT⟩ := vk_Sof (args := #[Value.ref b]) (s := s) (N := 5) (tm := fun i => .string RX8 (stI.getD i 0)) (len := stL) (byt := stB) (A := fun q : Nat => s.heap.size ≤ q) (by decide)
    (by intro i hi; match i, hi with | 0, _ => exact hs _ (by decide +kernel) | 1, _ => exact hs _ (by decide +kernel) | 2, _ => exact hs _ (by decide +kernel) | 3, _ => exact hs _ (by decide +kernel) | 4, _ => exact hs _ (by decide +kernel))
    (by intro i hi; match i, hi with | 0, _ => exact hs _ (by decide +kernel) | 1, _ => exact hs _ (by decide +kernel) | 2, _ => exact hs _ (by decide +kernel) | 3, _ => exact hs _ (by decide +kernel) | 4, _ => exact hs _ (by decide +kernel))
    (by intro i hi; match i, hi with | 0, _ => exact hs _ (by decide +kernel) | 1, _ => exact hs _ (by decide +kernel) | 2, _ => exact hs _ (by decide +kernel) | 3, _ => exact hs _ (by decide +kernel) | 4, _ => exact hs _ (by decide +kernel))
    (by intro i hi; match i, hi with | 0, _ => exact hs _ (by decide +kernel) | 1, _ => exact hs _ (by decide +kernel) | 2, _ => exact hs _ (by decide +kernel) | 3, _ => exact hs _ (by decide +kernel) | 4, _ => exact hs _ (by decide +kernel))
    (by
      intro i hi j hj
      match i, hi with
      | 0, _ =>
        match j, hj with
        | 0, _ => exact hs _ (by decide +kernel)
        | 1, _ => exact hs _ (by decide +kernel)
        | 2, _ => exact hs _ (by decide +kernel)
        | 3, _ => exact hs _ (by decide +kernel)
        | 4, _ => exact hs _ (by decide +kernel)
        | n + 5, h => exact absurd h (by rw [show stL.getD 0 0 = 5 from rfl]; omega)
      | 1, _ =>
        match j, hj with
        | 0, _ => exact hs _ (by decide +kernel)
        | 1, _ => exact hs _ (by decide +kernel)
        | 2, _ => exact hs _ (by decide +kernel)
        | 3, _ => exact hs _ (by decide +kernel)
        | 4, _ => exact hs _ (by decide +kernel)
        | n + 5, h => exact absurd h (by rw [show stL.getD 1 0 = 5 from rfl]; omega)
      | 2, _ =>
        match j, hj with
        | 0, _ => exact hs _ (by decide +kernel)
        | 1, _ => exact hs _ (by decide +kernel)
        | 2, _ => exact hs _ (by decide +kernel)
        | 3, _ => exact hs _ (by decide +kernel)
        | 4, _ => exact hs _ (by decide +kernel)
        | n + 5, h => exact absurd h (by rw [show stL.getD 2 0 = 5 from rfl]; omega)
      | 3, _ =>
        match j, hj with
        | 0, _ => exact hs _ (by decide +kernel)
        | 1, _ => exact hs _ (by decide +kernel)
        | 2, _ => exact hs _ (by decide +kernel)
        | 3, _ => exact hs _ (by decide +kernel)
        | 4, _ => exact hs _ (by decide +kernel)
        | n + 5, h => exact absurd h (by rw [show stL.getD 3 0 = 5 from rfl]; omega)
      | 4, _ =>
        match j, hj with
        | 0, _ => exact hs _ (by decide +kernel)
        | 1, _ => exact hs _ (by decide +kernel)
        | 2, _ => exact hs _ (by decide +kernel)
        | 3, _ => exact hs _ (by decide +kernel)
        | n + 4, h => exact absurd h (by rw [show stL.getD 4 0 = 4 from rfl]; omega))
    (by
      intro i j hi hj hne
      match i, hi, j, hj with
      | 0, _, 0, _ => exact absurd rfl hne
      | 0, _, 1, _ => exact Or.inr (hs _ (by decide +kernel))
      | 0, _, 2, _ => exact Or.inr (hs _ (by decide +kernel))
      | 0, _, 3, _ => exact Or.inr (hs _ (by decide +kernel))
      | 0, _, 4, _ => exact Or.inr (hs _ (by decide +kernel))
      | 1, _, 0, _ => exact Or.inl (hs _ (by decide +kernel))
      | 1, _, 1, _ => exact absurd rfl hne
      | 1, _, 2, _ => exact Or.inl (hs _ (by decide +kernel))
      | 1, _, 3, _ => exact Or.inl (hs _ (by decide +kernel))
      | 1, _, 4, _ => exact Or.inl (hs _ (by decide +kernel))
      | 2, _, 0, _ => exact Or.inl (hs _ (by decide +kernel))
      | 2, _, 1, _ => exact Or.inr (hs _ (by decide +kernel))
      | 2, _, 2, _ => exact absurd rfl hne
      | 2, _, 3, _ => exact Or.inl (hs _ (by decide +kernel))
      | 2, _, 4, _ => exact Or.inl (hs _ (by decide +kernel))
      | 3, _, 0, _ => exact Or.inl (hs _ (by decide +kernel))
      | 3, _, 1, _ => exact Or.inr (hs _ (by decide +kernel))
      | 3, _, 2, _ => exact Or.inr (hs _ (by decide +kernel))
      | 3, _, 3, _ => exact absurd rfl hne
      | 3, _, 4, _ => exact Or.inl (hs _ (by decide +kernel))
      | 4, _, 0, _ => exact Or.inl (hs _ (by decide +kernel))
      | 4, _, 1, _ => exact Or.inr (hs _ (by decide +kernel))
      | 4, _, 2, _ => exact Or.inr (hs _ (by decide +kernel))
      | 4, _, 3, _ => exact Or.inr (hs _ (by decide +kernel))
      | 4, _, 4, _ => exact absurd rfl hne) hA
  have hZ1 : va_Z "java/lang/String" "COMPACT_STRINGS" "Z" (.int 1) (fun q : Nat => s.heap.size ≤ q) s s.heap := va_Zof (hts _ (by decide +kernel)) (hts _ (by decide +kernel)) (va_eqt (hs _ (by decide +kernel))) hA
  have hZ2 : va_Zq "jdk/internal/util/Preconditions" "SIOOBE_FORMATTER" "Ljava/util/function/BiFunction;" (fun q : Nat => s.heap.size ≤ q) s s.heap := va_Zqof (hts _ (by decide +kernel)) (hts _ (by decide +kernel)) (hs _ (by decide +kernel)) hA
  have hR : ∀ i : Nat, i < 5 → vk_R RX8 (stI.getD i 0) (stT.getD i "") (adK i) s := by
    intro i hi
    have h2 := hT i hi
    match i, hi, h2 with
    | 0, _, h2 => exact vk_R.of (hts _ (by decide +kernel)) h2
    | 1, _, h2 => exact vk_R.of (hts _ (by decide +kernel)) h2
    | 2, _, h2 => exact vk_R.of (hts _ (by decide +kernel)) h2
    | 3, _, h2 => exact vk_R.of (hts _ (by decide +kernel)) h2
    | 4, _, h2 => exact vk_R.of (hts _ (by decide +kernel)) h2
  have hK : va_K (dC, dI) vwCl [(cI, .int), (cJ, .long)] s := by
    refine ⟨hKc, fun k q h => ?_⟩
    match k, h with
    | 0, h => cases h; exact ⟨aI, fI⟩
    | 1, h => cases h; exact ⟨aJ, fJ⟩
    | k + 2, h => simp at h
  rcases hZ2 with hZ2 | ⟨t, hZ2⟩
  · exact ⟨((dC, dI), cI, cJ, adK, adV, none), hK, hS, hR, hZ1, hZ2⟩
  · exact ⟨((dC, dI), cI, cJ, adK, adV, some t), hK, hS, hR, hZ1, hZ2⟩
theorem kN_of {s : State} {b : Nat} (hts : ∀ w ∈ lw_tbl, w.before #[Value.ref b] s = true) : kN s := ⟨va_Nw.of rfl (hts _ (by decide +kernel)), va_Nw.of rfl (hts _ (by decide +kernel)), va_Nw.of rfl (hts _ (by decide +kernel)), va_Nw.of rfl (hts _ (by decide +kernel)), va_Nw.of rfl (hts _ (by decide +kernel)), va_Nw.of rfl (hts _ (by decide +kernel)), va_Nw.of rfl (hts _ (by decide +kernel))⟩
def adL (h : Nat) (u : Nat → Nat) : List Nat := [h, u 0, u 7, u 8, u 1, u 9, u 14, u 10, u 15, u 11, u 16, u 12, u 17, u 13, u 18, u 2, u 19, u 27, u 20, u 28, u 21, u 29, u 22, u 30, u 23, u 31, u 24, u 32, u 25, u 33, u 26, u 34, u 3, u 4, u 35, u 37, u 36, u 38, u 5, u 39, u 40, u 6, u 41, u 42]
def adF (h : Nat) (u : Nat → Nat) : Nat → Nat := fun k => (adL h u).getD k 0
def amF (h : Nat) (u : Nat → Nat) : Nat → Nat := fun k => ([h, u 0, u 1, u 2, u 3, u 4, u 5, u 6, u 7, u 8, u 9, u 10, u 11]).getD k 0
set_option maxHeartbeats 4000000 in
set_option maxRecDepth 100000 in
theorem whole_start {p : Program} {e : Env} {s : State} {m : MethodId} {below : List Frame} {meth : Method} {c : Code} (l : Launch) (hflags : l.flags = flags0) {b L : Nat} {xs : Nat → Int32} (hL : L ≤ 2560) (C0 : lw_At p s m meth c b L xs) : W p l e room_1 s m #[Value.ref b] below meth c s.heap [] 0 0 (lw_Z below #[Value.ref b] s) (entryFrame m ([Value.ref b] : List Value).toArray 4) := by
  have C1 := C0
  obtain ⟨hx, hb, hr, hml, hown, hts0, hX, hbl, hlocks, hgv⟩ := C0
  have hts : ∀ w ∈ wsL_law, w.before #[Value.ref b] s = true := fun w h => hts0 w (wsL_law_in w h)
  have S : CallFix p m c cL_law 4 s #[Value.ref b] wsL_law RL := ⟨hx, hb, hml, hown, hts⟩
  obtain ⟨E, hE⟩ := kE_of hts0 hgv
  have hN : kN s := kN_of hts0
  have M : gM E (fun q : Nat => s.heap.size ≤ q) s.heap [] s.heap [] := ⟨fun k q h => by simp at h, ⟨fun i j p q h => by simp at h, fun k q h => by simp at h⟩, va_S.rf, fun _ h => h⟩
  obtain ⟨ls, hfr, hl⟩ := gst (m := m) (as := [.ref b]) (n := 4) (Nat.le_of_ble_eq_true rfl)
  rw [hfr]
  clear hfr
  have hl : lv_has ls 4 [(0, .ref b)] := hl
  refine gnew S hE M (C := RX8) (T := TX8) (N := 11) (ci := 8) (index := 7) (fs := [.null, .null, .null, .null, .null, .null, .null, .int 0, .int 0, .int 0, .int 0]) (by decide +kernel) tyX8 tyX8_ok (by decide +kernel) (by decide +kernel) (by decide +kernel) rfl (fun j hj => by match j, hj with | 0, _ => rfl | 1, _ => rfl | 2, _ => rfl | 3, _ => rfl | 4, _ => rfl | 5, _ => rfl | 6, _ => rfl | 7, _ => rfl | 8, _ => rfl | 9, _ => rfl | 10, _ => rfl | n + 11, h => exact absurd h (by omega)) (Nat.le_of_ble_eq_true rfl) (Nat.le_of_ble_eq_true rfl) dL_law_0 (fun q1 H M => ?_)
  have M : gM E (fun q : Nat => s.heap.size ≤ q) s.heap [[(q1, .inr (8, [.null, .null, .null, .null, .null, .null, .null, .int 0, .int 0, .int 0, .int 0]))]] H [] := M
  refine lv_dup S.1 S.2.1 dL_law_3 rfl ?_
  refine gcalln (F := fun ad => [[(q1, .inr (8, [.ref (ad 0), .ref (ad 1), .ref (ad 2), .ref (ad 3), .ref (ad 4), .ref (ad 5), .ref (ad 6), .int 0, .int 60, .int 0, .int 80]))], [((ad 0), .inr (6, [.ref (ad 7), .int 0]))], rowW E (ad 7) (ad 8) 8 (fun _ => 0), [((ad 1), .inr (0, [.ref (ad 9), .ref (ad 10), .ref (ad 11), .ref (ad 12), .ref (ad 13), .int 0]))], rowW E (ad 9) (ad 14) 300 (fun _ => 0), rowW E (ad 10) (ad 15) 120 (fun _ => 0), rowW E (ad 11) (ad 16) 120 (fun _ => 0), rowW E (ad 12) (ad 17) 120 (fun _ => 0), rowW E (ad 13) (ad 18) 120 (fun _ => 0), [((ad 2), .inr (4, [.ref (ad 19), .ref (ad 20), .ref (ad 21), .ref (ad 22), .ref (ad 23), .ref (ad 24), .ref (ad 25), .ref (ad 26), .int 0]))], rowW E (ad 19) (ad 27) 120 (fun _ => 0), rowW E (ad 20) (ad 28) 120 (fun _ => 0), rowW E (ad 21) (ad 29) 120 (fun _ => 0), rowW E (ad 22) (ad 30) 120 (fun _ => 0), rowW E (ad 23) (ad 31) 120 (fun _ => 0), rowW E (ad 24) (ad 32) 120 (fun _ => 0), rowW E (ad 25) (ad 33) 120 (fun _ => 0), rowW E (ad 26) (ad 34) 120 (fun _ => 0), [((ad 3), .inr (5, [.int 0, .int 0, .int 0]))], [((ad 4), .inr (1, [.ref (ad 35), .ref (ad 36), .int 0, .int 0, .int 1]))], rowW E (ad 35) (ad 37) 120 (fun _ => 0), rowW E (ad 36) (ad 38) 120 (fun _ => 0), [((ad 5), .inr (7, [.ref (ad 39), .int 0]))], rowW E (ad 39) (ad 40) 32 (fun _ => 0), [((ad 6), .inr (3, [.ref (ad 41), .int 0]))], rowW E (ad 41) (ad 42) 32 (fun _ => 0)]) (FM := fun ad => [[(q1, .inr (8, [.ref (ad 0), .ref (ad 1), .ref (ad 2), .ref (ad 3), .ref (ad 4), .ref (ad 5), .ref (ad 6), .int 0, .int 60, .int 0, .int 80]))], [((ad 0), .inr (6, [.ref (ad 7), .int 0]))], rowW E (ad 7) (ad 8) 8 (fun _ => 0), [((ad 1), .inr (0, [.ref (ad 9), .ref (ad 10), .ref (ad 11), .ref (ad 12), .ref (ad 13), .int 0]))], rowW E (ad 9) (ad 14) 300 (fun _ => 0), rowW E (ad 10) (ad 15) 120 (fun _ => 0), rowW E (ad 11) (ad 16) 120 (fun _ => 0), rowW E (ad 12) (ad 17) 120 (fun _ => 0), rowW E (ad 13) (ad 18) 120 (fun _ => 0), [((ad 2), .inr (4, [.ref (ad 19), .ref (ad 20), .ref (ad 21), .ref (ad 22), .ref (ad 23), .ref (ad 24), .ref (ad 25), .ref (ad 26), .int 0]))], rowW E (ad 19) (ad 27) 120 (fun _ => 0), rowW E (ad 20) (ad 28) 120 (fun _ => 0), rowW E (ad 21) (ad 29) 120 (fun _ => 0), rowW E (ad 22) (ad 30) 120 (fun _ => 0), rowW E (ad 23) (ad 31) 120 (fun _ => 0), rowW E (ad 24) (ad 32) 120 (fun _ => 0), rowW E (ad 25) (ad 33) 120 (fun _ => 0), rowW E (ad 26) (ad 34) 120 (fun _ => 0), [((ad 3), .inr (5, [.int 0, .int 0, .int 0]))], [((ad 4), .inr (1, [.ref (ad 35), .ref (ad 36), .int 0, .int 0, .int 1]))], rowW E (ad 35) (ad 37) 120 (fun _ => 0), rowW E (ad 36) (ad 38) 120 (fun _ => 0), [((ad 5), .inr (7, [.ref (ad 39), .int 0]))], rowW E (ad 39) (ad 40) 32 (fun _ => 0), [((ad 6), .inr (3, [.ref (ad 41), .int 0]))], rowW E (ad 41) (ad 42) 32 (fun _ => 0)]) (L := []) (Mid := [[(q1, .inr (8, [.null, .null, .null, .null, .null, .null, .null, .int 0, .int 0, .int 0, .int 0]))]]) (Rr := []) hE M rfl rfl (fun _ => rfl) (fun hgH => va_runI (As := []) (rest := [.ref q1]) S (c_X8_init l E q1 _) (cwI 0 S.2.2.2.2 gL_law_X8_init rfl rfl rfl (S.2.2.2.2 (.initialized RX8) (by decide +kernel)) (S.2.2.2.2 (.methodLink RL 9 yX8_init) (by decide +kernel)) (S.2.2.2.2 (.instanceMethod yX8_init) (by decide +kernel)) rfl kd_X8_init.2 ⟨(Nat.le_of_ble_eq_true rfl), (Nat.le_of_ble_eq_true rfl)⟩) ⟨kPN_blind, fun U hU hW => ⟨rfl, hgH.1 U hU hW, kN.warm hW hN⟩⟩ rfl rfl hl.1 rfl (lv_room (Nat.le_of_ble_eq_true rfl)) dL_law_4 ⟨(Nat.le_of_ble_eq_true rfl), (Nat.le_of_ble_eq_true rfl)⟩) (fun u H locs M => ?_)
  have M : gM E (fun q : Nat => s.heap.size ≤ q) s.heap (spcGs E (adF q1 u) z0) H locs := M.perm (perm8 (α := Nat × va_E) [(q1, .inr (8, [.ref (u 0), .ref (u 1), .ref (u 2), .ref (u 3), .ref (u 4), .ref (u 5), .ref (u 6), .int 0, .int 60, .int 0, .int 80]))] (tapW E (adF q1 u) z0.tp) (arrW E (adF q1 u) z0.ar) (spuW E (adF q1 u) z0.sp) (surW E (adF q1 u) z0.sg) (linW E (adF q1 u) z0.ln) (wisW E (adF q1 u) z0.wi) (sheW E (adF q1 u) z0.sh))
  refine lv_astore_n (lv' := [(1, .ref q1), (0, .ref b)]) S.1 S.2.1 dL_law_7 rfl hl (by decide) rfl (fun ls hl => ?_)
  refine gnew S hE M (C := RX9) (T := TX9) (N := 28) (ci := 9) (index := 10) (fs := [.null, .null, .int 0, .int 0, .int 0, .int 0, .int 0, .int 0, .null, .null, .null, .null, .int 0, .null, .null, .null, .null, .int 0, .int 0, .int 0, .null, .long 0, .long 0, .int 0, .int 0, .int 0, .null, .int 0]) (by decide +kernel) tyX9 tyX9_ok (by decide +kernel) (by decide +kernel) (by decide +kernel) rfl (fun j hj => by match j, hj with | 0, _ => rfl | 1, _ => rfl | 2, _ => rfl | 3, _ => rfl | 4, _ => rfl | 5, _ => rfl | 6, _ => rfl | 7, _ => rfl | 8, _ => rfl | 9, _ => rfl | 10, _ => rfl | 11, _ => rfl | 12, _ => rfl | 13, _ => rfl | 14, _ => rfl | 15, _ => rfl | 16, _ => rfl | 17, _ => rfl | 18, _ => rfl | 19, _ => rfl | 20, _ => rfl | 21, _ => rfl | 22, _ => rfl | 23, _ => rfl | 24, _ => rfl | 25, _ => rfl | 26, _ => rfl | 27, _ => rfl | n + 28, h => exact absurd h (by omega)) (Nat.le_of_ble_eq_true rfl) (Nat.le_of_ble_eq_true rfl) dL_law_8 (fun q2 H M => ?_)
  refine lv_dup S.1 S.2.1 dL_law_11 rfl ?_
  refine gcalln (F := fun ad => [[(q2, .inr (9, [.ref (ad 0), .ref (ad 1), .int 0, .int 0, .int 60, .int 0, .int 80, .int 0, .ref (ad 2), .ref (ad 3), .ref (ad 4), .ref (ad 5), .int 0, .ref (ad 6), .ref (ad 7), .ref (ad 8), .ref (ad 9), .int 0, .int 0, .int 0, .ref (ad 10), .long 0, .long 0, .int 0, .int 0, .int 0, .ref (ad 11), .int 0]))], [((ad 0), .inl (xI E, 25, .inl (upd (upd (upd (upd (upd (upd (upd (upd (upd (upd (upd (upd (upd (upd (upd (upd (upd (upd (upd (upd (upd (upd (upd (upd (upd (fun _ => 0) 0 102) 1 105) 2 120) 3 101) 4 100) 5 115) 6 104) 7 97) 8 114) 9 101) 10 115) 11 112) 12 105) 13 107) 14 101) 15 100) 16 114) 17 105) 18 102) 19 116) 20 109) 21 101) 22 97) 23 110) 24 0)))], [((ad 1), .inl (xI E, 8, .inl (fun _ => 0)))], [((ad 2), .inl (xI E, 120, .inl (fun _ => 0)))], [((ad 3), .inl (xI E, 120, .inl (fun _ => 0)))], [((ad 4), .inl (xI E, 120, .inl (fun _ => 0)))], [((ad 5), .inl (xI E, 300, .inl (cal 300 0 (fun _ => 0))))], [((ad 6), .inl (xI E, 120, .inl (fun _ => 0)))], [((ad 7), .inl (xI E, 120, .inl (fun _ => 0)))], [((ad 8), .inl (xI E, 120, .inl (fun _ => 0)))], [((ad 9), .inl (xI E, 120, .inl (fun _ => 0)))], [((ad 10), .inl (xJ E, 120, .inr (.inl (fun _ => 0))))], [((ad 11), .inl (xI E, 400, .inl (fun _ => 0)))]]) (FM := fun v => modGs E (amF q2 v) (yOf ca0)) (L := spcGs E (adF q1 u) z0) (Mid := [[(q2, .inr (9, [.null, .null, .int 0, .int 0, .int 0, .int 0, .int 0, .int 0, .null, .null, .null, .null, .int 0, .null, .null, .null, .null, .int 0, .int 0, .int 0, .null, .long 0, .long 0, .int 0, .int 0, .int 0, .null, .int 0]))]]) (Rr := []) hE M rfl rfl (fun _ => rfl) (fun hgH => va_runI (As := []) (rest := [.ref q2]) S (c_X9_init l E q2 _) (cwI 0 S.2.2.2.2 gL_law_X9_init rfl rfl rfl (S.2.2.2.2 (.initialized RX9) (by decide +kernel)) (S.2.2.2.2 (.methodLink RL 12 yX9_init) (by decide +kernel)) (S.2.2.2.2 (.instanceMethod yX9_init) (by decide +kernel)) rfl kd_X9_init.2 ⟨(Nat.le_of_ble_eq_true rfl), (Nat.le_of_ble_eq_true rfl)⟩) hgH.S rfl rfl hl.1 rfl (lv_room (Nat.le_of_ble_eq_true rfl)) dL_law_12 ⟨(Nat.le_of_ble_eq_true rfl), (Nat.le_of_ble_eq_true rfl)⟩) (fun v H locs M => ?_)
  rw [List.append_nil] at M
  refine lv_astore_n (lv' := [(2, .ref q2), (1, .ref q1), (0, .ref b)]) S.1 S.2.1 dL_law_15 rfl hl (by decide) rfl (fun ls hl => ?_)
  refine lv_iconst (v := 0) S.1 S.2.1 dL_law_16 (by decide) ?_
  refine lv_istore_n (lv' := [(3, .int 0), (2, .ref q2), (1, .ref q1), (0, .ref b)]) S.1 S.2.1 dL_law_17 rfl hl (by decide) rfl (fun ls hl => ?_)
  exact law_loop (ad := adF q1 u) (am := amF q2 v) hL C1 hE (L + 1) 0 (Nat.zero_le _) (by omega) z0 (yOf ca0) (rel0 ca0 (fun n hn => ca0_at hn)) H locs M ls (lv_sub hl [3, 2, 1, 0] rfl)
