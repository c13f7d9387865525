/-! Rows for constructors: a new object, a new row of ints or longs; the nest's own links. -/
section GN
variable {p : Program} {l : Launch} {e : Env} {R : Room} {s : State} {m : MethodId} {args : Array Value} {below : List Frame} {meth : Method} {c : Code} {H : Heap} {locs : List Loc} {cells slots : Nat} {Q : State → Prop}
variable {cc : ByteArray} {nL pc : Nat} {ls : Array Slot} {rest : List Value} {A : Nat → Prop} {E : xE} {Gs : List va_W} {own : String} {Ts : List Cond}
theorem gM.push {H1 : Heap} {locs1 : List Loc} {x : Nat × va_E} (M : gM E A s.heap Gs H locs) (h1 : va_P (xD E) vwCl (Gs.flatten ++ [x]) H1) (h2 : va_D A (Gs.flatten ++ [x])) (h3 : va_S A s.heap H1 locs1) : gM E A s.heap (Gs ++ [[x]]) H1 locs1 := by
  have e : (Gs ++ [[x]]).flatten = Gs.flatten ++ [x] := by rw [List.flatten_append]; rfl
  exact ⟨by rw [e]; exact h1, by rw [e]; exact h2, h3, M.2.2.2⟩
theorem gnew (S : CallFix p m c cc nL s args Ts own) (hE : kE E A s s.heap) (M : gM E A s.heap Gs H locs) {C : String} {T : u_T} {N ci index : Nat} (hin : ∀ w ∈ u_ws C T N, w ∈ Ts) (ty : Nat → FieldType) (hty : ∀ k, k < N → parseFieldDescriptor (T k).2.2.1 = some (ty k)) (hcl : Cond.classLink own index C ∈ Ts) (hinst : Cond.instantiable C N ∈ Ts) (hini : Cond.initialized C ∈ Ts) (hc : vwCl[ci]? = some (C, T, N)) {fs : List Value} (hfs : ∀ j, j < N → defaultValue (ty j) = vp_V fs j) (hcells : cells + 1 ≤ R.cells) (hslots : slots + N ≤ R.slots) (hdg : decode cc pc = .ok (.new index, 3))
    (kk : ∀ (q : Nat) (H1 : Heap), gM E A s.heap (Gs ++ [[(q, .inr (ci, fs))]]) H1 locs → W p l e R s m args below meth c H1 locs (cells + 1) (slots + N) Q (F0 m (pc + 3) ls (.ref q :: rest))) : W p l e R s m args below meth c H locs cells slots Q (F0 m pc ls rest) :=
  va_new S.1 S.2.1 S.2.2.2.2 hin ty hty S.2.2.2.1 (S.2.2.2.2 _ hcl) (S.2.2.2.2 _ hinst) (S.2.2.2.2 _ hini) hE.1 M.1 M.2.1 M.2.2.1 M.2.2.2 hc hfs hcells hslots hdg (fun q H1 h1 h2 h3 => kk q H1 (M.push h1 h2 h3))
theorem gnewi (S : CallFix p m c cc nL s args Ts own) (hE : kE E A s s.heap) (M : gM E A s.heap Gs H locs) (hac : Cond.arrayClass .int ∈ Ts) {N : Nat} (hN : N ≤ 400) (hcells : cells + 1 ≤ R.cells) (hslots : slots + N ≤ R.slots) (hdg : decode cc pc = .ok (.newarray .int, 2))
    (kk : ∀ (q : Nat) (H1 : Heap), gM E A s.heap (Gs ++ [[(q, .inl (xI E, N, .inl (fun _ => 0)))]]) H1 locs → W p l e R s m args below meth c H1 locs (cells + 1) (slots + N) Q (F0 m (pc + 2) ls (.ref q :: rest))) : W p l e R s m args below meth c H locs cells slots Q (F0 m pc ls (.int (nI N) :: rest)) := by
  refine va_newa (atype := .int) (ty := .int) (a0 := (N, .inl (fun _ => 0))) S.1 S.2.1 (S.2.2.2.2 _ hac) rfl hE.1 M.1 M.2.1 M.2.2.1 M.2.2.2 (fun cA => rfl) (nI_pos (by omega)) (nI_clamp (by omega)) (show N * 4 ≤ 536870912 by omega) hcells hslots hdg (fun q cA H1 hK h1 h2 h3 => ?_)
  have e1 := (hK.2 2 (cA, .int) rfl).2
  have e2 := (hK.2 0 (xI E, .int) rfl).2
  have e3 : cA = xI E := Option.some.inj (Eq.trans (Eq.symm e1) e2)
  subst e3
  exact kk q H1 (M.push h1 h2 h3)
theorem gnewl (S : CallFix p m c cc nL s args Ts own) (hE : kE E A s s.heap) (M : gM E A s.heap Gs H locs) (hac : Cond.arrayClass .long ∈ Ts) {N : Nat} (hN : N ≤ 400) (hcells : cells + 1 ≤ R.cells) (hslots : slots + N ≤ R.slots) (hdg : decode cc pc = .ok (.newarray .long, 2))
    (kk : ∀ (q : Nat) (H1 : Heap), gM E A s.heap (Gs ++ [[(q, .inl (xJ E, N, .inr (.inl (fun _ => 0))))]]) H1 locs → W p l e R s m args below meth c H1 locs (cells + 1) (slots + N) Q (F0 m (pc + 2) ls (.ref q :: rest))) : W p l e R s m args below meth c H locs cells slots Q (F0 m pc ls (.int (nI N) :: rest)) := by
  refine va_newa (atype := .long) (ty := .long) (a0 := (N, .inr (.inl (fun _ => 0)))) S.1 S.2.1 (S.2.2.2.2 _ hac) rfl hE.1 M.1 M.2.1 M.2.2.1 M.2.2.2 (fun cA => rfl) (nI_pos (by omega)) (nI_clamp (by omega)) (show N * 8 ≤ 536870912 by omega) hcells hslots hdg (fun q cA H1 hK h1 h2 h3 => ?_)
  have e1 := (hK.2 2 (cA, .long) rfl).2
  have e2 := (hK.2 1 (xJ E, .long) rfl).2
  have e3 : cA = xJ E := Option.some.inj (Eq.trans (Eq.symm e1) e2)
  subst e3
  exact kk q H1 (M.push h1 h2 h3)
theorem gobj (S : CallFix p m c cc nL s args Ts own) (hl : ls.size = nL) {idx : Nat} {a : Nat} (h1 : Cond.methodLink own idx objectInit ∈ Ts) (h2 : Cond.instanceMethod objectInit ∈ Ts) (h3 : Cond.code objectInit ⟨#[0xb1]⟩ 1 none ∈ Ts) (hd : decode cc pc = .ok (.invokespecial idx, 3)) (hframes : 1 ≤ R.frames) (hlocals : 2 * (F0 m pc ls (.ref a :: rest)).monitorRoom + (rest.map fun v => v.category).sum + 12 ≤ R.locals)
    (kk : W p l e R s m args below meth c H locs cells slots Q (F0 m (pc + 3) ls rest)) : W p l e R s m args below meth c H locs cells slots Q (F0 m pc ls (.ref a :: rest)) :=
  W.objInit S.1 S.2.1 S.2.2.2.1 (S.2.2.2.2 _ h1) (S.2.2.2.2 _ h2) (S.2.2.2.2 _ h3) rfl (hl.trans S.2.2.1.symm) rfl hd hframes hlocals kk
end GN
/-- the nest's links that the clock's constructor takes -/
def kN (U : State) : Prop := va_Nw (.methodLinkNest RX8 11 yX6_init RX8) U ∧ va_Nw (.methodLinkNest RX8 20 yX0_init RX8) U ∧ va_Nw (.methodLinkNest RX8 27 yX4_init RX8) U ∧ va_Nw (.methodLinkNest RX8 34 yX5_init RX8) U ∧ va_Nw (.methodLinkNest RX8 41 yX1_init RX8) U ∧ va_Nw (.methodLinkNest RX8 48 yX7_init RX8) U ∧ va_Nw (.methodLinkNest RX8 55 yX3_init RX8) U
theorem kN.warm {s U : State} (hW : s.WarmedH U.vm) (h : kN s) : kN U := ⟨va_Nw.warmM hW h.1, va_Nw.warmM hW h.2.1, va_Nw.warmM hW h.2.2.1, va_Nw.warmM hW h.2.2.2.1, va_Nw.warmM hW h.2.2.2.2.1, va_Nw.warmM hW h.2.2.2.2.2.1, va_Nw.warmM hW h.2.2.2.2.2.2⟩
theorem kN.same {u U : State} (hv : u.vm = U.vm) (h : kN u) : kN U := ⟨va_Nw.same rfl hv h.1, va_Nw.same rfl hv h.2.1, va_Nw.same rfl hv h.2.2.1, va_Nw.same rfl hv h.2.2.2.1, va_Nw.same rfl hv h.2.2.2.2.1, va_Nw.same rfl hv h.2.2.2.2.2.1, va_Nw.same rfl hv h.2.2.2.2.2.2⟩
def kPN (E : xE) (Gs : List va_W) (sz : Nat) : State → Prop := fun U => kP E Gs sz U ∧ kN U
theorem kPN_blind {E : xE} {Gs : List va_W} {sz : Nat} {av : List Value} : FrameBlind (va_Pc av (kPN E Gs sz)) := by
  intro a U g mk h
  exact ⟨h.1, (kP_blind a U g mk ⟨h.1, h.2.1⟩).2, kN.same (u := U) rfl h.2.2⟩
def xrmN (f c n k : Nat) : Room := { frames := f, cells := c, slots := n, locals := k }
