/-! THE BASE LAYER: worlds in groups, contracts whose answer and new world are told outright, calls in one row. -/
/-- the launch's constants: numbers of classes and slots, the classes of int[] and long[], the texts' addresses, the formatter's value -/
abbrev xE : Type := va_G × ClassId × ClassId × (Nat → Nat) × (Nat → Nat) × Option Nat
def xD (E : xE) : va_G := E.1
def xI (E : xE) : ClassId := E.2.1
def xJ (E : xE) : ClassId := E.2.2.1
def xK (E : xE) : Nat → Nat := E.2.2.2.1
def xV (E : xE) : Nat → Nat := E.2.2.2.2.1
def xF (E : xE) : Option Nat := E.2.2.2.2.2
abbrev xT (E : xE) : List (ClassId × FieldType) := [(xI E, .int), (xJ E, .long)]
def stL : List Nat := [5, 5, 5, 5, 4]
def stB : List (List Int32) := [[102, 105, 120, 101, 100], [115, 104, 97, 114, 101], [115, 112, 105, 107, 101], [100, 114, 105, 102, 116], [109, 101, 97, 110]]
def stI : List Nat := [244, 236, 238, 240, 242]
def stT : List String := ["fixed", "share", "spike", "drift", "mean"]
/-- what every method takes as given: the tables' numbers, the texts, two statics -/
def kE (E : xE) (A : Nat → Prop) (U : State) (H : Heap) : Prop :=
  va_K (xD E) vwCl (xT E) U ∧ vk_S 5 stL stB (xK E) (xV E) A U H ∧ (∀ i : Nat, i < 5 → vk_R RX8 (stI.getD i 0) (stT.getD i "") (xK E i) U) ∧ va_Z "java/lang/String" "COMPACT_STRINGS" "Z" (.int 1) A U H ∧ va_Z "jdk/internal/util/Preconditions" "SIOOBE_FORMATTER" "Ljava/util/function/BiFunction;" (va_rf (xF E)) A U H
theorem kE.kept {E : xE} {A : Nat → Prop} {U : State} {H H1 : Heap} (h : kE E A U H) (hq : ∀ a : Nat, a < H.size → ¬ A a → H1[a]? = H[a]?) : kE E A U H1 :=
  ⟨h.1, h.2.1.kept hq, h.2.2.1, h.2.2.2.1.kept hq, h.2.2.2.2.kept hq⟩
theorem kE.narrow {E : xE} {A B : Nat → Prop} {U : State} {H : Heap} (h : kE E A U H) (hq : ∀ q, B q → A q) : kE E B U H :=
  ⟨h.1, h.2.1.narrow hq, h.2.2.1, h.2.2.2.1.narrow hq, h.2.2.2.2.narrow hq⟩
theorem kE.warm {E : xE} {A : Nat → Prop} {s U : State} {H : Heap} (hW : s.WarmedH U.vm) (h : kE E A s H) : kE E A U H :=
  ⟨va_K.moved hW.alike h.1, vk_S.moved hW.alike h.2.1, fun i hi => vk_R.warm hW (h.2.2.1 i hi), va_Z.moved hW.alike h.2.2.2.1, va_Z.moved hW.alike h.2.2.2.2⟩
theorem kE.same {E : xE} {A : Nat → Prop} {u U : State} {H : Heap} (hv : U.vm = u.vm) (h : kE E A u H) : kE E A U H := by
  have ha : u.vm.Alike U.vm := by rw [hv]; exact Vm.Alike.refl _
  exact ⟨va_K.moved ha h.1, vk_S.moved ha h.2.1, fun i hi => vk_R.same hv (h.2.2.1 i hi), va_Z.moved ha h.2.2.2.1, va_Z.moved ha h.2.2.2.2⟩
/-- a contract's start and end -/
def kP (E : xE) (Gs : List va_W) (sz : Nat) : State → Prop := fun U => U.heap.size = sz ∧ va_P (xD E) vwCl Gs.flatten U.heap ∧ va_D (fun _ => True) Gs.flatten ∧ kE E (va_A Gs.flatten sz) U U.heap
def kQ (E : xE) (A : Nat → Prop) (Gs : List va_W) : State → Prop := fun t => va_P (xD E) vwCl Gs.flatten t.heap ∧ va_D A Gs.flatten
theorem kP_blind {E : xE} {Gs : List va_W} {sz : Nat} {av : List Value} : FrameBlind (va_Pc av (kP E Gs sz)) := by
  intro a U g mk h
  obtain ⟨h0, h1, h2, h3, h4⟩ := h
  exact ⟨h0, h1, h2, h3, kE.same (u := U) rfl h4⟩
def xrm (f n : Nat) : Room := { frames := f, cells := 0, slots := 0, locals := n }
/-- the answer is an int, a long, a reference, nothing; no cell is made -/
def mI (l : Launch) (y : MethodName) (w : List Cond) (rm : Room) (E : xE) (as : List Value) (Gs : List va_W) (r : Int32) (Gs' : List va_W) : Prop :=
  ∀ sz : Nat, Met l y w rm (va_Pc as (kP E Gs sz)) (va_Qi (fun x (_ : Unit) => x = r) (fun _ => kQ E (va_A Gs.flatten sz) Gs') (va_A Gs.flatten sz)) 0 0 (va_A Gs.flatten sz)
def mL (l : Launch) (y : MethodName) (w : List Cond) (rm : Room) (E : xE) (as : List Value) (Gs : List va_W) (r : Int64) (Gs' : List va_W) : Prop :=
  ∀ sz : Nat, Met l y w rm (va_Pc as (kP E Gs sz)) (va_Ql (fun x (_ : Unit) => x = r) (fun _ => kQ E (va_A Gs.flatten sz) Gs') (va_A Gs.flatten sz)) 0 0 (va_A Gs.flatten sz)
def mV (l : Launch) (y : MethodName) (w : List Cond) (rm : Room) (E : xE) (as : List Value) (Gs : List va_W) (Gs' : List va_W) : Prop :=
  ∀ sz : Nat, Met l y w rm (va_Pc as (kP E Gs sz)) (va_Qv (fun (_ : Unit) => True) (fun _ => kQ E (va_A Gs.flatten sz) Gs') (va_A Gs.flatten sz)) 0 0 (va_A Gs.flatten sz)
def mR (l : Launch) (y : MethodName) (w : List Cond) (rm : Room) (E : xE) (as : List Value) (Gs : List va_W) (r : Nat) (Gs' : List va_W) : Prop :=
  ∀ sz : Nat, Met l y w rm (va_Pc as (kP E Gs sz)) (va_Qr (fun (_ : Unit) => True) (fun _ a t => a = r ∧ kQ E (va_A Gs.flatten sz) Gs' t) (va_A Gs.flatten sz)) 0 0 (va_A Gs.flatten sz)
/-- a constructor: its world behind it is one of a family (new addresses) -/
def mN (l : Launch) (y : MethodName) (w : List Cond) (rm : Room) (E : xE) (as : List Value) (Gs : List va_W) (mc ms : Nat) (F : (Nat → Nat) → List va_W) : Prop :=
  ∀ sz : Nat, Met l y w rm (va_Pc as (kP E Gs sz)) (va_Qv (fun (_ : Nat → Nat) => True) (fun ad => kQ E (va_A Gs.flatten sz) (F ad)) (va_A Gs.flatten sz)) mc ms (va_A Gs.flatten sz)
/-- the memory in the midst of a method -/
def gM (E : xE) (A : Nat → Prop) (H0 : Heap) (Gs : List va_W) (H : Heap) (locs : List Loc) : Prop :=
  va_P (xD E) vwCl Gs.flatten H ∧ va_D A Gs.flatten ∧ va_S A H0 H locs ∧ ∀ q, H0.size ≤ q → A q
theorem va_P_iff {D : va_G} {cl : List vw_C} {ws : va_W} {H : Heap} : va_P D cl ws H ↔ ∀ q ∈ ws, va_at D cl q H :=
  ⟨fun h q hq => by obtain ⟨k, hk⟩ := List.mem_iff_getElem?.mp hq; exact h k q hk, fun h _ q hk => h q (List.mem_of_getElem? hk)⟩
theorem va_D_nd {A : Nat → Prop} {ws : va_W} : va_D A ws ↔ (ws.map Prod.fst).Nodup ∧ ∀ q ∈ ws, A q.1 := by
  constructor
  · intro h
    refine ⟨?_, fun q hq => by obtain ⟨k, hk⟩ := List.mem_iff_getElem?.mp hq; exact h.2 k q hk⟩
    rw [List.nodup_iff_pairwise_ne, List.pairwise_iff_getElem]
    intro i j hi hj hij he
    rw [List.length_map] at hi hj
    rw [List.getElem_map, List.getElem_map] at he
    have := h.1 i j _ _ (List.getElem?_eq_getElem hi) (List.getElem?_eq_getElem hj) he
    omega
  · intro h
    refine ⟨?_, fun k q hk => h.2 q (List.mem_of_getElem? hk)⟩
    intro i j p q hi hj he
    have h1 := h.1
    rw [List.nodup_iff_pairwise_ne, List.pairwise_iff_getElem] at h1
    obtain ⟨li, ei⟩ := List.getElem?_eq_some_iff.mp hi
    obtain ⟨lj, ej⟩ := List.getElem?_eq_some_iff.mp hj
    rcases Nat.lt_trichotomy i j with h2 | h2 | h2
    · exact absurd (by rw [List.getElem_map, List.getElem_map, ei, ej]; exact he) (h1 i j (by rw [List.length_map]; exact li) (by rw [List.length_map]; exact lj) h2)
    · exact h2
    · exact absurd (by rw [List.getElem_map, List.getElem_map, ei, ej]; exact he.symm) (h1 j i (by rw [List.length_map]; exact lj) (by rw [List.length_map]; exact li) h2)
theorem va_A_iff {ws : va_W} {sz q : Nat} : va_A ws sz q ↔ (∃ x ∈ ws, x.1 = q) ∨ sz ≤ q := by
  constructor
  · rintro (⟨k, e, h⟩ | h)
    · exact Or.inl ⟨_, List.mem_of_getElem? h, rfl⟩
    · exact Or.inr h
  · rintro (⟨x, hx, e⟩ | h)
    · obtain ⟨k, hk⟩ := List.mem_iff_getElem?.mp hx
      exact Or.inl ⟨k, x.2, by rw [hk, ← e]⟩
    · exact Or.inr h
/-- the callee's groups out of the caller's -/
theorem gM.cut {E : xE} {A : Nat → Prop} {H0 H : Heap} {locs : List Loc} {Gs L Mid R Gc : List va_W} (M : gM E A H0 Gs H locs) (hG : Gs = L ++ (Mid ++ R)) (hm : Mid.flatten = Gc.flatten) :
    va_P (xD E) vwCl Gc.flatten H ∧ va_D (fun _ => True) Gc.flatten ∧ ∀ q, va_A Gc.flatten H.size q → A q := by
  obtain ⟨hP, hD, hS, hA⟩ := M
  subst hG
  rw [List.flatten_append, List.flatten_append, hm] at hP hD
  rw [va_P_iff] at hP
  rw [va_D_nd, List.map_append, List.map_append] at hD
  refine ⟨va_P_iff.mpr fun q hq => hP q (List.mem_append_right _ (List.mem_append_left _ hq)), va_D_nd.mpr ⟨(List.nodup_append.mp (List.nodup_append.mp hD.1).2.1).1, fun _ _ => trivial⟩, fun q hq => ?_⟩
  rcases va_A_iff.mp hq with ⟨x, hx, e⟩ | h
  · rw [← e]; exact hD.2 x (List.mem_append_right _ (List.mem_append_left _ hx))
  · exact hA q (Nat.le_trans hS.1 h)
/-- behind a call: the callee's new groups in the place of its old ones -/
theorem gM.join {E : xE} {A : Nat → Prop} {H0 H H1 : Heap} {locs locs1 : List Loc} {Gs L Mid R Gc Mid' Gc' : List va_W} (M : gM E A H0 Gs H locs) (hG : Gs = L ++ (Mid ++ R)) (hm : Mid.flatten = Gc.flatten) (hm' : Mid'.flatten = Gc'.flatten)
    (hk : ∀ q : Nat, q < H.size → ¬ va_A Gc.flatten H.size q → H1[q]? = H[q]?) (hP1 : va_P (xD E) vwCl Gc'.flatten H1) (hD1 : va_D (va_A Gc.flatten H.size) Gc'.flatten) (hS1 : va_S A H0 H1 locs1) : gM E A H0 (L ++ (Mid' ++ R)) H1 locs1 := by
  obtain ⟨-, -, hF⟩ := M.cut hG hm
  obtain ⟨hP, hD, hS, hA⟩ := M
  subst hG
  rw [List.flatten_append, List.flatten_append, hm] at hP hD
  rw [va_P_iff] at hP hP1
  rw [va_D_nd, List.map_append, List.map_append] at hD
  rw [va_D_nd] at hD1
  obtain ⟨hN, hIn⟩ := hD
  obtain ⟨nL, nMR, dLMR⟩ := List.nodup_append.mp hN
  obtain ⟨nM, nR, dMR⟩ := List.nodup_append.mp nMR
  have keepL : ∀ q ∈ L.flatten, q.1 < H.size ∧ ¬ va_A Gc.flatten H.size q.1 := by
    intro q hq
    have hl := (hP q (List.mem_append_left _ hq)).lt
    refine ⟨hl, fun h => ?_⟩
    rcases va_A_iff.mp h with ⟨x, hx, e⟩ | h
    · exact dLMR q.1 (List.mem_map_of_mem hq) x.1 (List.mem_append_left _ (List.mem_map_of_mem hx)) e.symm
    · omega
  have keepR : ∀ q ∈ R.flatten, q.1 < H.size ∧ ¬ va_A Gc.flatten H.size q.1 := by
    intro q hq
    have hl := (hP q (List.mem_append_right _ (List.mem_append_right _ hq))).lt
    refine ⟨hl, fun h => ?_⟩
    rcases va_A_iff.mp h with ⟨x, hx, e⟩ | h
    · exact dMR x.1 (List.mem_map_of_mem hx) q.1 (List.mem_map_of_mem hq) e
    · omega
  refine ⟨?_, ?_, hS1, hA⟩
  · rw [List.flatten_append, List.flatten_append, hm', va_P_iff]
    intro q hq
    rcases List.mem_append.mp hq with h | h
    · obtain ⟨g1, g2⟩ := keepL q h
      exact (hP q (List.mem_append_left _ h)).kept (hk q.1 g1 g2)
    · rcases List.mem_append.mp h with h | h
      · exact hP1 q h
      · obtain ⟨g1, g2⟩ := keepR q h
        exact (hP q (List.mem_append_right _ (List.mem_append_right _ h))).kept (hk q.1 g1 g2)
  · rw [List.flatten_append, List.flatten_append, hm', va_D_nd, List.map_append, List.map_append]
    refine ⟨List.nodup_append.mpr ⟨nL, List.nodup_append.mpr ⟨hD1.1, nR, ?_⟩, ?_⟩, ?_⟩
    · intro a ha b hb e
      obtain ⟨x, hx, ex⟩ := List.mem_map.mp ha
      obtain ⟨y, hy, ey⟩ := List.mem_map.mp hb
      have := hD1.2 x hx
      rw [ex, e, ← ey] at this
      exact (keepR y hy).2 this
    · intro a ha b hb e
      obtain ⟨x, hx, ex⟩ := List.mem_map.mp ha
      rcases List.mem_append.mp hb with h | h
      · obtain ⟨y, hy, ey⟩ := List.mem_map.mp h
        have := hD1.2 y hy
        rw [ey, ← e, ← ex] at this
        exact (keepL x hx).2 this
      · exact dLMR a ha b (List.mem_append_right _ h) e
    · intro q hq
      rcases List.mem_append.mp hq with h | h
      · exact hIn q (List.mem_append_left _ h)
      · rcases List.mem_append.mp h with h | h
        · exact hF _ (hD1.2 q h)
        · exact hIn q (List.mem_append_right _ (List.mem_append_right _ h))
/-- what a callee takes as given, out of what the caller has -/
theorem gM.pre {E : xE} {A : Nat → Prop} {s : State} {H : Heap} {locs : List Loc} {Gs L Mid R Gc : List va_W} (hE : kE E A s s.heap) (M : gM E A s.heap Gs H locs) (hG : Gs = L ++ (Mid ++ R)) (hm : Mid.flatten = Gc.flatten) {U : State} (hU : U.heap = H) (hW : s.WarmedH U.vm) : kP E Gc H.size U := by
  obtain ⟨h1, h2, h3⟩ := M.cut hG hm
  refine ⟨by rw [hU], by rw [hU]; exact h1, h2, ?_⟩
  rw [hU]
  exact kE.warm hW ((hE.kept M.2.2.1.2.1).narrow h3)
/-- what a call stands on -/
def gH (E : xE) (s : State) (H : Heap) (Gc : List va_W) : Prop := (∀ U : State, U.heap = H → s.WarmedH U.vm → kP E Gc H.size U) ∧ va_P (xD E) vwCl Gc.flatten H
theorem gH.S {E : xE} {s : State} {H : Heap} {Gc : List va_W} {As : List Value} (h : gH E s H Gc) : PreS s H (va_Pc As (kP E Gc H.size)) As :=
  ⟨kP_blind, fun _ hU hW => ⟨rfl, h.1 _ hU hW⟩⟩
theorem gH.V {E : xE} {A : Nat → Prop} {s : State} {H : Heap} {Gc : List va_W} {As : List Value} {b ci : Nat} {q : vw_C} {fs : List Value} (h : gH E s H Gc) (hE : kE E A s s.heap) (hc : vwCl[ci]? = some q) (he : Gc.flatten[0]? = some (b, .inr (ci, fs))) : PreV s H q.1 b (va_Pc (.ref b :: As) (kP E Gc H.size)) As :=
  ⟨kP_blind, va_recv hE.1 h.2 hc he, fun _ hU hW => ⟨rfl, h.1 _ hU hW⟩⟩
theorem gH.T {E : xE} {A : Nat → Prop} {s : State} {H : Heap} {locs : List Loc} {Gc : List va_W} {As : List Value} {k : Nat} (h : gH E s H Gc) (hE : kE E A s s.heap) (hk : k < 5) (hS : va_S A s.heap H locs) : PreV s H RJ0 (xK E k) (va_Pc (.ref (xK E k) :: As) (kP E Gc H.size)) As :=
  ⟨kP_blind, vk_recv hE.2.1 hk hS, fun _ hU hW => ⟨rfl, h.1 _ hU hW⟩⟩
section GC
variable {p : Program} {l : Launch} {e : Env} {R : Room} {s : State} {m : MethodId} {args : Array Value} {below : List Frame} {meth : Method} {c : Code} {H : Heap} {locs : List Loc} {cells slots : Nat} {Q : State → Prop}
variable {pc : Nat} {ls : Array Slot} {rest st0 : List Value} {a : Array Value} {A : Nat → Prop} {mc ms : Nat} {E : xE} {Gs L Mid Rr Gc Mid' Gc' : List va_W}
theorem gcalli {r : Int32} (hE : kE E A s s.heap) (M : gM E A s.heap Gs H locs) (hG : Gs = L ++ (Mid ++ Rr)) (hm : Mid.flatten = Gc.flatten) (hm' : Mid'.flatten = Gc'.flatten)
    (hr : gH E s H Gc → va_Run p l e R s m args below meth c H locs cells slots 0 0 (F0 m pc ls st0) rest (va_Qi (fun x (_ : Unit) => x = r) (fun _ => kQ E (va_A Gc.flatten H.size) Gc') (va_A Gc.flatten H.size) a) (va_A Gc.flatten H.size))
    (kk : ∀ (H1 : Heap) (locs1 : List Loc), gM E A s.heap (L ++ (Mid' ++ Rr)) H1 locs1 → W p l e R s m args below meth c H1 locs1 cells slots Q (F0 m (pc + 3) ls (.int r :: rest))) : W p l e R s m args below meth c H locs cells slots Q (F0 m pc ls st0) := by
  have hF := (M.cut hG hm).2.2
  refine va_calli (hr ⟨fun _ hU hW => gM.pre hE M hG hm hU hW, (M.cut hG hm).1⟩) M.2.2.1 (fun q _ h => hF q h) hF (fun x u t H1 locs1 ht hvm hw hB hz1 hk1 hS => ?_)
  subst hw
  exact kk H1 locs1 (M.join hG hm hm' hk1 (by rw [← ht]; exact hB.1) hB.2 hS)
theorem gcalll {r : Int64} (hE : kE E A s s.heap) (M : gM E A s.heap Gs H locs) (hG : Gs = L ++ (Mid ++ Rr)) (hm : Mid.flatten = Gc.flatten) (hm' : Mid'.flatten = Gc'.flatten)
    (hr : gH E s H Gc → va_Run p l e R s m args below meth c H locs cells slots 0 0 (F0 m pc ls st0) rest (va_Ql (fun x (_ : Unit) => x = r) (fun _ => kQ E (va_A Gc.flatten H.size) Gc') (va_A Gc.flatten H.size) a) (va_A Gc.flatten H.size))
    (kk : ∀ (H1 : Heap) (locs1 : List Loc), gM E A s.heap (L ++ (Mid' ++ Rr)) H1 locs1 → W p l e R s m args below meth c H1 locs1 cells slots Q (F0 m (pc + 3) ls (.long r :: rest))) : W p l e R s m args below meth c H locs cells slots Q (F0 m pc ls st0) := by
  have hF := (M.cut hG hm).2.2
  refine va_calll (hr ⟨fun _ hU hW => gM.pre hE M hG hm hU hW, (M.cut hG hm).1⟩) M.2.2.1 (fun q _ h => hF q h) hF (fun x u t H1 locs1 ht hvm hw hB hz1 hk1 hS => ?_)
  subst hw
  exact kk H1 locs1 (M.join hG hm hm' hk1 (by rw [← ht]; exact hB.1) hB.2 hS)
theorem gcallv (hE : kE E A s s.heap) (M : gM E A s.heap Gs H locs) (hG : Gs = L ++ (Mid ++ Rr)) (hm : Mid.flatten = Gc.flatten) (hm' : Mid'.flatten = Gc'.flatten)
    (hr : gH E s H Gc → va_Run p l e R s m args below meth c H locs cells slots 0 0 (F0 m pc ls st0) rest (va_Qv (fun (_ : Unit) => True) (fun _ => kQ E (va_A Gc.flatten H.size) Gc') (va_A Gc.flatten H.size) a) (va_A Gc.flatten H.size))
    (kk : ∀ (H1 : Heap) (locs1 : List Loc), gM E A s.heap (L ++ (Mid' ++ Rr)) H1 locs1 → W p l e R s m args below meth c H1 locs1 cells slots Q (F0 m (pc + 3) ls rest)) : W p l e R s m args below meth c H locs cells slots Q (F0 m pc ls st0) := by
  have hF := (M.cut hG hm).2.2
  refine va_callv (hr ⟨fun _ hU hW => gM.pre hE M hG hm hU hW, (M.cut hG hm).1⟩) M.2.2.1 (fun q _ h => hF q h) hF (fun u t H1 locs1 ht hvm hw hB hz1 hk1 hS => ?_)
  exact kk H1 locs1 (M.join hG hm hm' hk1 (by rw [← ht]; exact hB.1) hB.2 hS)
theorem gcallr {r : Nat} (hE : kE E A s s.heap) (M : gM E A s.heap Gs H locs) (hG : Gs = L ++ (Mid ++ Rr)) (hm : Mid.flatten = Gc.flatten) (hm' : Mid'.flatten = Gc'.flatten)
    (hr : gH E s H Gc → va_Run p l e R s m args below meth c H locs cells slots 0 0 (F0 m pc ls st0) rest (va_Qr (fun (_ : Unit) => True) (fun _ a t => a = r ∧ kQ E (va_A Gc.flatten H.size) Gc' t) (va_A Gc.flatten H.size) a) (va_A Gc.flatten H.size))
    (kk : ∀ (H1 : Heap) (locs1 : List Loc), gM E A s.heap (L ++ (Mid' ++ Rr)) H1 locs1 → W p l e R s m args below meth c H1 locs1 cells slots Q (F0 m (pc + 3) ls (.ref r :: rest))) : W p l e R s m args below meth c H locs cells slots Q (F0 m pc ls st0) := by
  have hF := (M.cut hG hm).2.2
  refine va_callr (hr ⟨fun _ hU hW => gM.pre hE M hG hm hU hW, (M.cut hG hm).1⟩) M.2.2.1 (fun q _ h => hF q h) hF (fun u ra t H1 locs1 ht hvm hw hB hz1 hk1 hS => ?_)
  obtain ⟨he, hB⟩ := hB
  subst he
  exact kk H1 locs1 (M.join hG hm hm' hk1 (by rw [← ht]; exact hB.1) hB.2 hS)
theorem gcalln {F : (Nat → Nat) → List va_W} {FM : (Nat → Nat) → List va_W} (hE : kE E A s s.heap) (M : gM E A s.heap Gs H locs) (hG : Gs = L ++ (Mid ++ Rr)) (hm : Mid.flatten = Gc.flatten) (hm' : ∀ ad, (FM ad).flatten = (F ad).flatten)
    (hr : gH E s H Gc → va_Run p l e R s m args below meth c H locs cells slots mc ms (F0 m pc ls st0) rest (va_Qv (fun (_ : Nat → Nat) => True) (fun ad => kQ E (va_A Gc.flatten H.size) (F ad)) (va_A Gc.flatten H.size) a) (va_A Gc.flatten H.size))
    (kk : ∀ (ad : Nat → Nat) (H1 : Heap) (locs1 : List Loc), gM E A s.heap (L ++ (FM ad ++ Rr)) H1 locs1 → W p l e R s m args below meth c H1 locs1 (cells + mc) (slots + ms) Q (F0 m (pc + 3) ls rest)) : W p l e R s m args below meth c H locs cells slots Q (F0 m pc ls st0) := by
  have hF := (M.cut hG hm).2.2
  refine va_callv (hr ⟨fun _ hU hW => gM.pre hE M hG hm hU hW, (M.cut hG hm).1⟩) M.2.2.1 (fun q _ h => hF q h) hF (fun u t H1 locs1 ht hvm hw hB hz1 hk1 hS => ?_)
  exact kk u H1 locs1 (M.join hG hm (hm' u) hk1 (by rw [← ht]; exact hB.1) hB.2 hS)
end GC
section GF
variable {p : Program} {l : Launch} {e : Env} {R : Room} {s : State} {m : MethodId} {args : Array Value} {below : List Frame} {meth : Method} {c : Code} {H : Heap} {locs : List Loc} {cells slots : Nat} {Q : State → Prop}
variable {cc : ByteArray} {nL pc : Nat} {ls : Array Slot} {rest : List Value} {A : Nat → Prop} {a : Nat} {E : xE} {Gs Gs' : List va_W} {H0 : Heap} {own : String} {Ts : List Cond}
theorem gget (S : CallFix p m c cc nL s args Ts own) (hE : kE E A s s.heap) (M : gM E A H0 Gs H locs) {C : String} {T : u_T} {N ci index : Nat} (hin : ∀ w ∈ u_ws C T N, w ∈ Ts) (q0 : Nat) {fs : List Value} (he : Gs.flatten[q0]? = some (a, .inr (ci, fs))) (hc : vwCl[ci]? = some (C, T, N)) (k : Nat) (hk : k < N) (hlink : Cond.fieldLink own index (T k).1 (T k).2.1 (T k).2.2.1 ∈ Ts) {v : Value} (hv : fs[k]? = some v) (hdg : decode cc pc = .ok (.getfield index, 3))
    (kk : W p l e R s m args below meth c H locs cells slots Q (F0 m (pc + 3) ls (v :: rest))) : W p l e R s m args below meth c H locs cells slots Q (F0 m pc ls (.ref a :: rest)) :=
  va_get S.1 S.2.1 S.2.2.2.2 hin S.2.2.2.1 hE.1 M.1 q0 he hc k hk (S.2.2.2.2 _ hlink) (fun _ h => h) hv hdg kk
theorem gput (S : CallFix p m c cc nL s args Ts own) (hE : kE E A s s.heap) (M : gM E A H0 Gs H locs) {C : String} {T : u_T} {N ci index : Nat} (hin : ∀ w ∈ u_ws C T N, w ∈ Ts) (ty0 : Nat → FieldType) (hty : ∀ k, k < N → parseFieldDescriptor (T k).2.2.1 = some (ty0 k)) (hnm : ∀ a, a < N → ∀ b, b < N → a ≠ b → (T a).2.1 ≠ (T b).2.1) (q0 : Nat) {fs : List Value} (he : Gs.flatten[q0]? = some (a, .inr (ci, fs))) (hc : vwCl[ci]? = some (C, T, N)) (k : Nat) (hk : k < N) (hlink : Cond.fieldLink own index (T k).1 (T k).2.1 (T k).2.2.1 ∈ Ts) (hfin : (T k).2.2.2 = false) {v : Value} (hn : narrow (ty0 k) v = v) (hfit : fits (ty0 k) v = true) (hl : k < fs.length) (hG : Gs.flatten.set q0 (a, .inr (ci, fs.set k v)) = Gs'.flatten) (hdg : decode cc pc = .ok (.putfield index, 3))
    (kk : ∀ (H1 : Heap) (locs1 : List Loc), gM E A H0 Gs' H1 locs1 → W p l e R s m args below meth c H1 locs1 cells slots Q (F0 m (pc + 3) ls rest)) : W p l e R s m args below meth c H locs cells slots Q (F0 m pc ls (v :: .ref a :: rest)) :=
  va_put S.1 S.2.1 S.2.2.2.2 hin ty0 hty hnm S.2.2.2.1 hE.1 M.1 M.2.1 M.2.2.1 q0 he hc k hk (S.2.2.2.2 _ hlink) (fun _ h => h) hfin (hty k hk) hn hfit hl hdg (fun H1 locs1 h1 h2 h3 => kk H1 locs1 ⟨hG ▸ h1, hG ▸ h2, h3, M.2.2.2⟩)
theorem gputF (S : CallFix p m c cc nL s args Ts own) (hE : kE E A s s.heap) (M : gM E A H0 Gs H locs) {C : String} {T : u_T} {N ci index : Nat} (hin : ∀ w ∈ u_ws C T N, w ∈ Ts) (ty0 : Nat → FieldType) (hty : ∀ k, k < N → parseFieldDescriptor (T k).2.2.1 = some (ty0 k)) (hnm : ∀ a, a < N → ∀ b, b < N → a ≠ b → (T a).2.1 ≠ (T b).2.1) (q0 : Nat) {fs : List Value} (he : Gs.flatten[q0]? = some (a, .inr (ci, fs))) (hc : vwCl[ci]? = some (C, T, N)) (k : Nat) (hk : k < N) (hlink : Cond.fieldLink own index (T k).1 (T k).2.1 (T k).2.2.1 ∈ Ts) (hfin : (T k).2.2.2 = true) (hin2 : meth.name = "<init>") (hdecl : (T k).1 = own) {v : Value} (hn : narrow (ty0 k) v = v) (hfit : fits (ty0 k) v = true) (hl : k < fs.length) (hG : Gs.flatten.set q0 (a, .inr (ci, fs.set k v)) = Gs'.flatten) (hdg : decode cc pc = .ok (.putfield index, 3))
    (kk : ∀ (H1 : Heap) (locs1 : List Loc), gM E A H0 Gs' H1 locs1 → W p l e R s m args below meth c H1 locs1 cells slots Q (F0 m (pc + 3) ls rest)) : W p l e R s m args below meth c H locs cells slots Q (F0 m pc ls (v :: .ref a :: rest)) :=
  va_putF S.1 S.2.1 S.2.2.2.2 hin ty0 hty hnm S.2.2.2.1 hE.1 M.1 M.2.1 M.2.2.1 q0 he hc k hk (S.2.2.2.2 _ hlink) (fun _ h => h) hfin hin2 hdecl (hty k hk) hn hfit hl hdg (fun H1 locs1 h1 h2 h3 => kk H1 locs1 ⟨hG ▸ h1, hG ▸ h2, h3, M.2.2.2⟩)
theorem giald (S : CallFix p m c cc nL s args Ts own) (hE : kE E A s s.heap) (M : gM E A H0 Gs H locs) (q0 : Nat) {n : Nat} {f : Nat → Int32} (he : Gs.flatten[q0]? = some (a, .inl (xI E, n, .inl f))) {i : Int32} (hin : vp_in i n) (hdg : decode cc pc = .ok (.iaload, 1))
    (kk : W p l e R s m args below meth c H locs cells slots Q (F0 m (pc + 1) ls (.int (f i.toNatClampNeg) :: rest))) : W p l e R s m args below meth c H locs cells slots Q (F0 m pc ls (.int i :: .ref a :: rest)) :=
  va_iald S.1 S.2.1 hE.1 M.1 q0 0 he rfl hin hdg kk
theorem glald (S : CallFix p m c cc nL s args Ts own) (hE : kE E A s s.heap) (M : gM E A H0 Gs H locs) (q0 : Nat) {n : Nat} {f : Nat → Int64} (he : Gs.flatten[q0]? = some (a, .inl (xJ E, n, .inr (.inl f)))) {i : Int32} (hin : vp_in i n) (hdg : decode cc pc = .ok (.laload, 1))
    (kk : W p l e R s m args below meth c H locs cells slots Q (F0 m (pc + 1) ls (.long (f i.toNatClampNeg) :: rest))) : W p l e R s m args below meth c H locs cells slots Q (F0 m pc ls (.int i :: .ref a :: rest)) :=
  va_lald S.1 S.2.1 hE.1 M.1 q0 1 he rfl hin hdg kk
theorem giast (S : CallFix p m c cc nL s args Ts own) (hE : kE E A s s.heap) (M : gM E A H0 Gs H locs) (q0 : Nat) {n : Nat} {f : Nat → Int32} (he : Gs.flatten[q0]? = some (a, .inl (xI E, n, .inl f))) {i x : Int32} (hin : vp_in i n) (hG : Gs.flatten.set q0 (a, .inl (xI E, n, .inl (upd f i.toNatClampNeg x))) = Gs'.flatten) (hdg : decode cc pc = .ok (.iastore, 1))
    (kk : ∀ (H1 : Heap) (locs1 : List Loc), gM E A H0 Gs' H1 locs1 → W p l e R s m args below meth c H1 locs1 cells slots Q (F0 m (pc + 1) ls rest)) : W p l e R s m args below meth c H locs cells slots Q (F0 m pc ls (.int x :: .int i :: .ref a :: rest)) :=
  va_iast S.1 S.2.1 hE.1 M.1 M.2.1 M.2.2.1 q0 0 he rfl hin hdg (fun H1 locs1 h1 h2 h3 => kk H1 locs1 ⟨hG ▸ h1, hG ▸ h2, h3, M.2.2.2⟩)
theorem glast (S : CallFix p m c cc nL s args Ts own) (hE : kE E A s s.heap) (M : gM E A H0 Gs H locs) (q0 : Nat) {n : Nat} {f : Nat → Int64} (he : Gs.flatten[q0]? = some (a, .inl (xJ E, n, .inr (.inl f)))) {i : Int32} {x : Int64} (hin : vp_in i n) (hG : Gs.flatten.set q0 (a, .inl (xJ E, n, .inr (.inl (vp_updL f i.toNatClampNeg x)))) = Gs'.flatten) (hdg : decode cc pc = .ok (.lastore, 1))
    (kk : ∀ (H1 : Heap) (locs1 : List Loc), gM E A H0 Gs' H1 locs1 → W p l e R s m args below meth c H1 locs1 cells slots Q (F0 m (pc + 1) ls rest)) : W p l e R s m args below meth c H locs cells slots Q (F0 m pc ls (.long x :: .int i :: .ref a :: rest)) :=
  va_last S.1 S.2.1 hE.1 M.1 M.2.1 M.2.2.1 q0 1 he rfl hin hdg (fun H1 locs1 h1 h2 h3 => kk H1 locs1 ⟨hG ▸ h1, hG ▸ h2, h3, M.2.2.2⟩)
theorem galen (S : CallFix p m c cc nL s args Ts own) (hE : kE E A s s.heap) (M : gM E A H0 Gs H locs) (q0 : Nat) {n : Nat} {f : Nat → Int32} (he : Gs.flatten[q0]? = some (a, .inl (xI E, n, .inl f))) (hdg : decode cc pc = .ok (.arraylength, 1))
    (kk : W p l e R s m args below meth c H locs cells slots Q (F0 m (pc + 1) ls (.int (nI n) :: rest))) : W p l e R s m args below meth c H locs cells slots Q (F0 m pc ls (.ref a :: rest)) :=
  va_alen S.1 S.2.1 hE.1 M.1 q0 0 he rfl rfl hdg kk
end GF
section GE
variable {p : Program} {l : Launch} {e : Env} {s : State} {m : MethodId} {args : Array Value} {below : List Frame} {meth : Method} {c : Code} {R : Room}
/-- a method's entry -/
theorem genter {y : MethodName} {w : List Cond} {rm : Room} {cc : ByteArray} {maxL : Nat} {ret : Option FieldType} {s₁ : State} {E : xE} {as : List Value} {Gs : List va_W} {sz : Nat} (B : BodyLoose p l y (headSpec w rm) cc maxL ret e s m args below meth c s₁) (hml : c.maxLocals = maxL) (hv : va_Pc as (kP E Gs sz) args s) :
    args = as.toArray ∧ CallFix p m c cc maxL s args w y.cls ∧ meth.sig.returnType = ret ∧ meth.locks = false ∧ meth.name = y.name ∧ ∃ A : Nat → Prop, va_A Gs.flatten sz = A ∧ kE E A s s.heap ∧ gM E A s.heap Gs s.heap [] := by
  obtain ⟨h0, h1, h2, h3, h4⟩ := hv
  refine ⟨h0, ⟨B.exec, B.bytes, hml, findClass_of_methodNamed B.named, atoms_spec (ws := w) B.pre⟩, B.returns, B.notSynchronized, (name_of_methodNamed B.named B.method).1, _, rfl, h4, h2, ?_, va_S.rf, fun q h => Or.inr (by rw [← h1]; exact h)⟩
  subst h1
  exact h3.self
theorem gst {as : List Value} {n : Nat} (h : (lg_sl as).length ≤ n) : ∃ ls : Array Slot, entryFrame m as.toArray n = F0 m 0 ls [] ∧ lv_has ls n (lv_args 0 as) :=
  ⟨_, by rw [lg_entry_eq], lv_entry as h⟩
variable {H : Heap} {locs : List Loc} {E : xE} {A : Nat → Prop} {Gs Gs' : List va_W} {cc : ByteArray} {nL pc sz : Nat} {Ts : List Cond} {own : String} {ls : Array Slot}
theorem giret (S : CallFix p m c cc nL s args Ts own) (hr : meth.sig.returnType = some .int) (hlocks : meth.locks = false) (M : gM E A s.heap Gs H locs) {v r : Int32} (hv : v = r) (hG : Gs.flatten = Gs'.flatten) (hdg : decode cc pc = .ok (.ireturn, 1)) :
    W p l e R s m args below meth c H locs 0 0 (MQ below (va_Qi (fun x (_ : Unit) => x = r) (fun _ => kQ E A Gs') A) args s 0 0 A) (F0 m pc ls [.int v]) :=
  W.iret S.1 S.2.1 hr (fun t ht _ => ⟨⟨v, (), rfl, hv, by rw [← hG, ht]; exact M.1, by rw [← hG]; exact M.2.1⟩, M.2.2.1.F ht⟩) M.2.2.1.2.2 hdg hlocks
theorem gzret {ty : FieldType} (S : CallFix p m c cc nL s args Ts own) (hr : meth.sig.returnType = some ty) (hlocks : meth.locks = false) (M : gM E A s.heap Gs H locs) {v r : Int32} (hn : narrow ty (.int v) = .int v) (hv : v = r) (hG : Gs.flatten = Gs'.flatten) (hdg : decode cc pc = .ok (.ireturn, 1)) :
    W p l e R s m args below meth c H locs 0 0 (MQ below (va_Qi (fun x (_ : Unit) => x = r) (fun _ => kQ E A Gs') A) args s 0 0 A) (F0 m pc ls [.int v]) :=
  W.zret S.1 S.2.1 hr hn (fun t ht _ => ⟨⟨v, (), rfl, hv, by rw [← hG, ht]; exact M.1, by rw [← hG]; exact M.2.1⟩, M.2.2.1.F ht⟩) M.2.2.1.2.2 hdg hlocks
theorem glret (S : CallFix p m c cc nL s args Ts own) (hr : meth.sig.returnType = some .long) (hlocks : meth.locks = false) (M : gM E A s.heap Gs H locs) {v r : Int64} (hv : v = r) (hG : Gs.flatten = Gs'.flatten) (hdg : decode cc pc = .ok (.lreturn, 1)) :
    W p l e R s m args below meth c H locs 0 0 (MQ below (va_Ql (fun x (_ : Unit) => x = r) (fun _ => kQ E A Gs') A) args s 0 0 A) (F0 m pc ls [.long v]) :=
  W.lret S.1 S.2.1 hr (fun t ht _ => ⟨⟨v, (), rfl, hv, by rw [← hG, ht]; exact M.1, by rw [← hG]; exact M.2.1⟩, M.2.2.1.F ht⟩) M.2.2.1.2.2 hdg hlocks
theorem gvret (S : CallFix p m c cc nL s args Ts own) (hr : meth.sig.returnType = none) (hlocks : meth.locks = false) (M : gM E A s.heap Gs H locs) (hG : Gs.flatten = Gs'.flatten) (hdg : decode cc pc = .ok (.return_, 1)) :
    W p l e R s m args below meth c H locs 0 0 (MQ below (va_Qv (fun (_ : Unit) => True) (fun _ => kQ E A Gs') A) args s 0 0 A) (F0 m pc ls []) :=
  W.vret S.1 S.2.1 hr (fun t ht _ => ⟨⟨(), rfl, trivial, by rw [← hG, ht]; exact M.1, by rw [← hG]; exact M.2.1⟩, M.2.2.1.F ht⟩) M.2.2.1.2.2 hdg hlocks
theorem garet {rt : FieldType} (S : CallFix p m c cc nL s args Ts own) (hr : meth.sig.returnType = some rt) (hrt : (∃ n, rt = .object n) ∨ ∃ t, rt = .array t) (hlocks : meth.locks = false) (M : gM E A s.heap Gs H locs) {v r : Nat} (hv : v = r) (hG : Gs.flatten = Gs'.flatten) (hdg : decode cc pc = .ok (.areturn, 1)) :
    W p l e R s m args below meth c H locs 0 0 (MQ below (va_Qr (fun (_ : Unit) => True) (fun _ a t => a = r ∧ kQ E A Gs' t) A) args s 0 0 A) (F0 m pc ls [.ref v]) :=
  W.aret S.1 S.2.1 hr hrt (Or.inr ⟨v, rfl⟩) (fun t ht _ => ⟨⟨(), v, rfl, trivial, hv, by rw [← hG, ht]; exact M.1, by rw [← hG]; exact M.2.1⟩, M.2.2.1.F ht⟩) M.2.2.1.2.2 hdg hlocks
theorem gnret {F : (Nat → Nat) → List va_W} {mc ms : Nat} (S : CallFix p m c cc nL s args Ts own) (hr : meth.sig.returnType = none) (hlocks : meth.locks = false) (M : gM E A s.heap Gs H locs) (ad : Nat → Nat) (hG : Gs.flatten = (F ad).flatten) (hdg : decode cc pc = .ok (.return_, 1)) :
    W p l e R s m args below meth c H locs mc ms (MQ below (va_Qv (fun (_ : Nat → Nat) => True) (fun ad => kQ E A (F ad)) A) args s mc ms A) (F0 m pc ls []) :=
  W.vret S.1 S.2.1 hr (fun t ht _ => ⟨⟨ad, rfl, trivial, by rw [← hG, ht]; exact M.1, by rw [← hG]; exact M.2.1⟩, M.2.2.1.F ht⟩) M.2.2.1.2.2 hdg hlocks
end GE
section GT
variable {p : Program} {l : Launch} {e : Env} {R : Room} {s : State} {m : MethodId} {args : Array Value} {below : List Frame} {meth : Method} {c : Code} {H : Heap} {locs : List Loc} {cells slots pc : Nat} {ls : Array Slot} {rest : List Value} {Q : State → Prop}
/-- the same number in other words -/
theorem gtop {x x' : Int32} (h : x = x') (k : W p l e R s m args below meth c H locs cells slots Q (F0 m pc ls (.int x' :: rest))) : W p l e R s m args below meth c H locs cells slots Q (F0 m pc ls (.int x :: rest)) := h ▸ k
theorem gtopl {x x' : Int64} (h : x = x') (k : W p l e R s m args below meth c H locs cells slots Q (F0 m pc ls (.long x' :: rest))) : W p l e R s m args below meth c H locs cells slots Q (F0 m pc ls (.long x :: rest)) := h ▸ k
end GT
