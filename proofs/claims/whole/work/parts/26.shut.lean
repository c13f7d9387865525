/-! Whether an arrival is refused: the class's bar against the reference's shut. -/
theorem col_ge (y : MdS) (k : Nat) : ∀ n a s, s.2.2 ≤ (col y k n a s).2.2
  | 0, _, s => ile.mpr (Int.le_refl _)
  | n + 1, a, s => by
    rw [col]
    have H := ile.mp (col_ge y k n (a + 1) (if y.sn a = nI k then (s.1 + 1, (if y.pld a = 0 then s.2.1 + 0 else s.2.1 + 1), (if y.fr a ≤ s.2.2 then s.2.2 else y.fr a)) else s))
    rw [ile]
    by_cases q : y.sn a = nI k
    · rw [if_pos q] at H ⊢
      have H : (if y.fr a ≤ s.2.2 then s.2.2 else y.fr a).toInt ≤ _ := H
      by_cases q2 : y.fr a ≤ s.2.2
      · rw [if_pos q2] at H ⊢
        omega
      · rw [if_neg q2] at H ⊢
        rw [ile] at q2
        omega
    · rw [if_neg q] at H ⊢
      exact H
theorem col_mem (y : MdS) (k : Nat) {x : Nat} (hx : y.sn x = nI k) : ∀ n a s, a ≤ x → x < a + n → y.fr x ≤ (col y k n a s).2.2
  | 0, a, s, h1, h2 => by omega
  | n + 1, a, s, h1, h2 => by
    rw [col]
    by_cases q : x = a
    · subst q
      rw [if_pos hx]
      have H := ile.mp (col_ge y k n (x + 1) (s.1 + 1, (if y.pld x = 0 then s.2.1 + 0 else s.2.1 + 1), (if y.fr x ≤ s.2.2 then s.2.2 else y.fr x)))
      have H : (if y.fr x ≤ s.2.2 then s.2.2 else y.fr x).toInt ≤ _ := H
      rw [ile]
      by_cases q2 : y.fr x ≤ s.2.2
      · rw [if_pos q2] at H ⊢
        rw [ile] at q2
        omega
      · rw [if_neg q2] at H ⊢
        exact H
    · exact col_mem y k hx n (a + 1) _ (by omega) (by omega)
theorem col_or (y : MdS) (k : Nat) : ∀ n a s, (col y k n a s).2.2 = s.2.2 ∨ ∃ x, a ≤ x ∧ x < a + n ∧ y.sn x = nI k ∧ (col y k n a s).2.2 = y.fr x
  | 0, _, _ => Or.inl rfl
  | n + 1, a, s => by
    rw [col]
    rcases col_or y k n (a + 1) (if y.sn a = nI k then (s.1 + 1, (if y.pld a = 0 then s.2.1 + 0 else s.2.1 + 1), (if y.fr a ≤ s.2.2 then s.2.2 else y.fr a)) else s) with e | ⟨x, h1, h2, h3, h4⟩
    · rw [e]
      by_cases q : y.sn a = nI k
      · rw [if_pos q]
        by_cases q2 : y.fr a ≤ s.2.2
        · left
          show (if y.fr a ≤ s.2.2 then s.2.2 else y.fr a) = _
          rw [if_pos q2]
        · right
          refine ⟨a, Nat.le_refl _, by omega, q, ?_⟩
          show (if y.fr a ≤ s.2.2 then s.2.2 else y.fr a) = _
          rw [if_neg q2]
      · rw [if_neg q]
        exact Or.inl rfl
    · exact Or.inr ⟨x, by omega, by omega, h3, h4⟩
/-- a frame of spurt k stands at v or above just when its greatest does -/
theorem gr_iff {z : SpcS} {y : MdS} (h : Rel z y) {k : Nat} (hk : k < y.sp) (v : Int32) : ¬ (y.cts k).2.2 < v ↔ ∃ x, x < y.ct ∧ y.sn x = nI k ∧ ¬ y.fr x < v := by
  have hs := h.sp120
  constructor
  · intro q
    rcases col_or y k y.ct 0 (0, 0, y.hd k) with e | ⟨x, h1, h2, h3, h4⟩
    · obtain ⟨x, h1, h2⟩ := h.i9 k hk
      refine ⟨x, h1, h2, fun c => q ?_⟩
      have h5 := ile.mp (h.i5 x h1)
      rw [h2, nI_clamp (by omega)] at h5
      have e : (y.cts k).2.2 = y.hd k := e
      rw [e, ilt]
      rw [ilt] at c
      omega
    · refine ⟨x, by omega, h3, ?_⟩
      have h4 : (y.cts k).2.2 = y.fr x := h4
      rw [← h4]
      exact q
  · rintro ⟨x, h1, h2, h3⟩ c
    have := ile.mp (col_mem y k h2 y.ct 0 (0, 0, y.hd k) (by omega) (by omega))
    have this : (y.fr x).toInt ≤ (y.cts k).2.2.toInt := this
    rw [ilt] at h3 c
    omega
theorem wayl_iff (y : MdS) {k : Nat} {h p : Int32} (hh : y.hd k < h) : ∀ n a, ¬ wayl y k h p n a = 0 ↔ ∃ x, a ≤ x ∧ x < a + n ∧ y.sn x = nI k ∧ ¬ y.fr x < h - p
  | 0, a => by
    rw [wayl]
    constructor
    · intro q
      exact absurd rfl q
    · rintro ⟨x, h1, h2, _⟩
      omega
  | n + 1, a => by
    rw [wayl, if_neg (nle_of hh)]
    by_cases q : y.sn a = nI k
    · rw [if_pos q]
      by_cases q2 : y.fr a < h - p
      · rw [if_pos q2, wayl_iff y hh n (a + 1)]
        constructor
        · rintro ⟨x, h1, h2, h3, h4⟩
          exact ⟨x, by omega, by omega, h3, h4⟩
        · rintro ⟨x, h1, h2, h3, h4⟩
          rcases (show x = a ∨ a + 1 ≤ x by omega) with e | e
          · subst e
            exact absurd q2 h4
          · exact ⟨x, e, by omega, h3, h4⟩
      · rw [if_neg q2]
        exact ⟨fun _ => ⟨a, Nat.le_refl _, by omega, q, q2⟩, fun _ => by decide⟩
    · rw [if_neg q, wayl_iff y hh n (a + 1)]
      constructor
      · rintro ⟨x, h1, h2, h3, h4⟩
        exact ⟨x, by omega, by omega, h3, h4⟩
      · rintro ⟨x, h1, h2, h3, h4⟩
        rcases (show x = a ∨ a + 1 ≤ x by omega) with e | e
        · subst e
          exact absurd h3 q
        · exact ⟨x, e, by omega, h3, h4⟩
/-- the two ways, at a spurt with another head -/
theorem way_rel {z : SpcS} {y : MdS} (h : Rel z y) {k : Nat} (hk : k < y.sp) {n v p : Int32} (hv : ¬ y.hd k = v) : z.sp.way (nI k) n v p = 0 ↔ y.way k n v p = 0 := by
  have hs := h.sp120
  obtain ⟨d1, d2, d3⟩ := h.d2 k hk
  unfold SpuS.way MdS.way
  rw [rg_at (by omega) (by decide), rg_at (by omega) (by decide), rg_at (by omega) (by decide), h.hd, h.ps, d3]
  have ne : ¬ (y.hd k).toInt = v.toInt := fun c => hv (ine.mpr c)
  by_cases q : v ≤ y.hd k
  · have q1 : ¬ y.hd k ≤ v := by rw [ile] at q ⊢; omega
    rw [if_pos q, if_neg q1, if_neg q1]
  · have q1 : y.hd k < v := by rw [ile] at q; rw [ilt]; omega
    have q2 : y.hd k ≤ v := by rw [ilt] at q1; rw [ile]; omega
    rw [if_neg q, if_pos q2]
    have e := (gr_iff h hk (v - p)).trans (Iff.trans ⟨fun ⟨x, a, b, c⟩ => ⟨x, Nat.zero_le x, by omega, b, c⟩, fun ⟨x, _, a, b, c⟩ => ⟨x, by omega, b, c⟩⟩ (wayl_iff y q1 (p := p) y.ct 0).symm)
    by_cases q3 : (y.cts k).2.2 < v - p
    · rw [if_pos q3]
      refine ⟨fun _ => ?_, fun _ => rfl⟩
      exact Classical.byContradiction fun c => (e.mpr c) q3
    · rw [if_neg q3]
      exact ⟨fun c => absurd c (by decide), fun c => absurd c (e.mp q3)⟩
theorem barl_iff {z : SpcS} {y : MdS} (h : Rel z y) (n v p : Int32) : ∀ m i, i + m ≤ y.sp → (¬ barl z.sp n v p m i = 0 ↔ ∃ k, i ≤ k ∧ k < i + m ∧ ((y.hd k = v ∧ ¬ y.ps k = p) ∨ (¬ y.hd k = v ∧ ¬ y.way k n v p = 0)))
  | 0, i, _ => by
    rw [barl]
    constructor
    · intro q
      exact absurd rfl q
    · rintro ⟨x, h1, h2, _⟩
      omega
  | m + 1, i, hi => by
    have hs := h.sp120
    have ih := barl_iff h n v p m (i + 1) (by omega)
    have step : ∀ (P : Prop), (P ↔ ((y.hd i = v ∧ ¬ y.ps i = p) ∨ (¬ y.hd i = v ∧ ¬ y.way i n v p = 0))) → ((P ∨ ¬ barl z.sp n v p m (i + 1) = 0) ↔ ∃ k, i ≤ k ∧ k < i + (m + 1) ∧ ((y.hd k = v ∧ ¬ y.ps k = p) ∨ (¬ y.hd k = v ∧ ¬ y.way k n v p = 0))) := by
      intro P hP
      rw [ih, hP]
      constructor
      · rintro (c | ⟨x, h1, h2, h3⟩)
        · exact ⟨i, Nat.le_refl _, by omega, c⟩
        · exact ⟨x, by omega, by omega, h3⟩
      · rintro ⟨x, h1, h2, h3⟩
        rcases (show x = i ∨ i + 1 ≤ x by omega) with e | e
        · subst e
          exact Or.inl h3
        · exact Or.inr ⟨x, e, by omega, h3⟩
    rw [barl, rg_at (by omega) (by decide), rg_at (by omega) (by decide), h.hd, h.ps]
    by_cases q : y.hd i = v
    · have hw : z.sp.way (nI i) n v p = 0 := by
        unfold SpuS.way
        rw [rg_at (by omega) (by decide), h.hd, if_pos (ile.mpr (by rw [q]; omega)), if_pos (ile.mpr (by rw [q]; omega))]
      rw [if_pos q, if_pos hw]
      by_cases q2 : y.ps i = p
      · rw [if_pos q2, ← step False ⟨fun c => c.elim, fun c => by rcases c with ⟨_, c⟩ | ⟨c, _⟩; exact absurd q2 c; exact absurd q c⟩]
        exact ⟨fun c => Or.inr c, fun c => c.elim (fun d => d.elim) id⟩
      · rw [if_neg q2, ← step True ⟨fun _ => Or.inl ⟨q, q2⟩, fun _ => trivial⟩]
        exact ⟨fun _ => Or.inl trivial, fun _ => by decide⟩
    · rw [if_neg q]
      by_cases q2 : z.sp.way (nI i) n v p = 0
      · rw [if_pos q2, ← step False ⟨fun c => c.elim, fun c => by rcases c with ⟨c, _⟩ | ⟨_, c⟩; exact absurd c q; exact absurd ((way_rel h (by omega) q).mp q2) c⟩]
        exact ⟨fun c => Or.inr c, fun c => c.elim (fun d => d.elim) id⟩
      · rw [if_neg q2, ← step True ⟨fun _ => Or.inr ⟨q, fun c => q2 ((way_rel h (by omega) q).mpr c)⟩, fun _ => trivial⟩]
        exact ⟨fun _ => Or.inl trivial, fun _ => by decide⟩
/-- the reference's search for a head: none has it, or the one that has it -/
theorem spurtBy_or {z : SpcS} {y : MdS} (h : Rel z y) (v : Int32) : (y.spurtBy v = -9 ∧ ∀ k, k < y.sp → ¬ y.hd k = v) ∨ ∃ k, k < y.sp ∧ y.spurtBy v = nI k ∧ y.hd k = v := by
  have hs := h.sp120
  have none : ∀ n i, (∃ k, i ≤ k ∧ k < i + n ∧ fnd y.hd v (-9) n i = nI k ∧ y.hd k = v) ∨ (fnd y.hd v (-9) n i = -9 ∧ ∀ k, i ≤ k → k < i + n → ¬ y.hd k = v) := by
    intro n
    induction n with
    | zero => intro i; exact Or.inr ⟨rfl, fun k a b => by omega⟩
    | succ n ih =>
      intro i
      rw [fnd]
      by_cases q : y.hd i = v
      · rw [if_pos q]
        exact Or.inl ⟨i, Nat.le_refl _, by omega, rfl, q⟩
      · rw [if_neg q]
        rcases ih (i + 1) with ⟨k, a, b, c, d⟩ | ⟨a, b⟩
        · exact Or.inl ⟨k, by omega, by omega, c, d⟩
        · refine Or.inr ⟨a, fun k c d => ?_⟩
          rcases (show k = i ∨ i + 1 ≤ k by omega) with e | e
          · subst e
            exact q
          · exact b k e (by omega)
  rcases none y.sp 0 with ⟨k, a, b, c, d⟩ | ⟨a, b⟩
  · exact Or.inr ⟨k, by omega, c, d⟩
  · exact Or.inl ⟨a, fun k hk => b k (Nat.zero_le k) (by omega)⟩
theorem shl_iff (y : MdS) (n v p : Int32) : ∀ m i b, (shl y n v p m i b = true ↔ b = true ∨ ∃ k, i ≤ k ∧ k < i + m ∧ ¬ nI k = y.spurtBy v ∧ ¬ y.way k n v p = 0)
  | 0, i, b => by
    rw [shl]
    constructor
    · exact Or.inl
    · rintro (c | ⟨x, h1, h2, _⟩)
      · exact c
      · omega
  | m + 1, i, b => by
    rw [shl, shl_iff y n v p m (i + 1)]
    have e : (if b2i b = 0 then (if nI i = y.spurtBy v then false else if y.way i n v p = 0 then false else true) else true) = true ↔ b = true ∨ (¬ nI i = y.spurtBy v ∧ ¬ y.way i n v p = 0) := by
      cases b with
      | true =>
        rw [if_neg (show ¬ b2i true = 0 by decide)]
        exact ⟨fun _ => Or.inl rfl, fun _ => rfl⟩
      | false =>
        rw [if_pos (show b2i false = 0 by decide)]
        by_cases q : nI i = y.spurtBy v
        · rw [if_pos q]
          exact ⟨fun c => absurd c (by decide), fun c => by rcases c with c | c; exact absurd c (by decide); exact absurd q c.1⟩
        · rw [if_neg q]
          by_cases q2 : y.way i n v p = 0
          · rw [if_pos q2]
            exact ⟨fun c => absurd c (by decide), fun c => by rcases c with c | c; exact absurd c (by decide); exact absurd q2 c.2⟩
          · rw [if_neg q2]
            exact ⟨fun _ => Or.inr ⟨q, q2⟩, fun _ => rfl⟩
    rw [e]
    constructor
    · rintro ((c | c) | ⟨x, h1, h2, h3⟩)
      · exact Or.inl c
      · exact Or.inr ⟨i, Nat.le_refl _, by omega, c⟩
      · exact Or.inr ⟨x, by omega, by omega, h3⟩
    · rintro (c | ⟨x, h1, h2, h3⟩)
      · exact Or.inl (Or.inl c)
      · rcases (show x = i ∨ i + 1 ≤ x by omega) with e | e
        · subst e
          exact Or.inl (Or.inr h3)
        · exact Or.inr ⟨x, e, by omega, h3⟩
theorem bar_rel {z : SpcS} {y : MdS} (h : Rel z y) (n v p : Int32) : z.sp.bar n v p = 0 ↔ y.shut1 n v p = 0 := by
  have hs := h.sp120
  have e1 := barl_iff h n v p y.sp 0 (by omega)
  have e2 := shl_iff y n v p y.sp 0 (y.shut0 v p)
  have e3 : (y.shut0 v p = true ∨ ∃ k, 0 ≤ k ∧ k < 0 + y.sp ∧ ¬ nI k = y.spurtBy v ∧ ¬ y.way k n v p = 0) ↔ ∃ k, 0 ≤ k ∧ k < 0 + y.sp ∧ ((y.hd k = v ∧ ¬ y.ps k = p) ∨ (¬ y.hd k = v ∧ ¬ y.way k n v p = 0)) := by
    unfold MdS.shut0
    rcases spurtBy_or h v with ⟨a, b⟩ | ⟨j, hj, a, b⟩
    · rw [if_pos a]
      constructor
      · rintro (c | ⟨k, c1, c2, c3, c4⟩)
        · exact absurd c (by decide)
        · exact ⟨k, c1, c2, Or.inr ⟨b k (by omega), c4⟩⟩
      · rintro ⟨k, c1, c2, (c | c)⟩
        · exact absurd c.1 (b k (by omega))
        · refine Or.inr ⟨k, c1, c2, ?_, c.2⟩
          rw [a]
          exact nI_ne_neg (by omega) (by decide)
    · rw [a, if_neg (nI_ne_neg (by omega) (by decide)), nI_clamp (by omega)]
      have key : ∀ k, k < y.sp → (nI k = nI j ↔ y.hd k = v) := fun k hk => ⟨fun c => by rw [(nI_eq (by omega) (by omega)).mp c]; exact b, fun c => by rw [h.i6d k j hk hj (c.trans b.symm)]⟩
      constructor
      · rintro (c | ⟨k, c1, c2, c3, c4⟩)
        · refine ⟨j, Nat.zero_le j, by omega, Or.inl ⟨b, fun q => ?_⟩⟩
          rw [if_pos q] at c
          exact absurd c (by decide)
        · exact ⟨k, c1, c2, Or.inr ⟨fun q => c3 ((key k (by omega)).mpr q), c4⟩⟩
      · rintro ⟨k, c1, c2, (c | c)⟩
        · left
          have := h.i6d k j (by omega) hj (c.1.trans b.symm)
          subst this
          rw [if_neg c.2]
        · exact Or.inr ⟨k, c1, c2, fun q => c.1 ((key k (by omega)).mp q), c.2⟩
  have e4 : z.sp.bar n v p = barl z.sp n v p y.sp 0 := by
    unfold SpuS.bar
    rw [h.spc]
  have e5 : ¬ y.shut1 n v p = 0 ↔ shl y n v p y.sp 0 (y.shut0 v p) = true := by
    unfold MdS.shut1
    generalize shl y n v p y.sp 0 (y.shut0 v p) = b
    cases b with
    | true => exact ⟨fun _ => rfl, fun _ => by decide⟩
    | false => exact ⟨fun c => absurd rfl c, fun c => absurd c (by decide)⟩
  rw [e4]
  have e6 : ¬ barl z.sp n v p y.sp 0 = 0 ↔ ¬ y.shut1 n v p = 0 := by rw [e1, e5, e2, e3]
  exact ⟨fun c => Classical.byContradiction fun d => e6.mpr d c, fun c => Classical.byContradiction fun d => e6.mp d c⟩
