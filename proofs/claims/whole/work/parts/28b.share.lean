/-! The least number that few enough are above: the class's share, the reference's lst. -/
theorem gtl_ok (ds : Nat → Int32) {N : Nat} : ∀ n i b, i + n = N → (∃ j, j < i ∧ b = rg 32 ds (nI j)) → (∀ x, x < i → rg 32 ds (nI x) ≤ b) → (∃ j, j < N ∧ gtl ds n i b = rg 32 ds (nI j)) ∧ ∀ x, x < N → rg 32 ds (nI x) ≤ gtl ds n i b
  | 0, i, b, h0, ⟨j, h1, h2⟩, h3 => ⟨⟨j, by omega, h2⟩, fun x hx => h3 x (by omega)⟩
  | n + 1, i, b, h0, ⟨j, h1, h2⟩, h3 => by
    rw [gtl]
    refine gtl_ok ds n (i + 1) _ (by omega) ?_ ?_
    · show ∃ j, j < i + 1 ∧ (if b < rg 32 ds (nI i) then rg 32 ds (nI i) else b) = rg 32 ds (nI j)
      by_cases q : b < rg 32 ds (nI i)
      · rw [if_pos q]
        exact ⟨i, by omega, rfl⟩
      · rw [if_neg q]
        exact ⟨j, by omega, h2⟩
    · intro x hx
      show _ ≤ (if b < rg 32 ds (nI i) then rg 32 ds (nI i) else b)
      by_cases q : b < rg 32 ds (nI i)
      · rw [if_pos q]
        rcases (show x < i ∨ x = i by omega) with c | c
        · have := h3 x c
          rw [ile] at this ⊢
          rw [ilt] at q
          omega
        · subst c
          rw [ile]
          omega
      · rw [if_neg q]
        rcases (show x < i ∨ x = i by omega) with c | c
        · exact h3 x c
        · subst c
          rw [ilt] at q
          rw [ile]
          omega
theorem most_ok (z : WisS) {k : Nat} (hk : 0 < k) : (∃ j, j < k ∧ z.most k = rg 32 z.ds (nI j)) ∧ ∀ x, x < k → rg 32 z.ds (nI x) ≤ z.most k := by
  unfold WisS.most
  refine gtl_ok z.ds (k - 1) 1 _ (by omega) ⟨0, by omega, rfl⟩ (fun x hx => ?_)
  rw [show x = 0 by omega]
  rw [ile]
  exact Int.le_refl _
theorem bsl_ok (z : WisS) (k : Int32) {N : Nat} : ∀ n i b, i + n = N → (∃ j, j < N ∧ ¬ k * nI z.sz < 256 * z.above (rg 32 z.ds (nI j)) ∧ b = rg 32 z.ds (nI j)) → (∀ x, x < i → ¬ k * nI z.sz < 256 * z.above (rg 32 z.ds (nI x)) → b ≤ rg 32 z.ds (nI x)) →
    (∃ j, j < N ∧ ¬ k * nI z.sz < 256 * z.above (rg 32 z.ds (nI j)) ∧ bsl z k n i b = rg 32 z.ds (nI j)) ∧ ∀ x, x < N → ¬ k * nI z.sz < 256 * z.above (rg 32 z.ds (nI x)) → bsl z k n i b ≤ rg 32 z.ds (nI x)
  | 0, i, b, h0, h1, h3 => ⟨h1, fun x hx => h3 x (by omega)⟩
  | n + 1, i, b, h0, h1, h3 => by
    rw [bsl]
    by_cases q : b ≤ rg 32 z.ds (nI i)
    · rw [if_pos q]
      refine bsl_ok z k n (i + 1) _ (by omega) h1 (fun x hx c => ?_)
      rcases (show x < i ∨ x = i by omega) with d | d
      · exact h3 x d c
      · subst d
        exact q
    · rw [if_neg q]
      by_cases q2 : k * nI z.sz < 256 * z.above (rg 32 z.ds (nI i))
      · rw [if_pos q2]
        refine bsl_ok z k n (i + 1) _ (by omega) h1 (fun x hx c => ?_)
        rcases (show x < i ∨ x = i by omega) with d | d
        · exact h3 x d c
        · subst d
          exact absurd q2 c
      · rw [if_neg q2]
        refine bsl_ok z k n (i + 1) _ (by omega) ⟨i, by omega, q2, rfl⟩ (fun x hx c => ?_)
        rcases (show x < i ∨ x = i by omega) with d | d
        · have := h3 x d c
          rw [ile] at this q ⊢
          omega
        · subst d
          rw [ile]
          omega
theorem lsl_ok (y : MdS) (k : Int32) {o c : Nat} : ∀ n a b f, o ≤ a → a + n = c → ((f = false ∧ ∀ x, o ≤ x → x < a → k * (nI y.ct - nI y.old) < 256 * y.above x) ∨ (f = true ∧ (∃ j, o ≤ j ∧ j < a ∧ ¬ k * (nI y.ct - nI y.old) < 256 * y.above j ∧ b = y.se j) ∧ ∀ x, o ≤ x → x < a → ¬ k * (nI y.ct - nI y.old) < 256 * y.above x → b ≤ y.se x)) →
    ((∀ x, o ≤ x → x < c → k * (nI y.ct - nI y.old) < 256 * y.above x) ∨ ((∃ j, o ≤ j ∧ j < c ∧ ¬ k * (nI y.ct - nI y.old) < 256 * y.above j ∧ lsl y k n a b f = y.se j) ∧ ∀ x, o ≤ x → x < c → ¬ k * (nI y.ct - nI y.old) < 256 * y.above x → lsl y k n a b f ≤ y.se x))
  | 0, a, b, f, h0, h1, H => by
    have e : a = c := by omega
    subst e
    rcases H with ⟨_, H⟩ | ⟨_, H1, H2⟩
    · exact Or.inl H
    · exact Or.inr ⟨H1, H2⟩
  | n + 1, a, b, f, h0, h1, H => by
    rw [lsl]
    by_cases q : k * (nI y.ct - nI y.old) < 256 * y.above a
    · rw [if_pos q]
      refine lsl_ok y k n (a + 1) b f (by omega) (by omega) ?_
      rcases H with ⟨hf, H⟩ | ⟨hf, ⟨j, j1, j2, j3, j4⟩, H2⟩
      · refine Or.inl ⟨hf, fun x hx hx2 => ?_⟩
        rcases (show x < a ∨ x = a by omega) with d | d
        · exact H x hx d
        · subst d
          exact q
      · refine Or.inr ⟨hf, ⟨j, j1, by omega, j3, j4⟩, fun x hx hx2 hp => ?_⟩
        rcases (show x < a ∨ x = a by omega) with d | d
        · exact H2 x hx d hp
        · subst d
          exact absurd q hp
    · rw [if_neg q]
      refine lsl_ok y k n (a + 1) _ true (by omega) (by omega) (Or.inr ⟨rfl, ?_⟩)
      rcases H with ⟨hf, H⟩ | ⟨hf, ⟨j, j1, j2, j3, j4⟩, H2⟩
      · subst hf
        rw [if_pos (show b2i false = 0 by decide)]
        refine ⟨⟨a, h0, by omega, q, rfl⟩, fun x hx hx2 hp => ?_⟩
        rcases (show x < a ∨ x = a by omega) with d | d
        · exact absurd (H x hx d) hp
        · subst d
          rw [jle]
          omega
      · subst hf
        rw [if_neg (show ¬ b2i true = 0 by decide)]
        by_cases q2 : b ≤ y.se a
        · rw [if_pos q2]
          refine ⟨⟨j, j1, by omega, j3, j4⟩, fun x hx hx2 hp => ?_⟩
          rcases (show x < a ∨ x = a by omega) with d | d
          · exact H2 x hx d hp
          · subst d
            exact q2
        · rw [if_neg q2]
          refine ⟨⟨a, h0, by omega, q, rfl⟩, fun x hx hx2 hp => ?_⟩
          rcases (show x < a ∨ x = a by omega) with d | d
          · have := H2 x hx d hp
            rw [jle] at this q2 ⊢
            omega
          · subst d
            rw [jle]
            omega
/-- the class's row of wishes and the reference's, for the answer of the share -/
theorem share_rel {w : WisS} {y : MdS} {k : Int32} (h : Rvs w.ds y.se w.sz y.ct) (hn : 0 < w.sz) (ho : y.ct - w.sz = y.old) (hk : 0 ≤ k.toInt ∧ k.toInt ≤ 256) : (w.share k).toInt = (y.lst k).toInt := by
  have hN := h.1
  have hc := h.2.2.1
  have hle := h.2.1
  have hcnt : nI y.ct - nI y.old = nI w.sz := by
    rw [pk_sub (show y.old ≤ y.ct by omega), show y.ct - y.old = w.sz by omega]
  have hab : ∀ i, i < w.sz → w.above (rg 32 w.ds (nI i)) = y.above (y.ct - 1 - i) := by
    intro i hi
    have := h.above hi
    unfold WisS.above MdS.above
    rw [show y.ct - y.old = w.sz by omega, ← ho]
    exact this
  obtain ⟨⟨j0, g1, g2⟩, g3⟩ := most_ok w hn
  have pass : ¬ k * nI w.sz < 256 * w.above (rg 32 w.ds (nI j0)) := by
    have e1 := cgt_pc (fun i => rg 32 w.ds (nI i)) (rg 32 w.ds (nI j0)) w.sz 0 0
    have e0 : pc (fun x => decide ((rg 32 w.ds (nI j0)).toInt < (rg 32 w.ds (nI x)).toInt)) w.sz 0 = 0 := by
      have : ∀ n i, i + n ≤ w.sz → pc (fun x => decide ((rg 32 w.ds (nI j0)).toInt < (rg 32 w.ds (nI x)).toInt)) n i = 0 := by
        intro n
        induction n with
        | zero => intro i _; rfl
        | succ n ih =>
          intro i hi
          rw [pc, ih (i + 1) (by omega), if_neg]
          rw [decide_eq_true_eq]
          have := ile.mp (g3 i (by omega))
          rw [g2] at this
          omega
      exact this _ _ (by omega)
    rw [nI_0, e0] at e1
    have e2 : w.above (rg 32 w.ds (nI j0)) = 0 := e1
    rw [e2, show (256 : Int32) * 0 = 0 by decide, ilt]
    obtain ⟨q, hq, eq⟩ := nI_of (x := k) (by rw [ilt, show (0 : Int32).toInt = 0 by decide]; omega)
    subst eq
    rw [nI_toInt hq] at hk
    have hb : q * w.sz ≤ 256 * 32 := Nat.mul_le_mul (by omega) hN
    rw [pk_mul, nI_toInt (by omega), show (0 : Int32).toInt = 0 by decide]
    omega
  have A := bsl_ok w k (N := w.sz) w.sz 0 (w.most w.sz) (by omega) ⟨j0, g1, pass, g2⟩ (fun x hx => absurd hx (Nat.not_lt_zero x))
  have B := lsl_ok y k (o := y.old) (c := y.ct) (y.ct - y.old) y.old 0 false (Nat.le_refl _) (by omega) (Or.inl ⟨rfl, fun x a b => by omega⟩)
  obtain ⟨⟨j, j1, j2, j3⟩, A2⟩ := A
  have A3 : w.share k = rg 32 w.ds (nI j) := j3
  have pr : ∀ i, i < w.sz → (¬ k * nI w.sz < 256 * w.above (rg 32 w.ds (nI i)) ↔ ¬ k * (nI y.ct - nI y.old) < 256 * y.above (y.ct - 1 - i)) := by
    intro i hi
    rw [hab i hi, hcnt]
  rcases B with B | ⟨⟨x, x1, x2, x3, x4⟩, B2⟩
  · exact absurd (B (y.ct - 1 - j) (by omega) (by omega)) ((pr j j1).mp j2)
  · have B3 : y.lst k = y.se x := x4
    obtain ⟨i, i1, i2, i3⟩ := h.back (x := x) (by omega) x2
    have p1 : ¬ k * nI w.sz < 256 * w.above (rg 32 w.ds (nI i)) := by
      rw [pr i i1, ← i2]
      exact x3
    have l1 := ile.mp (A2 i i1 p1)
    have l2 := jle.mp (B2 (y.ct - 1 - j) (by omega) (by omega) ((pr j j1).mp j2))
    have l1 : (w.share k).toInt ≤ (rg 32 w.ds (nI i)).toInt := l1
    have l2 : (y.lst k).toInt ≤ (y.se (y.ct - 1 - j)).toInt := l2
    rw [← h.2.2.2 j j1, ← A3] at l2
    rw [i3, ← B3] at l1
    omega
