/-! Whether an arrival is refused, and what a spike makes of it. -/
theorem refuse_rel {z : SpcS} {y : MdS} (h : Rel z y) (n v p t : Int32) :
    (z.refuse n v p t = 0 ∧ ∃ m a b tt, m < 300 ∧ a ≤ m ∧ b ≤ a ∧ tt ≤ 30000 ∧ n = nI m ∧ v = nI a ∧ p = nI b ∧ t = nI tt ∧ y.ct < 120 ∧ y.ca m = -9 ∧ z.sp.bar n v p = 0 ∧ y.arrive n v p t = y.let_in m v p t) ∨ (¬ z.refuse n v p t = 0 ∧ y.arrive n v p t = (z.refuse n v p t, y)) := by
  have hc := h.ct120
  unfold SpcS.refuse MdS.arrive
  by_cases q1 : iout n 0 299 = 0
  · rw [if_pos q1, if_neg (win_iout.mpr q1)]
    by_cases q2 : iout v 0 n = 0
    · rw [if_pos q2, if_neg (win_iout.mpr q2)]
      by_cases q3 : iout p 0 v = 0
      · rw [if_pos q3, if_neg (win_iout.mpr q3)]
        by_cases q4 : iout t 0 30000 = 0
        · rw [if_pos q4, if_neg (win_iout.mpr q4)]
          obtain ⟨m, hm, e1⟩ := (iout_nI (m := 299) (by decide)).mp q1
          subst e1
          obtain ⟨a, ha, e2⟩ := (iout_nI (m := m) (by omega)).mp q2
          subst e2
          obtain ⟨b, hb, e3⟩ := (iout_nI (m := a) (by omega)).mp q3
          subst e3
          obtain ⟨tt, ht, e4⟩ := (iout_nI (m := 30000) (by decide)).mp q4
          subst e4
          rw [nI_clamp (show m < 2 ^ 31 by omega)]
          unfold MdS.arr1 MdS.shut
          rw [nI_clamp (show m < 2 ^ 31 by omega)]
          -- the time
          have hlat : (nI tt < z.ar.latest) ↔ (¬ nI y.ct ≤ 0 ∧ nI tt < y.wh (y.ct - 1)) := by
            unfold ArrS.latest
            rw [h.ct]
            rcases Nat.eq_zero_or_pos y.ct with e | e
            · rw [e, if_pos (show nI 0 = 0 from nI_0)]
              exact ⟨fun c => absurd c (nI_pos (by omega)), fun c => absurd (show nI 0 ≤ 0 by decide) c.1⟩
            · rw [if_neg (nI_ne0 e (by omega)), nI_dec e, rg_at (by omega) (by decide), h.wh]
              exact ⟨fun c => ⟨nI_nle e (by omega), c⟩, fun c => c.2⟩
          have hshut : ∀ (b1 : Int32), (if nI y.ct ≤ 0 then (if y.ca m = -9 then b1 else 1) else if nI tt < y.wh (y.ct - 1) then 1 else if y.ca m = -9 then b1 else 1) = if nI tt < z.ar.latest then 1 else if y.ca m = -9 then b1 else 1 := by
            intro b1
            by_cases c1 : nI y.ct ≤ 0
            · rw [if_pos c1, if_neg (fun c => (hlat.mp c).1 c1)]
            · rw [if_neg c1]
              by_cases c2 : nI tt < y.wh (y.ct - 1)
              · rw [if_pos c2, if_pos (hlat.mpr ⟨c1, c2⟩)]
              · rw [if_neg c2, if_neg (fun c => c2 (hlat.mp c).2)]
          rw [hshut]
          by_cases q5 : nI tt < z.ar.latest
          · rw [if_pos q5, if_pos q5, if_neg (show ¬ (1 : Int32) = 0 by decide)]
            exact Or.inr ⟨by decide, rfl⟩
          · rw [if_neg q5, if_neg q5]
            rcases h.paat (m := m) (by omega) with ⟨c1, c2⟩ | ⟨a9, _, _, _, c1, c2⟩
            · rw [if_pos c2, if_pos c1]
              by_cases q6 : z.sp.bar (nI m) (nI a) (nI b) = 0
              · rw [if_pos q6, if_pos ((bar_rel h _ _ _).mp q6)]
                by_cases q7 : y.ct < 120
                · rw [if_pos (show nI z.ar.ct < 120 by rw [h.ct]; exact nI_lt (b := 120) q7 (by decide)), if_neg (show ¬ nI y.ct = 120 from fun c => by have := (nI_eq (b := 120) (by omega) (by decide)).mp c; omega)]
                  exact Or.inl ⟨rfl, m, a, b, tt, by omega, ha, hb, ht, rfl, rfl, rfl, rfl, q7, c1, q6, rfl⟩
                · have e : y.ct = 120 := by omega
                  rw [if_neg (show ¬ nI z.ar.ct < 120 by rw [h.ct, e]; decide), if_pos (show nI y.ct = 120 by rw [e]; decide)]
                  exact Or.inr ⟨by decide, rfl⟩
              · rw [if_neg q6, if_neg (fun c => q6 ((bar_rel h _ _ _).mpr c))]
                exact Or.inr ⟨by decide, rfl⟩
            · rw [if_neg (show ¬ rg 300 z.ar.pa (nI m) - 1 = -1 by rw [c2]; exact nI_ne_neg (by omega) (by decide)), if_neg c1, if_neg (show ¬ (1 : Int32) = 0 by decide)]
              exact Or.inr ⟨by decide, rfl⟩
        · rw [if_neg q4, if_pos (iout_win.mpr q4)]
          exact Or.inr ⟨by decide, rfl⟩
      · rw [if_neg q3, if_pos (iout_win.mpr q3)]
        exact Or.inr ⟨by decide, rfl⟩
    · rw [if_neg q2, if_pos (iout_win.mpr q2)]
      exact Or.inr ⟨by decide, rfl⟩
  · rw [if_neg q1, if_pos (iout_win.mpr q1)]
    exact Or.inr ⟨by decide, rfl⟩
/-- a search for a head, the class's and the reference's -/
theorem withHead_rel {z : SpcS} {y : MdS} (h : Rel z y) (v : Int32) : (z.sp.withHead v = -1 ∧ y.spurtBy v = -9 ∧ ∀ k, k < y.sp → ¬ y.hd k = v) ∨ ∃ k, k < y.sp ∧ z.sp.withHead v = nI k ∧ y.spurtBy v = nI k ∧ y.hd k = v := by
  have hs := h.sp120
  have e : ∀ n i, i + n ≤ y.sp → (fnd (fun i => rg 120 z.sp.hd (nI i)) v (-1) n i = -1 ∧ fnd y.hd v (-9) n i = -9) ∨ ∃ k, fnd (fun i => rg 120 z.sp.hd (nI i)) v (-1) n i = nI k ∧ fnd y.hd v (-9) n i = nI k ∧ k < i + n := by
    intro n
    induction n with
    | zero => intro i _; exact Or.inl ⟨rfl, rfl⟩
    | succ n ih =>
      intro i hi
      rw [fnd, fnd, rg_at (by omega) (by decide), h.hd]
      by_cases q : y.hd i = v
      · rw [if_pos q, if_pos q]
        exact Or.inr ⟨i, rfl, rfl, by omega⟩
      · rw [if_neg q, if_neg q]
        rcases ih (i + 1) (by omega) with c | ⟨k, c1, c2, c3⟩
        · rw [h.hd] at c
          exact Or.inl c
        · rw [h.hd] at c1
          exact Or.inr ⟨k, c1, c2, by omega⟩
  have e0 : z.sp.withHead v = fnd (fun i => rg 120 z.sp.hd (nI i)) v (-1) y.sp 0 := by
    unfold SpuS.withHead
    rw [h.spc]
  rcases spurtBy_or h v with ⟨a, b⟩ | ⟨k, a, b, c⟩
  · rcases e y.sp 0 (by omega) with ⟨c1, c2⟩ | ⟨k, c1, c2, c3⟩
    · exact Or.inl ⟨e0.trans c1, a, b⟩
    · have c2 : y.spurtBy v = nI k := c2
      rw [a] at c2
      exact absurd c2.symm (nI_ne_neg (by omega) (by decide))
  · rcases e y.sp 0 (by omega) with ⟨c1, c2⟩ | ⟨j, c1, c2, c3⟩
    · have c2 : y.spurtBy v = -9 := c2
      rw [b] at c2
      exact absurd c2 (nI_ne_neg (by omega) (by decide))
    · have c2 : y.spurtBy v = nI j := c2
      have : j = k := (nI_eq (by omega) (by omega)).mp (c2.symm.trans b)
      subst this
      exact Or.inr ⟨j, a, e0.trans c1, b, c⟩
