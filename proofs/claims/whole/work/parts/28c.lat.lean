/-! The greatest of the last three. -/
theorem ltl_ok (y : MdS) {o c : Nat} (ho : y.old = o) (hy : y.ct = c) (hc : c ≤ 120) (hoc : o < c) : ∀ n j m, o ≤ j → j ≤ c → n + (c - j) = 3 → (∃ x, o ≤ x ∧ c ≤ x + 3 ∧ x < c ∧ m = y.se x) → (∀ x, j ≤ x → x < c → y.se x ≤ m) →
    (∃ x, o ≤ x ∧ c ≤ x + 3 ∧ x < c ∧ ltl y n j m = y.se x) ∧ ∀ x, o ≤ x → c ≤ x + 3 → x < c → y.se x ≤ ltl y n j m
  | 0, j, m, h1, h2, h3, H, G => ⟨H, fun x a b d => G x (by omega) d⟩
  | n + 1, j, m, h1, h2, h3, ⟨x, x1, x2, x3, x4⟩, G => by
    rw [ltl, ho, hy]
    by_cases q : j = o
    · have q1 : nI j - 1 < nI o := by
        rw [ilt, show (1 : Int32) = nI 1 from rfl, pk_sub_toInt (by omega) (by omega), nI_toInt (by omega)]
        omega
      rw [if_pos q1]
      exact ⟨⟨x, x1, x2, x3, x4⟩, fun x a b d => G x (by omega) d⟩
    · have q1 : ¬ nI j - 1 < nI o := by
        rw [ilt, show (1 : Int32) = nI 1 from rfl, pk_sub_toInt (by omega) (by omega), nI_toInt (by omega)]
        omega
      have q2 : ¬ nI j - 1 ≤ nI c - 4 := by
        rw [ile, show (1 : Int32) = nI 1 from rfl, show (4 : Int32) = nI 4 from rfl, pk_sub_toInt (by omega) (by omega), pk_sub_toInt (by omega) (by omega)]
        omega
      rw [if_neg q1, if_neg q2]
      refine ltl_ok y ho hy hc hoc n (j - 1) _ (by omega) (by omega) (by omega) ?_ ?_
      · by_cases q3 : y.se (j - 1) ≤ m
        · rw [if_pos q3]
          exact ⟨x, x1, x2, x3, x4⟩
        · rw [if_neg q3]
          exact ⟨j - 1, by omega, by omega, by omega, rfl⟩
      · intro w w1 w2
        by_cases q3 : y.se (j - 1) ≤ m
        · rw [if_pos q3]
          rcases (show w = j - 1 ∨ j ≤ w by omega) with d | d
          · subst d
            exact q3
          · exact G w d w2
        · rw [if_neg q3]
          rcases (show w = j - 1 ∨ j ≤ w by omega) with d | d
          · subst d
            rw [jle]
            omega
          · have := G w d w2
            rw [jle] at this q3 ⊢
            omega
theorem lat_rel {w : WisS} {y : MdS} (h : Rvs w.ds y.se w.sz y.ct) (hn : 0 < w.sz) (ho : y.ct - w.sz = y.old) : (w.most (min w.sz 3)).toInt = y.lat.toInt := by
  have hN := h.1
  have hc := h.2.2.1
  have hle := h.2.1
  obtain ⟨⟨j, g1, g2⟩, g3⟩ := most_ok w (k := min w.sz 3) (by omega)
  obtain ⟨⟨x, x1, x2, x3, x4⟩, B⟩ := ltl_ok y (o := y.old) (c := y.ct) rfl rfl hc (by omega) 3 y.ct (y.se (y.ct - 1)) (by omega) (by omega) (by omega) ⟨y.ct - 1, by omega, by omega, by omega, rfl⟩ (fun x a b => by omega)
  have x4 : y.lat = y.se x := x4
  obtain ⟨i, i1, i2, i3⟩ := h.back (x := x) (by omega) x3
  have l1 := ile.mp (g3 i (by omega))
  have l2 := jle.mp (B (y.ct - 1 - j) (by omega) (by omega) (by omega))
  have l2 : (y.se (y.ct - 1 - j)).toInt ≤ y.lat.toInt := l2
  rw [← h.2.2.2 j (by omega), ← g2] at l2
  rw [i3, ← x4] at l1
  omega
/-- the row of delays as it is gathered -/
theorem gatl_at (ar : ArrS) : ∀ n i f x, i + n ≤ 32 → i ≤ x → x < i + n → gatl ar n i f x = ar.dl (nI ar.ct - 1 - nI x)
  | 0, i, f, x, h0, h1, h2 => by omega
  | n + 1, i, f, x, h0, h1, h2 => by
    rw [gatl]
    by_cases q : x = i
    · subst q
      have low : ∀ n i f, x < i → i + n ≤ 32 → gatl ar n i f x = f x := by
        intro n
        induction n with
        | zero => intro i f _ _; rfl
        | succ n ih =>
          intro i f hi hb
          rw [gatl, ih (i + 1) _ (by omega) (by omega), rs_at (by omega) (by decide), pk_un (by omega)]
      rw [low n (x + 1) _ (by omega) (by omega), rs_at (by omega) (by decide), pk_us]
    · exact gatl_at ar n (i + 1) _ x (by omega) (by omega) (by omega)
/-- what a wish rests on -/
def WR (z : SpcS) (y : MdS) : Prop := z.ar.ct = y.ct ∧ y.ct ≤ 120 ∧ z.ar.fr = y.fr ∧ z.ar.wh = y.wh ∧ (∀ n, n < 300 → z.ar.pa n = if y.ca n = -9 then 0 else y.ca n + 1) ∧ (∀ a, a < y.ct → ∃ m, m < 300 ∧ y.fr a = nI m ∧ y.ca m = nI a) ∧ (∀ n, n < 300 → y.ca n = -9 ∨ ∃ a, a < y.ct ∧ y.ca n = nI a ∧ y.fr a = nI n) ∧ (∀ a, a < y.ct → ∃ t, t ≤ 30000 ∧ y.wh a = nI t) ∧ z.mn = y.mn ∧ z.mk = y.mk ∧ z.sg.on = y.on
theorem Rel.wr {z : SpcS} {y : MdS} (h : Rel z y) : WR z y := ⟨h.ct, h.ct120, h.fr, h.wh, h.pa, h.i1, h.i2, h.i3, h.mn, h.mk, h.on⟩
theorem WR.dlI {z : SpcS} {y : MdS} (h : WR z y) {a : Nat} (ha : a < y.ct) : ∃ m t, m < 300 ∧ t ≤ 30000 ∧ y.fr a = nI m ∧ y.wh a = nI t ∧ (y.dl a).toInt = (t : Int) - 20 * m ∧ z.ar.dl (nI a) = y.dl a := by
  obtain ⟨h1, h2, h3, h4, h5, h6, h7, h8, _⟩ := h
  obtain ⟨m, hm, e1, _⟩ := h6 a ha
  obtain ⟨t, ht, e2⟩ := h8 a ha
  refine ⟨m, t, hm, ht, e1, e2, ?_, ?_⟩
  · unfold MdS.dl
    rw [e1, e2, show (20 : Int32) = nI 20 from rfl, pk_mul, pk_sub_toInt (by omega) (by omega)]
    omega
  · unfold ArrS.dl MdS.dl
    rw [rg_at (by omega) (by decide), rg_at (by omega) (by decide), h3, h4]
