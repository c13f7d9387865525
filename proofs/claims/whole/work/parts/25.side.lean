/-! The spurts beside a head: the reference's search against the class's row of ranks. -/
theorem bsd_lo {y : MdS} {h : Int32} (hs : y.sp ≤ 120) : ∀ n k r, k + n ≤ y.sp → ((r = -9 ∧ ∀ x, x < k → ¬ y.hd x < h) ∨ ∃ j, j < k ∧ r = nI j ∧ y.hd j < h ∧ ∀ x, x < k → y.hd x < h → y.hd x ≤ y.hd j) →
    ((bsd y h true n k r = -9 ∧ ∀ x, x < k + n → ¬ y.hd x < h) ∨ ∃ j, j < k + n ∧ bsd y h true n k r = nI j ∧ y.hd j < h ∧ ∀ x, x < k + n → y.hd x < h → y.hd x ≤ y.hd j)
  | 0, _, _, _, H => H
  | n + 1, k, r, hk, H => by
    rw [bsd, show k + (n + 1) = k + 1 + n by omega]
    refine bsd_lo hs n (k + 1) _ (by omega) ?_
    unfold bst
    rw [if_neg (show ¬ b2i true = 0 by decide)]
    by_cases q : h ≤ y.hd k
    · rw [if_pos q]
      rcases H with ⟨e, H⟩ | ⟨j, h1, h2, h3, H⟩
      · left
        refine ⟨e, fun x hx c => ?_⟩
        rcases (show x < k ∨ x = k by omega) with hx | hx
        · exact H x hx c
        · subst hx
          exact nle_of c q
      · right
        refine ⟨j, by omega, h2, h3, fun x hx c => ?_⟩
        rcases (show x < k ∨ x = k by omega) with hx | hx
        · exact H x hx c
        · subst hx
          exact absurd q (nle_of c)
    · rw [if_neg q]
      have q1 : y.hd k < h := by rw [ile] at q; rw [ilt]; omega
      right
      rcases H with ⟨e, H⟩ | ⟨j, h1, h2, h3, H⟩
      · rw [if_pos e]
        refine ⟨k, by omega, rfl, q1, fun x hx c => ?_⟩
        rcases (show x < k ∨ x = k by omega) with hx | hx
        · exact absurd c (H x hx)
        · subst hx
          rw [ile]
          omega
      · subst h2
        rw [if_neg (nI_ne_neg (by omega) (by decide)), nI_clamp (by omega)]
        by_cases q2 : y.hd k ≤ y.hd j
        · rw [if_pos q2]
          refine ⟨j, by omega, rfl, h3, fun x hx c => ?_⟩
          rcases (show x < k ∨ x = k by omega) with hx | hx
          · exact H x hx c
          · subst hx
            exact q2
        · rw [if_neg q2]
          refine ⟨k, by omega, rfl, q1, fun x hx c => ?_⟩
          rcases (show x < k ∨ x = k by omega) with hx | hx
          · have := H x hx c
            rw [ile] at this q2 ⊢
            omega
          · subst hx
            rw [ile]
            omega
theorem bsd_hi {y : MdS} {h : Int32} (hs : y.sp ≤ 120) : ∀ n k r, k + n ≤ y.sp → ((r = -9 ∧ ∀ x, x < k → ¬ h < y.hd x) ∨ ∃ j, j < k ∧ r = nI j ∧ h < y.hd j ∧ ∀ x, x < k → h < y.hd x → y.hd j ≤ y.hd x) →
    ((bsd y h false n k r = -9 ∧ ∀ x, x < k + n → ¬ h < y.hd x) ∨ ∃ j, j < k + n ∧ bsd y h false n k r = nI j ∧ h < y.hd j ∧ ∀ x, x < k + n → h < y.hd x → y.hd j ≤ y.hd x)
  | 0, _, _, _, H => H
  | n + 1, k, r, hk, H => by
    rw [bsd, show k + (n + 1) = k + 1 + n by omega]
    refine bsd_hi hs n (k + 1) _ (by omega) ?_
    unfold bst
    rw [if_pos (show b2i false = 0 by decide)]
    by_cases q : y.hd k ≤ h
    · rw [if_pos q]
      rcases H with ⟨e, H⟩ | ⟨j, h1, h2, h3, H⟩
      · left
        refine ⟨e, fun x hx c => ?_⟩
        rcases (show x < k ∨ x = k by omega) with hx | hx
        · exact H x hx c
        · subst hx
          exact nle_of c q
      · right
        refine ⟨j, by omega, h2, h3, fun x hx c => ?_⟩
        rcases (show x < k ∨ x = k by omega) with hx | hx
        · exact H x hx c
        · subst hx
          exact absurd q (nle_of c)
    · rw [if_neg q]
      have q1 : h < y.hd k := by rw [ile] at q; rw [ilt]; omega
      right
      rcases H with ⟨e, H⟩ | ⟨j, h1, h2, h3, H⟩
      · rw [if_pos e]
        refine ⟨k, by omega, rfl, q1, fun x hx c => ?_⟩
        rcases (show x < k ∨ x = k by omega) with hx | hx
        · exact absurd c (H x hx)
        · subst hx
          rw [ile]
          omega
      · subst h2
        rw [if_neg (nI_ne_neg (by omega) (by decide)), nI_clamp (by omega)]
        by_cases q2 : y.hd j ≤ y.hd k
        · rw [if_pos q2]
          refine ⟨j, by omega, rfl, h3, fun x hx c => ?_⟩
          rcases (show x < k ∨ x = k by omega) with hx | hx
          · exact H x hx c
          · subst hx
            exact q2
        · rw [if_neg q2]
          refine ⟨k, by omega, rfl, q1, fun x hx c => ?_⟩
          rcases (show x < k ∨ x = k by omega) with hx | hx
          · have := H x hx c
            rw [ile] at this q2 ⊢
            omega
          · subst hx
            rw [ile]
            omega
/-- the spurt below: none, or the class's row of ranks has it -/
theorem side_lo {z : SpcS} {y : MdS} (h : Rel z y) (v : Int32) : (y.bl v = 0 ∧ y.beside v true = -9) ∨ (0 < y.bl v ∧ ∃ j, j < y.sp ∧ z.sp.rk (y.bl v - 1) = nI j ∧ y.beside v true = nI j) := by
  have hs := h.sp120
  have hle : y.bl v ≤ 0 + y.sp := cltN_le y.hd v y.sp 0 0
  have H := bsd_lo (y := y) (h := v) hs y.sp 0 (-9) (by omega) (Or.inl ⟨rfl, fun x hx => absurd hx (Nat.not_lt_zero x)⟩)
  rw [Nat.zero_add] at H
  rcases Nat.eq_zero_or_pos (y.bl v) with e | e
  · left
    refine ⟨e, ?_⟩
    rcases H with ⟨H, _⟩ | ⟨j, h1, h2, h3, _⟩
    · exact H
    · have : 0 < y.bl v := clt_pos h3 y.sp 0 (by omega) (by omega)
      omega
  · right
    refine ⟨e, ?_⟩
    obtain ⟨k, hk, e1, e2⟩ := h.d3 (y.bl v - 1) (by omega)
    have e2 : y.bl (y.hd k) = y.bl v - 1 := e2
    have k1 : y.hd k < v := by
      rw [ilt]
      rcases (show (y.hd k).toInt < v.toInt ∨ v.toInt ≤ (y.hd k).toInt by omega) with q | q
      · exact q
      · have : y.bl v ≤ y.bl (y.hd k) := clt_mono (ile.mpr q) y.sp 0
        omega
    have k2 : ∀ x, x < y.sp → y.hd x < v → y.hd x ≤ y.hd k := by
      intro x hx c
      rw [ile]
      rcases (show (y.hd x).toInt ≤ (y.hd k).toInt ∨ (y.hd k).toInt < (y.hd x).toInt by omega) with q | q
      · exact q
      · have a1 : y.bl (y.hd k) < y.bl (y.hd x) := clt_strict (f := y.hd) (x := k) (ile.mpr (by omega)) (ile.mpr (by omega)) (ilt.mpr q) y.sp 0 (by omega) (by omega)
        have a2 : y.bl (y.hd x) < y.bl v := clt_strict (f := y.hd) (x := x) (ile.mpr (by have := ilt.mp c; omega)) (ile.mpr (by omega)) c y.sp 0 (by omega) (by omega)
        omega
    rcases H with ⟨_, H⟩ | ⟨j, h1, h2, h3, H⟩
    · exact absurd k1 (H k hk)
    · refine ⟨j, h1, ?_, h2⟩
      have a1 := ile.mp (H k hk k1)
      have a2 := ile.mp (k2 j h1 h3)
      rw [e1, h.i6d k j hk h1 (ine.mpr (by omega))]
theorem side_hi {z : SpcS} {y : MdS} (h : Rel z y) (v : Int32) (hv : ∀ x, x < y.sp → ¬ y.hd x = v) : (y.bl v = y.sp ∧ y.beside v false = -9) ∨ (y.bl v < y.sp ∧ ∃ j, j < y.sp ∧ z.sp.rk (y.bl v) = nI j ∧ y.beside v false = nI j) := by
  have hs := h.sp120
  have hle : y.bl v ≤ 0 + y.sp := cltN_le y.hd v y.sp 0 0
  have H := bsd_hi (y := y) (h := v) hs y.sp 0 (-9) (by omega) (Or.inl ⟨rfl, fun x hx => absurd hx (Nat.not_lt_zero x)⟩)
  rw [Nat.zero_add] at H
  rcases (show y.bl v = y.sp ∨ y.bl v < y.sp by omega) with e | e
  · left
    refine ⟨e, ?_⟩
    rcases H with ⟨H, _⟩ | ⟨j, h1, h2, h3, _⟩
    · exact H
    · have : y.bl v < y.sp := clt_ltn (f := y.hd) (x := j) (ile.mpr (by have := ilt.mp h3; omega)) y.sp 0 (by omega) (by omega)
      omega
  · right
    refine ⟨e, ?_⟩
    obtain ⟨k, hk, e1, e2⟩ := h.d3 (y.bl v) e
    have e2 : y.bl (y.hd k) = y.bl v := e2
    have k1 : v < y.hd k := by
      rw [ilt]
      have ne : ¬ (y.hd k).toInt = v.toInt := fun c => hv k hk (ine.mpr c)
      rcases (show v.toInt < (y.hd k).toInt ∨ (y.hd k).toInt < v.toInt by omega) with q | q
      · exact q
      · have : y.bl (y.hd k) < y.bl v := clt_strict (f := y.hd) (x := k) (ile.mpr (by omega)) (ile.mpr (by omega)) (ilt.mpr q) y.sp 0 (by omega) (by omega)
        omega
    have k2 : ∀ x, x < y.sp → v < y.hd x → y.hd k ≤ y.hd x := by
      intro x hx c
      rw [ile]
      rcases (show (y.hd k).toInt ≤ (y.hd x).toInt ∨ (y.hd x).toInt < (y.hd k).toInt by omega) with q | q
      · exact q
      · have a1 : y.bl (y.hd x) < y.bl (y.hd k) := clt_strict (f := y.hd) (x := x) (ile.mpr (by omega)) (ile.mpr (by omega)) (ilt.mpr q) y.sp 0 (by omega) (by omega)
        have a2 : y.bl v ≤ y.bl (y.hd x) := clt_mono (ile.mpr (by have := ilt.mp c; omega)) y.sp 0
        omega
    rcases H with ⟨_, H⟩ | ⟨j, h1, h2, h3, H⟩
    · exact absurd k1 (H k hk)
    · refine ⟨j, h1, ?_, h2⟩
      have a1 := ile.mp (H k hk k1)
      have a2 := ile.mp (k2 j h1 h3)
      rw [e1, h.i6d k j hk h1 (ine.mpr (by omega))]
/-- the class's turn of a wish is the reference's -/
theorem turn_rel {z : SpcS} {y : MdS} (h : Rel z y) (v p w : Int32) (hv : ∀ x, x < y.sp → ¬ y.hd x = v) : z.sp.turn v p w = y.tf2 (y.tf1 p w (y.beside v true)) (y.beside v false) := by
  have hs := h.sp120
  have hle : y.bl v ≤ 0 + y.sp := cltN_le y.hd v y.sp 0 0
  unfold SpuS.turn
  rw [h.bel]
  have t1 : z.sp.turn1 p w (nI (y.bl v)) = y.tf1 p w (y.beside v true) := by
    unfold SpuS.turn1 MdS.tf1
    rcases side_lo h v with ⟨e1, e2⟩ | ⟨e1, j, hj, e2, e3⟩
    · rw [e1, if_pos (show nI 0 ≤ 0 by decide), if_pos e2]
    · rw [if_neg (nI_nle e1 (by omega)), e3, if_neg (nI_ne_neg (by omega) (by decide)), nI_dec e1, rg_at (show y.bl v - 1 < 120 by omega) (by decide), e2, rg_at (show j < 120 by omega) (by decide), h.tm, nI_clamp (by omega)]
      show (if w < y.tm j - 20 * p then _ else _) = _
      by_cases q : y.tm j - 20 * p ≤ w
      · rw [if_pos q, if_neg (fun c => nle_of c q)]
      · rw [if_neg q, if_pos (show w < y.tm j - 20 * p by rw [ile] at q; rw [ilt]; omega)]
  rw [t1]
  generalize y.tf1 p w (y.beside v true) = t
  unfold SpuS.turn2 MdS.tf2
  rw [h.spc]
  rcases side_hi h v hv with ⟨e1, e2⟩ | ⟨e1, j, hj, e2, e3⟩
  · rw [e1, if_pos (nI_le (Nat.le_refl _) (by omega)), if_pos e2]
  · rw [if_neg (nI_ge e1 (by omega)), e3, if_neg (nI_ne_neg (by omega) (by decide)), rg_at (show y.bl v < 120 by omega) (by decide), e2, rg_at (show j < 120 by omega) (by decide), rg_at (show j < 120 by omega) (by decide), h.tm, h.ps, nI_clamp (by omega)]
    show (if y.tm j + 20 * y.ps j < t then _ else _) = _
    by_cases q : t ≤ y.tm j + 20 * y.ps j
    · rw [if_pos q, if_neg (fun c => nle_of c q)]
    · rw [if_neg q, if_pos (show y.tm j + 20 * y.ps j < t by rw [ile] at q; rw [ilt]; omega)]
