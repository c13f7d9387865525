/-! The order of the spurts: how many heads lie below; inOrder; the spurts beside a head. -/
theorem clt_sh (f : Nat → Int32) (h : Int32) : ∀ n i a, cltN f h n i a = a + cltN f h n i 0
  | 0, _, a => by rw [cltN, cltN]; omega
  | n + 1, i, a => by
    rw [cltN, cltN, clt_sh f h n (i + 1) (if h ≤ f i then a else a + 1), clt_sh f h n (i + 1) (if h ≤ f i then 0 else 0 + 1)]
    split <;> omega
theorem clt_cg {f g : Nat → Int32} {h : Int32} : ∀ n i a, (∀ x, i ≤ x → x < i + n → f x = g x) → cltN f h n i a = cltN g h n i a
  | 0, _, _, _ => rfl
  | n + 1, i, a, H => by
    rw [cltN, cltN, H i (by omega) (by omega)]
    exact clt_cg n (i + 1) _ (fun x h1 h2 => H x (by omega) (by omega))
theorem clt_mono {f : Nat → Int32} {h h' : Int32} (hh : h ≤ h') : ∀ n i, cltN f h n i 0 ≤ cltN f h' n i 0
  | 0, _ => Nat.le_refl _
  | n + 1, i => by
    rw [cltN, cltN, clt_sh f h n (i + 1), clt_sh f h' n (i + 1)]
    have := clt_mono (f := f) hh n (i + 1)
    rw [ile] at hh
    by_cases q : h ≤ f i
    · rw [if_pos q]
      split <;> omega
    · rw [if_neg q, if_neg (show ¬ h' ≤ f i by rw [ile] at q ⊢; omega)]
      omega
theorem clt_strict {f : Nat → Int32} {h h' : Int32} (hh : h ≤ h') {x : Nat} (h1 : h ≤ f x) (h2 : f x < h') : ∀ n i, i ≤ x → x < i + n → cltN f h n i 0 < cltN f h' n i 0
  | 0, i, a, b => by omega
  | n + 1, i, a, b => by
    rw [cltN, cltN, clt_sh f h n (i + 1), clt_sh f h' n (i + 1)]
    by_cases q : x = i
    · subst q
      have := clt_mono (f := f) hh n (x + 1)
      rw [if_pos h1, if_neg (nle_of h2)]
      omega
    · have := clt_strict (f := f) hh h1 h2 n (i + 1) (by omega) (by omega)
      rw [ile] at hh
      by_cases q : h ≤ f i
      · rw [if_pos q]
        split <;> omega
      · rw [if_neg q, if_neg (show ¬ h' ≤ f i by rw [ile] at q ⊢; omega)]
        omega
theorem clt_ltn {f : Nat → Int32} {h : Int32} {x : Nat} (h1 : h ≤ f x) : ∀ n i, i ≤ x → x < i + n → cltN f h n i 0 < n
  | 0, i, a, b => by omega
  | n + 1, i, a, b => by
    rw [cltN, clt_sh f h n (i + 1)]
    have hle := cltN_le f h n (i + 1) 0
    by_cases q : x = i
    · subst q
      rw [if_pos h1]
      omega
    · have := clt_ltn (f := f) (h := h) h1 n (i + 1) (by omega) (by omega)
      split <;> omega
theorem clt_pos {f : Nat → Int32} {h : Int32} {x : Nat} (h1 : f x < h) : ∀ n i, i ≤ x → x < i + n → 0 < cltN f h n i 0
  | 0, i, a, b => by omega
  | n + 1, i, a, b => by
    rw [cltN, clt_sh f h n (i + 1)]
    by_cases q : x = i
    · subst q
      rw [if_neg (nle_of h1)]
      omega
    · have := clt_pos (f := f) (h := h) h1 n (i + 1) (by omega) (by omega)
      split <;> omega
/-- how many heads lie below h -/
def MdS.bl (y : MdS) (h : Int32) : Nat := cltN y.hd h y.sp 0 0
theorem Rel.bel {z : SpcS} {y : MdS} (h : Rel z y) (v : Int32) : z.sp.bel v = y.bl v := by
  have hs := h.sp120
  unfold SpuS.bel MdS.bl
  rw [h.spc]
  refine clt_cg _ _ _ (fun x _ h2 => ?_)
  rw [rg_at (by omega) (by decide), h.hd]
theorem bl_eq {z : SpcS} {y : MdS} (h : Rel z y) {j k : Nat} (hj : j < y.sp) (hk : k < y.sp) (e : y.bl (y.hd j) = y.bl (y.hd k)) : j = k := by
  refine h.i6d j k hj hk ?_
  rw [ine]
  unfold MdS.bl at e
  rcases (show (y.hd j).toInt < (y.hd k).toInt ∨ (y.hd j).toInt = (y.hd k).toInt ∨ (y.hd k).toInt < (y.hd j).toInt by omega) with q | q | q
  · have := clt_strict (f := y.hd) (h := y.hd j) (h' := y.hd k) (x := j) (ile.mpr (by omega)) (ile.mpr (by omega)) (ilt.mpr q) y.sp 0 (by omega) (by omega)
    omega
  · exact q
  · have := clt_strict (f := y.hd) (h := y.hd k) (h' := y.hd j) (x := k) (ile.mpr (by omega)) (ile.mpr (by omega)) (ilt.mpr q) y.sp 0 (by omega) (by omega)
    omega
theorem iol_clt (y : MdS) (q : Nat) : ∀ n x a, iol y q n x (nI a) = nI (cltN y.hd (y.hd q) n x a)
  | 0, _, _ => rfl
  | n + 1, x, a => by
    rw [iol, cltN, ← iol_clt y q n (x + 1), add0, nI_1]
    split <;> rfl
theorem iog_hit {z : SpcS} {y : MdS} (h : Rel z y) {r k : Nat} (hk : k < y.sp) (e : y.bl (y.hd k) = r) : ∀ n q, q ≤ k → q + n = y.sp → iog y (nI r) n q = nI k
  | 0, q, h1, h2 => by omega
  | n + 1, q, h1, h2 => by
    have hs := h.sp120
    have h0 : iol y q y.sp 0 0 = nI (y.bl (y.hd q)) := iol_clt y q y.sp 0 0
    have hb := cltN_le y.hd (y.hd q) y.sp 0 0
    have hb2 := cltN_le y.hd (y.hd k) y.sp 0 0
    rw [iog, h0]
    by_cases c : q = k
    · subst c
      rw [if_pos (by rw [e])]
    · have hq : y.bl (y.hd q) ≤ 0 + y.sp := hb
      have hr : r ≤ 0 + y.sp := by rw [← e]; exact hb2
      rw [if_neg (fun c2 => c (bl_eq h (by omega) hk (((nI_eq (by omega) (by omega)).mp c2).trans e.symm)))]
      exact iog_hit h hk e n (q + 1) (by omega) (by omega)
theorem iog_miss {y : MdS} (hs : y.sp ≤ 120) {v : Int32} (hv : ¬ ∃ j, j < y.sp ∧ v = nI j) : ∀ n q, q + n = y.sp → iog y v n q = -1
  | 0, _, _ => rfl
  | n + 1, q, h2 => by
    have h0 : iol y q y.sp 0 0 = nI (y.bl (y.hd q)) := iol_clt y q y.sp 0 0
    have hlt : y.bl (y.hd q) < y.sp := clt_ltn (f := y.hd) (x := q) (ile.mpr (by omega)) y.sp 0 (by omega) (by omega)
    rw [iog, h0, if_neg (fun c => hv ⟨_, hlt, c.symm⟩)]
    exact iog_miss hs hv n (q + 1) (by omega)
theorem inOrder_rel {z : SpcS} {y : MdS} (h : Rel z y) (k : Int32) : SpcS.inOrder z k = MdS.inOrder y k := by
  have hs := h.sp120
  unfold SpcS.inOrder MdS.inOrder
  rw [h.spc]
  by_cases q : iout k 0 (nI y.sp - 1) = 0
  · rw [if_pos q]
    obtain ⟨r, hr, e⟩ := (iout_sp hs).mp q
    subst e
    obtain ⟨j, hj, e1, e2⟩ := h.d3 r hr
    rw [rg_at (by omega) (by decide), e1]
    exact (iog_hit h hj e2 _ _ (Nat.zero_le j) (by omega)).symm
  · rw [if_neg q]
    exact (iog_miss hs (fun c => q ((iout_sp hs).mpr c)) _ _ (by omega)).symm
theorem pk_inOrder (l : Launch) (E : xE) (am : Nat → Nat) {z : SpcS} {y : MdS} (hR : Rel z y) (a0 : Int32) : pkI l E am y yX9_inOrder wsX9_inOrder [.int a0] (SpcS.inOrder z a0) z :=
  ⟨y, 0, 0, by omega, by omega, (inOrder_rel hR a0) ▸ c_X9_inOrder l E am y a0 hR.sp120, hR⟩
