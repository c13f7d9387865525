/-! The wish, out of the drift's fraction (hD: to be had from the hull). -/
theorem wish_rel (hD : ∀ (z : SpcS) (y : MdS), WR z y → DRel z y) {z : SpcS} {y : MdS} (h : Rel z y) (v : Int32) : (SpcS.wish z v).1 = (MdS.wish y v).1 ∧ Rel (SpcS.wish z v).2 (MdS.wish y v).2 := by
  have hc := h.ct120
  unfold SpcS.wish MdS.wish
  rw [h.ct]
  by_cases q : iout v 0 299 = 0
  · rw [if_pos q, if_neg (win_iout.mpr q)]
    rcases Nat.eq_zero_or_pos y.ct with e | e
    · rw [if_pos (show nI y.ct = 0 by rw [e]; exact nI_0), if_pos (show nI y.ct = 0 by rw [e]; exact nI_0)]
      exact ⟨rfl, h⟩
    · rw [if_neg (nI_ne0 e (by omega)), if_neg (nI_ne0 e (by omega))]
      obtain ⟨m, hm, ev⟩ := (iout_nI (m := 299) (by decide)).mp q
      subst ev
      have hr : WRow z y (nI m) := by
        by_cases h3 : y.mn = 3
        · exact wrow_drift h.wr h3 (hD z y h.wr) (by omega)
        · exact (wrow_plain h.wr h3 (nI m)).1
      have w := wish_eq h.wr e h.mw h.mkr h.mkp h.mk8 (nI m) hr
      refine ⟨?_, h.core (wsh_core y (nI m)) rfl rfl rfl rfl rfl rfl rfl rfl⟩
      show z.wishR (nI m) + 10000 = (y.wsh (nI m)).wRR + 10000
      rw [w.1]
  · rw [if_neg q, if_pos (iout_win.mpr q)]
    exact ⟨rfl, h⟩
theorem pk_wish_of (hD : ∀ (z : SpcS) (y : MdS), WR z y → DRel z y) (l : Launch) (E : xE) (am : Nat → Nat) {z : SpcS} {y : MdS} (hR : Rel z y) (a0 : Int32) : pkI l E am y yX9_wish wsX9_wish [.int a0] (SpcS.wish z a0).1 (SpcS.wish z a0).2 :=
  ⟨(MdS.wish y a0).2, 4, 103, by omega, by omega, (wish_rel hD hR a0).1 ▸ c_X9_wish l E am y a0 hR.ct120 hR.hfr, (wish_rel hD hR a0).2⟩
