def MdS.ta (z : MdS) (m : Nat) : MdS := ((z.wr0.wrt 83).num m).wrt 32
def MdS.tb (z : MdS) (m w : Nat) : MdS := wwl w (wln w) 0 (z.ta m)
theorem ta_core (z : MdS) (m : Nat) : (z.ta m).core = z.core := by
  unfold MdS.ta
  rw [wrt_core, num_core, wrt_core]; rfl
theorem ta_le (z : MdS) (m : Nat) : (z.ta m).wr ≤ 11 := Nat.succ_le_succ (num_le _ _)
theorem txt1_tb (z : MdS) (m w : Nat) : ((z.tb m w).wrt 32).wrt 80 = z.txt1 m w := rfl
theorem wsp_le (z : MdS) (k m w : Nat) (b : Bool) (L g : Nat) (hg : g < 300) : (z.wsp k m w b L g).wr ≤ 400 := by
  unfold MdS.wsp
  rw [wfl_wr]
  have h1 := txt2_le (z.txt1 m w) k b L
  have h2 := txt1_le z m w
  generalize ((z.txt1 m w).txt2 k b L).wr = q1 at h1 ⊢
  generalize (z.txt1 m w).wr = q2 at h1 h2
  omega
theorem tx_in {i : Int32} {w : Nat} (h1 : 0 ≤ i) (h2 : ¬ nI w ≤ i) (hw : w ≤ 400) : vp_in i 400 := by
  obtain ⟨j, hj, e⟩ := nI_of (Int32.not_lt.mpr h1)
  subst e
  refine vp_in_nI ?_ (by decide)
  rcases Nat.lt_or_ge j w with q | q
  · omega
  · exact absurd (nI_le q hj) h2
theorem wrd_at {i m : Int32} {w : Nat} (hw : w < 5) (e : m = nI w) (h1 : ¬ win i 0 4 = 0) (h2 : ¬ wlg m ≤ i) : ∃ j, j < wln w ∧ i = nI j := by
  obtain ⟨j, hj, ej⟩ := win_at (m := 4) (by decide) h1
  subst e
  subst ej
  rw [wlg_nI w hw] at h2
  refine ⟨j, ?_, rfl⟩
  rcases Nat.lt_or_ge j (wln w) with q | q
  · exact q
  · exact absurd (nI_le q (by omega)) h2
theorem dz_lt {L j : Nat} (hL : L < 10 ^ 8) (hj : j = 8) : nI (L / 10 ^ j) < 10 := by
  subst hj
  rw [Nat.div_eq_of_lt hL]
  decide
theorem ten_ne {j : Nat} (hj : j < 9) : ¬ nI (10 ^ j) = 0 := nI_ne0 (ten_pos j hj) (ten_lt j hj)
