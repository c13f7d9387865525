/-! The wish, given that the two rows hold the same numbers. -/
theorem bsl_in (z : WisS) (k : Int32) {N : Nat} : ∀ n i b, i + n ≤ N → (∃ j, j < N ∧ b = rg 32 z.ds (nI j)) → ∃ j, j < N ∧ bsl z k n i b = rg 32 z.ds (nI j)
  | 0, _, _, _, h => h
  | n + 1, i, b, hi, h => by
    rw [bsl]
    refine bsl_in z k n (i + 1) _ (by omega) ?_
    by_cases q : b ≤ rg 32 z.ds (nI i)
    · rw [if_pos q]
      exact h
    · rw [if_neg q]
      by_cases q2 : k * nI z.sz < 256 * z.above (rg 32 z.ds (nI i))
      · rw [if_pos q2]
        exact h
      · rw [if_neg q2]
        exact ⟨i, by omega, rfl⟩
theorem share_in (w : WisS) (k : Int32) (hn : 0 < w.sz) : ∃ j, j < w.sz ∧ w.share k = rg 32 w.ds (nI j) :=
  bsl_in w k w.sz 0 (w.most w.sz) (by omega) (most_ok w hn).1
theorem l2i {x : Int64} (h1 : -2 ^ 31 ≤ x.toInt) (h2 : x.toInt < 2 ^ 31) : x.toInt32.toInt = x.toInt := by
  rw [Int64.toInt_toInt32]
  exact Int.bmod_eq_of_le (by omega) (by omega)
/-- the rows of a wish: they hold the same numbers, within bounds -/
def WRow (z : SpcS) (y : MdS) (v : Int32) : Prop := Rvs (z.wishW v).ds (y.wsh v).se (z.wishW v).sz y.ct ∧ (z.wishW v).sz = min y.ct 32 ∧ ∀ i, i < (z.wishW v).sz → -10900000 ≤ (rg 32 (z.wishW v).ds (nI i)).toInt ∧ (rg 32 (z.wishW v).ds (nI i)).toInt ≤ 10900000
theorem wrow_plain {z : SpcS} {y : MdS} (H : WR z y) (h3 : ¬ y.mn = 3) (v : Int32) : WRow z y v ∧ ∀ i, i < (z.wishW v).sz → -30000 ≤ (rg 32 (z.wishW v).ds (nI i)).toInt ∧ (rg 32 (z.wishW v).ds (nI i)).toInt ≤ 30000 := by
  have e : z.wishW v = z.wi.gather z.ar := by
    unfold SpcS.wishW
    rw [if_neg (by rw [H.2.2.2.2.2.2.2.2.1]; exact h3)]
  obtain ⟨a, b⟩ := gather_rvs H h3 v
  unfold WRow
  rw [e]
  refine ⟨⟨a, ?_, fun i hi => by have := b i hi; omega⟩, b⟩
  show min z.ar.ct 32 = _
  rw [H.1]
theorem core_mn {y z : MdS} (h : y.core = z.core) : y.mn = z.mn := congrArg (fun c : CorS => c.2.2.2.1) h
theorem core_mk {y z : MdS} (h : y.core = z.core) : y.mk = z.mk := congrArg (fun c : CorS => c.2.2.2.2.1) h
theorem core_on {y z : MdS} (h : y.core = z.core) : y.on = z.on := congrArg (fun c : CorS => c.2.2.2.2.2.2.2.2.2.2.2.2.2.2.2.2.2.1) h
theorem wish_eq {z : SpcS} {y : MdS} (H : WR z y) (hp : 0 < y.ct) (hw : ∃ w, w < 5 ∧ y.mn = nI w) (m1 : -500 ≤ y.mk.toInt ∧ y.mk.toInt ≤ 2000) (m2 : ¬ y.mn = 0 → 0 ≤ y.mk.toInt ∧ y.mk.toInt ≤ 256) (m3 : y.mn = 4 → y.mk.toInt ≤ 8) (v : Int32) (hr : WRow z y v) : z.wishR v = (y.wsh v).wRR ∧ -10900000 ≤ (z.wishR v).toInt ∧ (z.wishR v).toInt ≤ 10900000 := by
  have hy := wsh_core y v
  have k_mn : (y.wsh v).mn = y.mn := core_mn hy
  have k_mk : (y.wsh v).mk = y.mk := core_mk hy
  have k_on : (y.wsh v).on = y.on := core_on hy
  have k_ct : (y.wsh v).ct = y.ct := core_ct hy
  have hmn := H.2.2.2.2.2.2.2.2.1
  have hmk := H.2.2.2.2.2.2.2.2.2.1
  have hon := H.2.2.2.2.2.2.2.2.2.2
  obtain ⟨r1, r2, r3⟩ := hr
  have hn : 0 < (z.wishW v).sz := by rw [r2]; omega
  have r1' : Rvs (z.wishW v).ds (y.wsh v).se (z.wishW v).sz (y.wsh v).ct := by rw [k_ct]; exact r1
  have ho : (y.wsh v).ct - (z.wishW v).sz = (y.wsh v).old := by
    unfold MdS.old
    rw [k_ct, r2]
    omega
  have sh : ¬ y.mn = 0 → (z.wishW v).share y.mk = ((y.wsh v).lst y.mk).toInt32 ∧ -10900000 ≤ ((z.wishW v).share y.mk).toInt ∧ ((z.wishW v).share y.mk).toInt ≤ 10900000 := by
    intro q
    have e := share_rel r1' hn ho (m2 q)
    obtain ⟨j, j1, j2⟩ := share_in (z.wishW v) y.mk hn
    have b := r3 j j1
    rw [← j2] at b
    exact ⟨ine.mpr (by rw [l2i (by omega) (by omega)]; exact e), b.1, b.2⟩
  obtain ⟨w, w5, ew⟩ := hw
  unfold SpcS.wishR MdS.wRR
  rw [k_mn, k_mk, k_on, hmn, hmk, hon]
  rcases (show w = 0 ∨ w = 1 ∨ w = 2 ∨ w = 3 ∨ w = 4 by omega) with e | e | e | e | e <;> subst e <;> rw [ew] at sh m2 m3 ⊢
  · rw [if_pos (by decide), if_pos (by decide)]
    exact ⟨rfl, by omega, by omega⟩
  · rw [if_neg (by decide), if_pos (by decide), if_neg (by decide), if_neg (by decide), if_neg (by decide)]
    exact sh (by decide)
  · by_cases c : b2i y.on = 0
    · rw [if_neg (show ¬ nI 2 = 0 by decide), if_neg (show ¬ nI 2 = 1 by decide), if_pos (show nI 2 = 2 by decide), if_pos c, if_neg (show ¬ nI 2 = 0 by decide), if_neg (show ¬ nI 2 = 4 by decide), if_pos (show nI 2 = 2 by decide), if_pos c]
      exact sh (by decide)
    · rw [if_neg (show ¬ nI 2 = 0 by decide), if_neg (show ¬ nI 2 = 1 by decide), if_pos (show nI 2 = 2 by decide), if_neg c, if_neg (show ¬ nI 2 = 0 by decide), if_neg (show ¬ nI 2 = 4 by decide), if_pos (show nI 2 = 2 by decide), if_neg c]
      have e := lat_rel r1' hn ho
      obtain ⟨⟨j, j1, j2⟩, _⟩ := most_ok (z.wishW v) (k := min (z.wishW v).sz 3) (by omega)
      have b := r3 j (by omega)
      rw [← j2] at b
      exact ⟨ine.mpr (by rw [l2i (by omega) (by omega)]; exact e), b.1, b.2⟩
  · rw [if_neg (by decide), if_neg (by decide), if_neg (by decide), if_pos (by decide), if_neg (by decide), if_neg (by decide), if_neg (by decide)]
    exact sh (by decide)
  · rw [if_neg (by decide), if_neg (by decide), if_neg (by decide), if_neg (by decide), if_pos (by decide), if_neg (by decide), if_pos (by decide)]
    obtain ⟨_, b⟩ := wrow_plain H (by rw [ew]; decide) v
    have e := byMean_rel (k := y.mk) r1' hn ho b ⟨(m2 (by decide)).1, m3 (by decide)⟩
    exact ⟨ine.mpr (by rw [l2i (by omega) (by omega)]; exact e.1), by omega, by omega⟩
