/-! The rows of a wish with drift. -/
def DRel (z : SpcS) (y : MdS) : Prop := (z.ln.fit z.ar).up.toInt = y.fdr.up.toInt ∧ (z.ln.fit z.ar).lo.toInt = y.fdr.by_.toInt ∧ 0 < y.fdr.by_.toInt ∧ y.fdr.by_.toInt ≤ 299 ∧ -35980 ≤ y.fdr.up.toInt ∧ y.fdr.up.toInt ≤ 35980
theorem gather_at {z : SpcS} {y : MdS} (H : WR z y) {i : Nat} (hi : i < min y.ct 32) : rg 32 (z.wi.gather z.ar).ds (nI i) = y.dl (y.ct - 1 - i) := by
  have hct := H.1
  have hc := H.2.1
  rw [rg_at (by omega) (by decide)]
  show gatl z.ar z.ar.hs 0 z.wi.ds i = _
  rw [gatl_at z.ar _ 0 _ i (by show 0 + min z.ar.ct 32 ≤ 32; omega) (by omega) (by show i < 0 + min z.ar.ct 32; rw [hct]; omega), hct, nI_dec (by omega), pk_sub (by omega)]
  obtain ⟨m, t, _, _, _, _, _, e⟩ := H.dlI (a := y.ct - 1 - i) (by omega)
  exact e
theorem wrow_drift {z : SpcS} {y : MdS} (H : WR z y) (h3 : y.mn = 3) (D : DRel z y) {v : Nat} (hv : v < 300) : WRow z y (nI v) := by
  have hct := H.1
  have hc := H.2.1
  obtain ⟨d1, d2, d3, d4, d5, d6⟩ := D
  have e : z.wishW (nI v) = (z.wi.gather z.ar).carry (z.ln.fit z.ar) z.ar (nI v) := by
    unfold SpcS.wishW
    rw [if_pos (by rw [H.2.2.2.2.2.2.2.2.1]; exact h3)]
  have hsz : ((z.wi.gather z.ar).carry (z.ln.fit z.ar) z.ar (nI v)).sz = min y.ct 32 := by
    show min z.ar.ct 32 = _
    rw [hct]
  have hse : (y.wsh (nI v)).se = sel y.fdr (nI v) (y.ct - y.old) y.old y.se := by
    unfold MdS.wsh MdS.wd
    rw [if_pos h3]
    rfl
  have hD : ∀ i, i < min y.ct 32 → (rg 32 ((z.wi.gather z.ar).carry (z.ln.fit z.ar) z.ar (nI v)).ds (nI i)).toInt = ((y.wsh (nI v)).se (y.ct - 1 - i)).toInt ∧ -10900000 ≤ (rg 32 ((z.wi.gather z.ar).carry (z.ln.fit z.ar) z.ar (nI v)).ds (nI i)).toInt ∧ (rg 32 ((z.wi.gather z.ar).carry (z.ln.fit z.ar) z.ar (nI v)).ds (nI i)).toInt ≤ 10900000 := by
    intro i hi
    obtain ⟨m, t, a1, a2, a3, a4, a5, a6⟩ := H.dlI (a := y.ct - 1 - i) (by omega)
    have c1 : rg 32 ((z.wi.gather z.ar).carry (z.ln.fit z.ar) z.ar (nI v)).ds (nI i) = y.dl (y.ct - 1 - i) + (z.ln.fit z.ar).over (nI v - y.fr (y.ct - 1 - i)) := by
      rw [rg_at (by omega) (by decide)]
      show carl (z.ln.fit z.ar) z.ar (nI v) (min z.ar.ct 32) 0 (z.wi.gather z.ar).ds i = _
      rw [carl_at _ _ _ _ 0 _ i (by omega) (by omega) (by rw [hct]; omega), gather_at H hi, hct, nI_dec (by omega), pk_sub (by omega), rg_at (by omega) (by decide), H.2.2.1]
    have n0 : (nI v - y.fr (y.ct - 1 - i)).toInt = (v : Int) - m := by rw [a3, pk_sub_toInt (by omega) (by omega)]
    obtain ⟨o1, o2, o3⟩ := over_toInt (ln := z.ln.fit z.ar) (n := nI v - y.fr (y.ct - 1 - i)) (by omega) (by omega) (by omega) (by omega) (by omega)
    have g1 := alg_toInt (w := y.fdr) (v := nI v) (a := y.ct - 1 - i) h3 d3 d4 d5 d6 (by show _ ≤ (nI v - y.fr (y.ct - 1 - i)).toInt; omega) (by show (nI v - y.fr (y.ct - 1 - i)).toInt ≤ _; omega)
    have g2 : (alg y.fdr (nI v) (y.ct - 1 - i)).toInt = ((z.ln.fit z.ar).over (nI v - y.fr (y.ct - 1 - i))).toInt := by
      rw [g1, o1, d1, d2]
      rfl
    have s1 : (y.dl (y.ct - 1 - i) + (z.ln.fit z.ar).over (nI v - y.fr (y.ct - 1 - i))).toInt = (y.dl (y.ct - 1 - i)).toInt + ((z.ln.fit z.ar).over (nI v - y.fr (y.ct - 1 - i))).toInt := ia (by omega) (by omega)
    have s2 : ((y.wsh (nI v)).se (y.ct - 1 - i)).toInt = (y.dl (y.ct - 1 - i)).toInt + (alg y.fdr (nI v) (y.ct - 1 - i)).toInt := by
      rw [hse, sel_at y.fdr (nI v) _ _ _ _ (by unfold MdS.old; omega) (by unfold MdS.old; omega)]
      have q : ((y.fdr).dl (y.ct - 1 - i)).toInt64.toInt = (y.dl (y.ct - 1 - i)).toInt := i64i _
      rw [ja (by rw [q]; omega) (by rw [q]; omega), q]
    rw [c1, s1, s2, g2]
    omega
  unfold WRow
  rw [e, hsz]
  exact ⟨⟨by omega, by omega, hc, fun i hi => (hD i hi).1⟩, rfl, fun i hi => (hD i hi).2⟩
