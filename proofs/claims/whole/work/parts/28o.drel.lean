/-! The class's fraction is the reference's. -/
theorem rise_ok {w : LinS} {d f : Int32} (hf : 0 < f.toInt) (hf2 : f.toInt ≤ 299) (d1 : -35980 ≤ d.toInt) (d2 : d.toInt ≤ 35980) : ∃ u v : Int, d.toInt = (Nat.gcd d.toInt.natAbs f.toInt.natAbs : Nat) * u ∧ f.toInt = (Nat.gcd d.toInt.natAbs f.toInt.natAbs : Nat) * v ∧ (w.rise d f).up.toInt = u ∧ (w.rise d f).lo.toInt = v := by
  have z32 : (0 : Int32).toInt = 0 := by decide
  have gp : 0 < Nat.gcd d.toInt.natAbs f.toInt.natAbs := Nat.gcd_pos_of_pos_right _ (by omega)
  have gl : Nat.gcd d.toInt.natAbs f.toInt.natAbs ≤ f.toInt.natAbs := Nat.gcd_le_right _ (by omega)
  obtain ⟨u, hu⟩ := Int.ofNat_dvd_left.mpr (Nat.gcd_dvd_left d.toInt.natAbs f.toInt.natAbs)
  obtain ⟨v, hv⟩ := Int.ofNat_dvd_left.mpr (Nat.gcd_dvd_right d.toInt.natAbs f.toInt.natAbs)
  have ea : iabs d = nI d.toInt.natAbs := by
    show (if 0 ≤ d then d else 0 - d) = _
    rw [ine, nI_toInt (by omega)]
    by_cases q : 0 ≤ d
    · rw [if_pos q]
      rw [ile, z32] at q
      omega
    · rw [if_neg q]
      rw [ile, z32] at q
      rw [is_ (by omega) (by omega), z32]
      omega
  have ef : f = nI f.toInt.natAbs := by
    rw [ine, nI_toInt (by omega)]
    omega
  have eg : gdl 64 (iabs d) f = nI (Nat.gcd d.toInt.natAbs f.toInt.natAbs) := by
    rw [ea]
    have := gdl_64 (a := d.toInt.natAbs) (b := f.toInt.natAbs) (by omega) (by omega) (by omega)
    rw [← ef] at this
    exact this
  have bu := fr_bd gp hu d1 d2
  have bv := fr_bd gp hv (B := 299) (by omega) (by omega)
  refine ⟨u, v, hu, hv, ?_⟩
  unfold LinS.rise
  rw [eg, if_neg (by rw [ile, nI_toInt (by omega), z32]; omega)]
  have hd : (nI (Nat.gcd d.toInt.natAbs f.toInt.natAbs)).toInt = (Nat.gcd d.toInt.natAbs f.toInt.natAbs : Nat) := nI_toInt (by omega)
  have t1 : (d / nI (Nat.gcd d.toInt.natAbs f.toInt.natAbs)).toInt = u := by
    rw [Int32.toInt_div, hd]
    generalize Nat.gcd d.toInt.natAbs f.toInt.natAbs = g at gp gl hu hv hd ⊢
    rw [hu, Int.mul_tdiv_cancel_left _ (by omega)]
    exact Int.bmod_eq_of_le (by omega) (by omega)
  have t2 : (f / nI (Nat.gcd d.toInt.natAbs f.toInt.natAbs)).toInt = v := by
    rw [Int32.toInt_div, hd]
    generalize Nat.gcd d.toInt.natAbs f.toInt.natAbs = g at gp gl hu hv hd ⊢
    rw [hv, Int.mul_tdiv_cancel_left _ (by omega)]
    exact Int.bmod_eq_of_le (by omega) (by omega)
  exact ⟨t1, t2⟩
/-- the edge that is taken -/
theorem tkl_ok {w : LinS} {t : Int32} {c : Nat} (hc : c ≤ 120) (hb : ∀ k, k < c → 0 ≤ (w.cf k).toInt ∧ (w.cf k).toInt ≤ 299) (hl : t.toInt ≤ 2 * (w.cf (c - 1)).toInt) : ∀ n k, 0 < k → k + n = c → 0 < n → 2 * (w.cf (k - 1)).toInt < t.toInt → ∃ j, 0 < j ∧ j < c ∧ 2 * (w.cf (j - 1)).toInt < t.toInt ∧ t.toInt ≤ 2 * (w.cf j).toInt ∧ tkl w t n k = w.rise (w.cd j - w.cd (j - 1)) (w.cf j - w.cf (j - 1))
  | 0, k, h1, h2, h3, h4 => by omega
  | n + 1, k, h1, h2, h3, h4 => by
    have e2 : (2 : Int32).toInt = 2 := by decide
    have b := hb k (by omega)
    have em : (2 * w.cf k).toInt = 2 * (w.cf k).toInt := by rw [im (by rw [e2]; omega) (by rw [e2]; omega), e2]
    rw [tkl, nI_dec (by omega), rg_at (by omega) (by decide), rg_at (by omega) (by decide), rg_at (by omega) (by decide), rg_at (by omega) (by decide)]
    by_cases q : 2 * w.cf k < t
    · rw [if_pos q]
      rw [ilt, em] at q
      rcases Nat.eq_zero_or_pos n with z | z
      · subst z
        rw [show c - 1 = k by omega] at hl
        omega
      · exact tkl_ok hc hb hl n (k + 1) (by omega) (by omega) z (by rw [show k + 1 - 1 = k by omega]; exact q)
    · rw [if_neg q]
      rw [ilt, em] at q
      exact ⟨k, h1, by omega, h4, by omega, rfl⟩
theorem Hl.mono {P : Int → Int → Prop} {X D : Nat → Int} {c : Nat} (H : Hl P X D c) : ∀ n k, k + n < c → X k ≤ X (k + n)
  | 0, k, h => Int.le_refl _
  | n + 1, k, h => by
    have := Hl.mono H n k (by omega)
    have := H.2.1 (k + n) (by omega)
    rw [show k + (n + 1) = k + n + 1 by omega]
    omega
theorem drel (z : SpcS) (y : MdS) (H : WR z y) : DRel z y := by
  have hH := HlZ.fit H
  have hI := DI.dr H.db
  have hB := H.db
  have eu : y.fdr.up = y.dr.2.1 / dgc y.dr := rfl
  have eb : y.fdr.by_ = y.dr.2.2 / dgc y.dr := rfl
  unfold DRel LinS.fit
  rw [eu, eb]
  generalize fitl z.ar 300 0 (z.ln.cf, z.ln.cd, 0, 0, 1) = w at hH ⊢
  obtain ⟨h0, h2, h3, h4⟩ := hH
  have k1 : ∀ k, k < w.cn → PtO y (w.cf k).toInt (w.cd k).toInt ∧ (w.cf k).toInt < ((300 : Nat) : Int) := h0.1
  have k2 : ∀ k, k + 1 < w.cn → (w.cf k).toInt < (w.cf (k + 1)).toInt := h0.2.1
  have k3 : ∀ x e, PtO y x e ∧ x < ((300 : Nat) : Int) → 0 < w.cn ∧ (w.cf 0).toInt ≤ x ∧ x ≤ (w.cf (w.cn - 1)).toInt := h0.2.2.1
  have k4 : ∀ k, k + 1 < w.cn → ∀ x e, PtO y x e ∧ x < ((300 : Nat) : Int) → ((w.cd (k + 1)).toInt - (w.cd k).toInt) * (x - (w.cf k).toInt) ≤ (e - (w.cd k).toInt) * ((w.cf (k + 1)).toInt - (w.cf k).toInt) := h0.2.2.2
  have hcb : w.cn ≤ 120 := by
    have := hit_le (g := y.fr) (N := 300) (by omega) y.ct (fun a ha => by obtain ⟨m, a1, a2, _⟩ := H.2.2.2.2.2.1 a ha; exact ⟨m, a1, a2⟩)
    have := H.2.1
    omega
  have hbd : ∀ k, k < w.cn → 0 ≤ (w.cf k).toInt ∧ (w.cf k).toInt ≤ 299 ∧ -5980 ≤ (w.cd k).toInt ∧ (w.cd k).toInt ≤ 30000 := fun k hk => H.pt (k1 k hk).1
  have hin : ∀ a, a < y.ct → PtO y (y.fr a).toInt (y.dl a).toInt ∧ (y.fr a).toInt < ((300 : Nat) : Int) := fun a ha => ⟨⟨a, ha, rfl, rfl⟩, by have := hB a ha; omega⟩
  rcases Nat.lt_or_ge w.cn 2 with q | q
  · have noc : ∀ a b, ¬ Cand y a b := by
      intro a b c
      have ia1 := k3 _ _ (hin a c.1)
      have ib1 := k3 _ _ (hin b c.2.1)
      have c3 := c.2.2.1
      rw [show w.cn - 1 = 0 by omega] at ia1 ib1
      omega
    have hd : y.dr = (false, 0, 1) := by
      rcases hI with ⟨e, _⟩ | ⟨_, ⟨a, b, c, _⟩, _⟩
      · exact e
      · exact absurd c (noc a b)
    have ht : w.take = w := by
      unfold LinS.take
      rw [show w.cn - 1 = 0 by omega]
      rfl
    rw [ht, h3, h4, hd]
    exact ⟨by decide, by decide, by decide, by decide, by decide, by decide⟩
  · have hct : 0 < y.ct := by
      obtain ⟨a, ha, _⟩ := (k1 0 (by omega)).1
      omega
    obtain ⟨l1, la, l2, l3⟩ := hB.least hct
    obtain ⟨m1, ma, m2, m3⟩ := hB.most hct
    have x0 : y.least.toInt = (w.cf 0).toInt := by
      have u1 := (k3 _ _ (hin la l2)).2.1
      obtain ⟨a, ha, e1, _⟩ := (k1 0 (by omega)).1
      have u2 := l1 a ha
      omega
    have xl : y.most.toInt = (w.cf (w.cn - 1)).toInt := by
      have u1 := (k3 _ _ (hin ma m2)).2.2
      obtain ⟨a, ha, e1, _⟩ := (k1 (w.cn - 1) (by omega)).1
      have u2 := m1 a ha
      omega
    have hlt : (w.cf 0).toInt < (w.cf (w.cn - 1)).toInt := by
      have v1 : (w.cf 0).toInt < (w.cf 1).toInt := k2 0 (by omega)
      have v2 : (w.cf 1).toInt ≤ (w.cf (1 + (w.cn - 1 - 1))).toInt := Hl.mono h0 (w.cn - 1 - 1) 1 (by omega)
      rw [show 1 + (w.cn - 1 - 1) = w.cn - 1 by omega] at v2
      omega
    have b0 := hbd 0 (by omega)
    have bl := hbd (w.cn - 1) (by omega)
    have ht : (w.cf 0 + w.cf (w.cn - 1)).toInt = (w.cf 0).toInt + (w.cf (w.cn - 1)).toInt := ia (by omega) (by omega)
    have htk : w.take = tkl w (w.cf 0 + w.cf (w.cn - 1)) (w.cn - 1) 1 := by
      unfold LinS.take
      rw [nI_dec (by omega), rg_at (by omega) (by decide), show (0 : Int32) = nI 0 from rfl, rg_at (by omega) (by decide)]
    obtain ⟨j, j1, j2, j3, j4, j5⟩ := tkl_ok (w := w) (t := w.cf 0 + w.cf (w.cn - 1)) (c := w.cn) hcb (fun k hk => ⟨(hbd k hk).1, (hbd k hk).2.1⟩) (by omega) (w.cn - 1) 1 (by omega) (by omega) (by omega) (by rw [show 1 - 1 = 0 by omega]; omega)
    rw [htk, j5]
    rw [ht] at j3 j4
    have bj := hbd j j2
    have bp := hbd (j - 1) (by omega)
    have xj := k2 (j - 1) (by omega)
    have und := k4 (j - 1) (by omega)
    rw [show j - 1 + 1 = j by omega] at xj und
    obtain ⟨P, hP, p1, p2⟩ := (k1 (j - 1) (by omega)).1
    obtain ⟨Q, hQ, q1, q2⟩ := (k1 j j2).1
    have ed : (w.cd j - w.cd (j - 1)).toInt = dR y P Q := by
      rw [is_ (by omega) (by omega)]
      unfold dR
      omega
    have ef : (w.cf j - w.cf (j - 1)).toInt = dF y P Q := by
      rw [is_ (by omega) (by omega)]
      unfold dF
      omega
    have cPQ : Cand y P Q := by
      refine ⟨hP, hQ, by omega, by unfold dS; omega, by unfold dS; omega, fun c hc => ?_⟩
      have := und _ _ (hin c hc)
      unfold dR dF
      rw [p1, p2, q1, q2]
      exact this
    rcases hI with ⟨_, n0⟩ | ⟨_, ⟨a, b, cab, e1, e2⟩, best⟩
    · exact absurd cPQ (n0 P Q trivial)
    · have k1 := best P Q trivial cPQ
      rw [e1, e2] at k1
      have k2 : dR y P Q * dF y a b ≤ dR y a b * dF y P Q := by
        have g1 := cPQ.2.2.2.2.2 b cab.2.1
        have g2 := cab.2.2.2.2.2 P hP
        have g3 := cab.2.2.1
        have g4 := cPQ.2.2.1
        have g5 : (y.fr P).toInt < (y.fr b).toInt := by
          have := cab.2.2.2.2.1
          have : 2 * (y.fr P).toInt < dS y := by unfold dS; omega
          omega
        unfold dR dF at g1 g2 ⊢
        exact ln_two (by omega) (by omega) g5 g1 g2
      obtain ⟨ra, rb, rc⟩ := hB.rise cab.1 cab.2.1
      obtain ⟨fa, fb, fc⟩ := hB.far cab.1 cab.2.1
      obtain ⟨sa, sb, sc⟩ := hB.rise hP hQ
      obtain ⟨ga, gb, gc⟩ := hB.far hP hQ
      have fp : 0 < dF y a b := by have := cab.2.2.1; unfold dF; omega
      have gp : 0 < dF y P Q := by have := cPQ.2.2.1; unfold dF; omega
      obtain ⟨u1, v1, a1, a2, a3, a4⟩ := rise_ok (w := w) (d := w.cd j - w.cd (j - 1)) (f := w.cf j - w.cf (j - 1)) (by omega) (by omega) (by omega) (by omega)
      obtain ⟨u2, v2, c1, c2, c3, c4⟩ := red64 (s := y.dr) e1 e2 fp fc rb rc
      rw [ed, ef] at a1 a2
      obtain ⟨eu, ev⟩ := fr_uniq gp fp (by omega) rfl rfl a1 a2 c1 c2
      rw [a3, a4, c3, c4, eu, ev]
      have g0 : 0 < Nat.gcd (dR y a b).natAbs (dF y a b).natAbs := Nat.gcd_pos_of_pos_right _ (by omega)
      have w1 := fr_bd g0 c1 rb rc
      have w2 := fr_bd g0 c2 fb fc
      refine ⟨rfl, rfl, ?_, w2.2, w1.1, w1.2⟩
      rcases (show 0 < v2 ∨ v2 ≤ 0 by omega) with s | s
      · exact s
      · have := Int.mul_le_mul_of_nonneg_left s (show (0 : Int) ≤ (Nat.gcd (dR y a b).natAbs (dF y a b).natAbs : Nat) by omega)
        rw [← c2, Int.mul_zero] at this
        omega
theorem pk_wish (l : Launch) (E : xE) (am : Nat → Nat) {z : SpcS} {y : MdS} (hR : Rel z y) (a0 : Int32) : pkI l E am y yX9_wish wsX9_wish [.int a0] (SpcS.wish z a0).1 (SpcS.wish z a0).2 := pk_wish_of drel l E am hR a0
theorem drift_rel {z : SpcS} {y : MdS} (h : Rel z y) (w : Int32) : SpcS.drift z w = (MdS.drift y w).1 ∧ Rel z.fitted (MdS.drift y w).2 := by
  obtain ⟨d1, d2, _⟩ := drel z y h.wr
  have e1 : (z.ln.fit z.ar).up.toInt64 = y.fdr.up := Int64.toInt_inj.mp (by rw [i64i, d1])
  have e2 : (z.ln.fit z.ar).lo.toInt64 = y.fdr.by_ := Int64.toInt_inj.mp (by rw [i64i, d2])
  have r1 : Rel z.fitted y.fdr := by
    unfold SpcS.fitted
    generalize z.ln.fit z.ar = L
    exact h.core (fdr_core y) rfl rfl rfl rfl rfl rfl rfl rfl
  have r2 : Rel z.fitted y := by
    unfold SpcS.fitted
    generalize z.ln.fit z.ar = L
    exact h.core rfl rfl rfl rfl rfl rfl rfl rfl rfl
  unfold SpcS.drift MdS.drift
  rw [e1, e2]
  by_cases q0 : w = 0
  · rw [if_pos q0, if_neg (show ¬ win w 0 1 = 0 by rw [q0]; decide), if_pos q0]
    exact ⟨rfl, r1⟩
  · rw [if_neg q0]
    by_cases q1 : w = 1
    · rw [if_pos q1, if_neg (show ¬ win w 0 1 = 0 by rw [q1]; decide), if_neg q0]
      exact ⟨rfl, r1⟩
    · rw [if_neg q1]
      have hw : win w 0 1 = 0 := by
        refine Classical.byContradiction fun c => ?_
        obtain ⟨j, hj, e⟩ := win_at (m := 1) (by decide) c
        rcases (show j = 0 ∨ j = 1 by omega) with s | s
        · subst s
          exact q0 e
        · subst s
          exact q1 e
      rw [if_pos hw]
      exact ⟨rfl, r2⟩
theorem pk_drift (l : Launch) (E : xE) (am : Nat → Nat) {z : SpcS} {y : MdS} (hR : Rel z y) (a0 : Int32) : pkL l E am y yX9_drift wsX9_drift [.int a0] (SpcS.drift z a0) z.fitted :=
  ⟨(MdS.drift y a0).2, 3, 79, by omega, by omega, (drift_rel hR a0).1 ▸ c_X9_drift l E am y a0 hR.ct120 hR.hfr, (drift_rel hR a0).2⟩
