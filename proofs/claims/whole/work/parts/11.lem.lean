/-! Facts for the reference's walk. -/
def drOK (y : DrS) : Prop := 0 < y.2.2.toInt ∧ y.2.2.toInt < 2 ^ 31 ∧ -2 ^ 31 ≤ y.2.1.toInt ∧ y.2.1.toInt < 2 ^ 31
theorem i64i (x : Int32) : x.toInt64.toInt = x.toInt := by simp
theorem i32lo (x : Int32) : -2 ^ 31 ≤ x.toInt := by have := Int32.le_toInt x; omega
theorem i32hi (x : Int32) : x.toInt < 2 ^ 31 := by have := Int32.toInt_lt x; omega
theorem drs_ok {z : MdS} {a b : Nat} {y : DrS} (hfr : ∀ a, a < z.ct → ∃ m, m < 300 ∧ z.fr a = nI m) (ha : a < z.ct) (hb : b < z.ct) (h : drOK y) : drOK (drs z a b y) := by
  unfold drs
  split
  · exact h
  · rename_i h1
    split
    · exact h
    split
    · exact h
    split
    · exact h
    have new : drOK (true, z.rise a b, z.far a b) := by
      obtain ⟨m1, q1, e1⟩ := hfr a ha
      obtain ⟨m2, q2, e2⟩ := hfr b hb
      have hm : m1 < m2 := by
        rcases Nat.lt_or_ge m1 m2 with q | q
        · exact q
        · exact absurd (by rw [e1, e2]; exact nI_le q (by omega)) h1
      have hf : (z.far a b).toInt = (m2 : Int) - m1 := by
        show ((z.fr b - z.fr a).toInt64).toInt = _
        rw [i64i, e1, e2, pk_sub_toInt (by omega) (by omega)]
      have hr : (z.rise a b).toInt = (z.dl b - z.dl a).toInt := i64i _
      have h3 := i32lo (z.dl b - z.dl a)
      have h4 := i32hi (z.dl b - z.dl a)
      refine ⟨?_, ?_, ?_, ?_⟩
      · show 0 < (z.far a b).toInt; omega
      · show (z.far a b).toInt < _; omega
      · show _ ≤ (z.rise a b).toInt; omega
      · show (z.rise a b).toInt < _; omega
    split
    · exact new
    split
    · exact h
    · exact new
theorem l_lo (u : Int64) : -2 ^ 63 ≤ u.toInt := by have := Int64.le_toInt u; omega
theorem l_hi (u : Int64) : u.toInt < 2 ^ 63 := by have := Int64.toInt_lt u; omega
theorem l_abs_pos {u : Int64} (h : 0 ≤ u) : u = lN u.toInt.natAbs := by
  have h0 : (0 : Int) ≤ u.toInt := by simpa using Int64.le_iff_toInt_le.mp h
  have h1 := l_hi u
  refine Int64.toInt_inj.mp ?_
  rw [pk_lT (by omega)]
  omega
theorem l_abs_neg {u : Int64} (h : ¬ 0 ≤ u) (hb : -2 ^ 31 ≤ u.toInt) : -u = lN u.toInt.natAbs := by
  have h0 : ¬ (0 : Int) ≤ u.toInt := fun q => h (Int64.le_iff_toInt_le.mpr (by simpa using q))
  refine Int64.toInt_inj.mp ?_
  rw [pk_lT (by omega), Int64.toInt_neg, Int.bmod_eq_of_le (by omega) (by omega)]
  omega
theorem gcd_step (x y : Nat) : Nat.gcd x y = Nat.gcd y (x % y) := by
  rw [Nat.gcd_comm x y, Nat.gcd_rec y x, Nat.gcd_comm]
theorem lN_0 {y : Nat} (hy : y < 2 ^ 63) (h : lN y = 0) : y = 0 := (pk_lEQ (b := 0) hy (by decide)).mp h
theorem dec2 {j : Nat} (h : 0 < j) : nI j - 1 + (-1) = nI (j - 1) - 1 := by
  rw [nI_dec h]
  exact (Int32.sub_eq_add_neg _ _).symm
theorem lat_end {j c : Nat} (h : j + 3 = c) (hc : c ≤ 120) : nI j - 1 ≤ nI c - 4 := by
  rw [Int32.le_iff_toInt_le, show (1 : Int32) = nI 1 from rfl, show (4 : Int32) = nI 4 from rfl, pk_sub_toInt (by omega) (by omega), pk_sub_toInt (by omega) (by omega)]
  omega
theorem lat_pos {j o : Nat} (ho : o ≤ 120) (h : ¬ nI j - 1 < nI o) : 0 < j := by
  refine Nat.pos_of_ne_zero fun q => h ?_
  subst q
  rw [Int32.lt_iff_toInt_lt, nI_toInt (by omega), show (nI 0 - 1).toInt = -1 from by decide]
  omega
theorem MdS.cnt_ne {z : MdS} (hc : z.ct ≤ 120) (hp : 0 < z.ct) : ¬ z.cnt = 0 := by
  unfold MdS.cnt MdS.old
  rw [pk_sub (by omega), nI_l (by omega)]
  intro q
  have := lN_0 (by omega) q
  omega
theorem win_nar (v a b : Int32) : narrow .boolean (.int (win v a b)) = .int (win v a b) := by
  unfold win
  split
  · rfl
  split <;> rfl
theorem his_at {k : Int32} {c : Nat} (h1 : ¬ win k 0 31 = 0) (h2 : ¬ nI c ≤ k) (hc : c ≤ 120) : ∃ j, j < c ∧ nI c - 1 - k = nI j := by
  obtain ⟨m, hm, e⟩ := win_at (m := 31) (by decide) h1
  subst e
  have hmc : m < c := by
    rcases Nat.lt_or_ge m c with q | q
    · exact q
    · exact absurd (nI_le q (by omega)) h2
  refine ⟨c - 1 - m, by omega, ?_⟩
  rw [nI_dec (by omega), pk_sub (by omega)]
theorem spk_eq (z : MdS) (a : Nat) : ∃ o b g, z.spk a = (z.sg, z.tp, z.tn, z.mn, z.mk, z.mg, z.jp, z.ct, z.fr, z.wh, z.sn, z.ca, z.sp, z.hd, z.ps, z.tm, z.mm, o, b, g, z.se, z.up, z.by_, z.co, z.po, z.gr, z.tx, z.wr) := by
  unfold MdS.spk
  split
  · split
    · exact ⟨z.on, z.ba, z.bg, rfl⟩
    split
    · exact ⟨z.on, z.ba, z.bg, rfl⟩
    · exact ⟨true, z.dl (a - 1), z.bg + 1, rfl⟩
  split
  · exact ⟨false, z.ba, z.bg, rfl⟩
  · exact ⟨true, z.ba, z.bg, rfl⟩
theorem wsh_eq (z : MdS) (h : Int32) : ∃ u b f, z.wsh h = (z.sg, z.tp, z.tn, z.mn, z.mk, z.mg, z.jp, z.ct, z.fr, z.wh, z.sn, z.ca, z.sp, z.hd, z.ps, z.tm, z.mm, z.on, z.ba, z.bg, f, u, b, z.co, z.po, z.gr, z.tx, z.wr) := by
  unfold MdS.wsh MdS.wd
  split
  · exact ⟨_, _, _, rfl⟩
  · exact ⟨z.up, z.by_, _, rfl⟩
theorem wsh_ct (z : MdS) (h : Int32) : (z.wsh h).ct = z.ct := by obtain ⟨u, b, f, e⟩ := wsh_eq z h; (rw [e] <;> rfl)
theorem wsh_sp (z : MdS) (h : Int32) : (z.wsh h).sp = z.sp := by obtain ⟨u, b, f, e⟩ := wsh_eq z h; (rw [e] <;> rfl)
theorem fdr_by {z : MdS} (h : drOK z.dr) : ¬ z.fdr.by_ = 0 := by
  show ¬ z.dr.2.2 / dgc z.dr = 0
  intro q
  obtain ⟨h1, h2, h3, h4⟩ := h
  have e1 : z.dr.2.2 = lN z.dr.2.2.toInt.natAbs := l_abs_pos (Int64.le_iff_toInt_le.mpr (by simpa using Int.le_of_lt h1))
  unfold dgc at q
  have hg : 0 < Nat.gcd z.dr.2.1.toInt.natAbs z.dr.2.2.toInt.natAbs := Nat.gcd_pos_of_pos_right _ (by omega)
  have hle : Nat.gcd z.dr.2.1.toInt.natAbs z.dr.2.2.toInt.natAbs ≤ z.dr.2.2.toInt.natAbs := Nat.gcd_le_right _ (by omega)
  generalize Nat.gcd z.dr.2.1.toInt.natAbs z.dr.2.2.toInt.natAbs = g at q hg hle
  rw [e1, pk_lDiv (by omega) hg (by omega)] at q
  have := lN_0 (by have := Nat.div_le_self z.dr.2.2.toInt.natAbs g; omega) q
  have h5 := Nat.div_pos hle hg
  omega
theorem drb_ok {z : MdS} {a : Nat} (hfr : ∀ a, a < z.ct → ∃ m, m < 300 ∧ z.fr a = nI m) (ha : a < z.ct) : ∀ n b y, b + n ≤ z.ct → drOK y → drOK (drb z a n b y)
  | 0, _, _, _, h => h
  | n + 1, b, y, hb, h => by rw [drb]; exact drb_ok hfr ha n (b + 1) _ (by omega) (drs_ok hfr ha (by omega) h)
theorem dra_ok {z : MdS} (hfr : ∀ a, a < z.ct → ∃ m, m < 300 ∧ z.fr a = nI m) : ∀ n a y, a + n ≤ z.ct → drOK y → drOK (dra z n a y)
  | 0, _, _, _, h => h
  | n + 1, a, y, ha, h => by rw [dra]; exact dra_ok hfr n (a + 1) _ (by omega) (drb_ok hfr (by omega) _ _ _ (by omega) h)
theorem dr_ok {z : MdS} (hfr : ∀ a, a < z.ct → ∃ m, m < 300 ∧ z.fr a = nI m) : drOK z.dr := dra_ok hfr _ _ _ (by omega) ⟨by decide, by decide, by decide, by decide⟩
theorem col_cnts (z : MdS) (j k : Nat) : ∀ n a s, col (z.cnts j) k n a s = col z k n a s
  | 0, _, _ => rfl
  | n + 1, a, s => by rw [col, col, col_cnts z j k n (a + 1)]; rfl
theorem cts_cnts (z : MdS) (j k : Nat) : (z.cnts j).cts k = z.cts k := col_cnts z j k _ _ _
theorem cts_cnts' (z : MdS) (j k : Nat) : MdS.cts (z.sg, z.tp, z.tn, z.mn, z.mk, z.mg, z.jp, z.ct, z.fr, z.wh, z.sn, z.ca, z.sp, z.hd, z.ps, z.tm, z.mm, z.on, z.ba, z.bg, z.se, z.up, z.by_, (z.cts j).1, (z.cts j).2.1, (z.cts j).2.2, z.tx, z.wr) k = z.cts k := cts_cnts z j k
theorem cnts_idem (z : MdS) (k : Nat) : (z.cnts k).cnts k = z.cnts k := by
  rw [show (z.cnts k).cnts k = (z.sg, z.tp, z.tn, z.mn, z.mk, z.mg, z.jp, z.ct, z.fr, z.wh, z.sn, z.ca, z.sp, z.hd, z.ps, z.tm, z.mm, z.on, z.ba, z.bg, z.se, z.up, z.by_, (z.cts k).1, (z.cts k).2.1, (z.cts k).2.2, z.tx, z.wr) from by unfold MdS.cnts; rw [cts_cnts'] <;> rfl]
  rfl
theorem miss_cnts (z : MdS) (j k : Nat) : (z.cnts j).miss k = z.miss k := by
  unfold MdS.miss
  rw [cts_cnts]
  rfl
theorem undl_ub (z : MdS) (u v : Int64) (a b : Nat) : ∀ n c, undl (z.sg, z.tp, z.tn, z.mn, z.mk, z.mg, z.jp, z.ct, z.fr, z.wh, z.sn, z.ca, z.sp, z.hd, z.ps, z.tm, z.mm, z.on, z.ba, z.bg, z.se, u, v, z.co, z.po, z.gr, z.tx, z.wr) a b n c = undl z a b n c
  | 0, _ => rfl
  | n + 1, c => by rw [undl, undl, undl_ub z u v a b n (c + 1)]; rfl
theorem und_ub (z : MdS) (u v : Int64) (a b : Nat) : MdS.under (z.sg, z.tp, z.tn, z.mn, z.mk, z.mg, z.jp, z.ct, z.fr, z.wh, z.sn, z.ca, z.sp, z.hd, z.ps, z.tm, z.mm, z.on, z.ba, z.bg, z.se, u, v, z.co, z.po, z.gr, z.tx, z.wr) a b = z.under a b := undl_ub z u v a b _ _
