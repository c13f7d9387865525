/-! Floor division: the class's and the reference's. -/
theorem fl_uniq {X Y q : Int} (hY : 0 < Y) (h1 : q * Y ≤ X) (h2 : X < q * Y + Y) : X / Y = q := by
  have a1 := Int.emod_nonneg X (show Y ≠ 0 by omega)
  have a2 := Int.emod_lt_of_pos X hY
  rw [Int.emod_def] at a1 a2
  rw [Int.mul_comm q Y] at h1 h2
  rcases (show X / Y < q ∨ X / Y = q ∨ q < X / Y by omega) with c | c | c
  · have := Int.mul_le_mul_of_nonneg_left (show X / Y + 1 ≤ q by omega) (show 0 ≤ Y by omega)
    rw [Int.mul_add, Int.mul_one] at this
    omega
  · exact c
  · have := Int.mul_le_mul_of_nonneg_left (show q + 1 ≤ X / Y by omega) (show 0 ≤ Y by omega)
    rw [Int.mul_add, Int.mul_one] at this
    omega
theorem fl_pos {X Y : Int} (hY : 0 < Y) : Y * (X / Y) ≤ X ∧ X < Y * (X / Y) + Y := by
  have a1 := Int.emod_nonneg X (show Y ≠ 0 by omega)
  have a2 := Int.emod_lt_of_pos X hY
  rw [Int.emod_def] at a1 a2
  omega
theorem xor_sg {a b : Int32} (hb : 0 ≤ b.toInt) : 0 ≤ a ^^^ b ↔ 0 ≤ a.toInt := by
  have h : decide ((a ^^^ b).toInt < 0) = (decide (a.toInt < 0) ^^ decide (b.toInt < 0)) := by
    have e1 : (a ^^^ b).toBitVec.msb = decide ((a ^^^ b).toInt < 0) := BitVec.msb_eq_toInt
    have e2 : a.toBitVec.msb = decide (a.toInt < 0) := BitVec.msb_eq_toInt
    have e3 : b.toBitVec.msb = decide (b.toInt < 0) := BitVec.msb_eq_toInt
    rw [← e1, ← e2, ← e3, Int32.toBitVec_xor, BitVec.msb_xor]
  rw [ile, show (0 : Int32).toInt = 0 by decide]
  by_cases q : a.toInt < 0
  · simp [q, show ¬ b.toInt < 0 by omega] at h
    omega
  · simp [q, show ¬ b.toInt < 0 by omega] at h
    omega
theorem fdv_toInt {x y : Int32} (hy : 0 < y.toInt) (hx : -2 ^ 30 ≤ x.toInt) (hx2 : x.toInt ≤ 2 ^ 30) : (fdv x y).toInt = x.toInt / y.toInt := by
  have e1 : (1 : Int32).toInt = 1 := by decide
  unfold fdv
  by_cases q : 0 ≤ x.toInt
  · rw [if_pos ((xor_sg (by omega)).mpr q), Int32.toInt_div, Int.tdiv_eq_ediv_of_nonneg q]
    have b1 := Int.ediv_nonneg q (show 0 ≤ y.toInt by omega)
    have b2 := Int.ediv_le_self y.toInt q
    exact Int.bmod_eq_of_le (by omega) (by omega)
  · rw [if_neg (fun c => q ((xor_sg (by omega)).mp c))]
    generalize hP : -x.toInt = P
    have hX : x.toInt = -P := by omega
    have hP0 : 0 ≤ P := by omega
    have b1 := Int.ediv_nonneg hP0 (show 0 ≤ y.toInt by omega)
    have b2 := Int.ediv_le_self y.toInt hP0
    obtain ⟨b3, b4⟩ := fl_pos (X := P) hy
    have t1 : (x / y).toInt = -(P / y.toInt) := by
      rw [Int32.toInt_div, hX, Int.neg_tdiv, Int.tdiv_eq_ediv_of_nonneg hP0]
      exact Int.bmod_eq_of_le (by omega) (by omega)
    generalize P / y.toInt = d at b1 b2 b3 b4 t1
    have b0 : 0 ≤ y.toInt * d := Int.mul_nonneg (by omega) b1
    have t2 : (x / y * y).toInt = -(y.toInt * d) := by
      have e : (x / y).toInt * y.toInt = -(y.toInt * d) := by rw [t1, Int.neg_mul, Int.mul_comm]
      rw [im (by rw [e]; omega) (by rw [e]; omega), e]
    by_cases c : x / y * y = x
    · rw [if_pos c, t1]
      rw [ine, t2] at c
      refine (fl_uniq hy ?_ ?_).symm
      · rw [Int.neg_mul, Int.mul_comm d]
        omega
      · rw [Int.neg_mul, Int.mul_comm d]
        omega
    · rw [if_neg c]
      rw [ine, t2] at c
      rw [is_ (by omega) (by omega), t1, e1]
      refine (fl_uniq hy ?_ ?_).symm
      · rw [Int.sub_mul, Int.neg_mul, Int.mul_comm d, Int.one_mul]
        omega
      · rw [Int.sub_mul, Int.neg_mul, Int.mul_comm d, Int.one_mul]
        omega
theorem ja {x y : Int64} (h1 : -2 ^ 63 ≤ x.toInt + y.toInt) (h2 : x.toInt + y.toInt < 2 ^ 63) : (x + y).toInt = x.toInt + y.toInt := by
  rw [Int64.toInt_add]
  exact Int.bmod_eq_of_le (by omega) (by omega)
theorem js {x y : Int64} (h1 : -2 ^ 63 ≤ x.toInt - y.toInt) (h2 : x.toInt - y.toInt < 2 ^ 63) : (x - y).toInt = x.toInt - y.toInt := by
  rw [Int64.toInt_sub]
  exact Int.bmod_eq_of_le (by omega) (by omega)
theorem jm {x y : Int64} (h1 : -2 ^ 63 ≤ x.toInt * y.toInt) (h2 : x.toInt * y.toInt < 2 ^ 63) : (x * y).toInt = x.toInt * y.toInt := by
  rw [Int64.toInt_mul]
  exact Int.bmod_eq_of_le (by omega) (by omega)
theorem jn {x : Int64} (h1 : -2 ^ 63 < x.toInt) : (-x).toInt = -x.toInt := by
  have := l_hi x
  rw [Int64.toInt_neg]
  exact Int.bmod_eq_of_le (by omega) (by omega)
theorem dwn_toInt {u d : Int64} (hd : 0 < d.toInt) (hd2 : d.toInt ≤ 2 ^ 40) (hu : -2 ^ 60 ≤ u.toInt) (hu2 : u.toInt ≤ 2 ^ 60) : (dwn u d).toInt = u.toInt / d.toInt := by
  have e1 : (1 : Int64).toInt = 1 := by decide
  have e0 : (0 : Int64).toInt = 0 := by decide
  unfold dwn
  by_cases q : u < 0
  · rw [if_pos q]
    rw [jlt, e0] at q
    have t0 : (d - 1).toInt = d.toInt - 1 := by rw [js (by omega) (by omega), e1]
    have t1 : (d - 1 - u).toInt = d.toInt - 1 - u.toInt := by rw [js (by omega) (by omega), t0]
    generalize hP : d.toInt - 1 - u.toInt = P at t1
    have hP0 : 0 ≤ P := by omega
    have b1 := Int.ediv_nonneg hP0 (show 0 ≤ d.toInt by omega)
    have b2 := Int.ediv_le_self d.toInt hP0
    obtain ⟨b3, b4⟩ := fl_pos (X := P) hd
    have t2 : ((d - 1 - u) / d).toInt = P / d.toInt := by
      rw [Int64.toInt_div, t1, Int.tdiv_eq_ediv_of_nonneg hP0]
      exact Int.bmod_eq_of_le (by omega) (by omega)
    rw [jn (by rw [t2]; omega), t2]
    generalize P / d.toInt = r at b1 b2 b3 b4
    refine (fl_uniq hd ?_ ?_).symm
    · rw [Int.neg_mul, Int.mul_comm r]
      omega
    · rw [Int.neg_mul, Int.mul_comm r]
      omega
  · rw [if_neg q]
    rw [jlt, e0] at q
    have q0 : 0 ≤ u.toInt := by omega
    rw [Int64.toInt_div, Int.tdiv_eq_ediv_of_nonneg q0]
    have b1 := Int.ediv_nonneg q0 (show 0 ≤ d.toInt by omega)
    have b2 := Int.ediv_le_self d.toInt q0
    exact Int.bmod_eq_of_le (by omega) (by omega)
