/-! What the drift adds, the class's and the reference's, given the same fraction. -/
theorem mulbd {a b A B : Int} (h1 : -A ≤ a) (h2 : a ≤ A) (h3 : -B ≤ b) (h4 : b ≤ B) : -(A * B) ≤ a * b ∧ a * b ≤ A * B := by
  have x1 := Int.mul_nonneg (show 0 ≤ A - a by omega) (show 0 ≤ B - b by omega)
  have x2 := Int.mul_nonneg (show 0 ≤ A + a by omega) (show 0 ≤ B + b by omega)
  have x3 := Int.mul_nonneg (show 0 ≤ A - a by omega) (show 0 ≤ B + b by omega)
  have x4 := Int.mul_nonneg (show 0 ≤ A + a by omega) (show 0 ≤ B - b by omega)
  simp only [Int.sub_mul, Int.mul_sub, Int.add_mul, Int.mul_add] at x1 x2 x3 x4
  omega
theorem ing {x : Int32} (h1 : -2 ^ 31 < x.toInt) : (-x).toInt = -x.toInt := by
  have := i32hi x
  rw [Int32.toInt_neg]
  exact Int.bmod_eq_of_le (by omega) (by omega)
theorem over_toInt {ln : LinS} {n : Int32} (hl : 0 < ln.lo.toInt) (u1 : -35980 ≤ ln.up.toInt) (u2 : ln.up.toInt ≤ 35980) (n1 : -299 ≤ n.toInt) (n2 : n.toInt ≤ 299) : (ln.over n).toInt = -(-(ln.up.toInt * n.toInt) / ln.lo.toInt) ∧ -10758020 ≤ (ln.over n).toInt ∧ (ln.over n).toInt ≤ 10758020 := by
  have z32 : (0 : Int32).toInt = 0 := by decide
  have b := mulbd u1 u2 n1 n2
  have e1 : (-ln.up * n).toInt = -(ln.up.toInt * n.toInt) := by
    have e : (-ln.up).toInt = -ln.up.toInt := ing (by omega)
    rw [im (by rw [e, Int.neg_mul]; omega) (by rw [e, Int.neg_mul]; omega), e, Int.neg_mul]
  unfold LinS.over
  rw [if_neg (by rw [ile, z32]; omega)]
  have e2 : (fdv (-ln.up * n) ln.lo).toInt = -(ln.up.toInt * n.toInt) / ln.lo.toInt := by
    rw [fdv_toInt hl (by rw [e1]; omega) (by rw [e1]; omega), e1]
  generalize ln.up.toInt * n.toInt = P at b e1 e2
  obtain ⟨f1, f2⟩ := fl_pos (X := -P) hl
  have bd : -10758020 ≤ -P / ln.lo.toInt ∧ -P / ln.lo.toInt ≤ 10758020 := by
    obtain ⟨k, hk⟩ : ∃ k : Nat, ln.lo.toInt = (k : Int) := ⟨ln.lo.toInt.toNat, by omega⟩
    rw [hk] at hl f1 f2 ⊢
    have c1 := Int.mul_le_mul_of_nonneg_left (show (1 : Int) ≤ k by omega) (show (0 : Int) ≤ 10758020 by omega)
    exact fl_bd (B := 10758020) (by omega) (by omega) (by omega)
  rw [ing (by rw [e2]; omega), e2]
  omega
theorem alg_toInt {w : MdS} {v : Int32} {a : Nat} (h3 : w.mn = 3) (hl : 0 < w.by_.toInt) (hl2 : w.by_.toInt ≤ 299) (u1 : -35980 ≤ w.up.toInt) (u2 : w.up.toInt ≤ 35980) (n1 : -299 ≤ (v - w.fr a).toInt) (n2 : (v - w.fr a).toInt ≤ 299) : (alg w v a).toInt = -(-(w.up.toInt * (v - w.fr a).toInt) / w.by_.toInt) := by
  have b := mulbd u1 u2 n1 n2
  have e0 : (v - w.fr a).toInt64.toInt = (v - w.fr a).toInt := i64i _
  have e1 : (w.up * (v - w.fr a).toInt64).toInt = w.up.toInt * (v - w.fr a).toInt := by
    rw [jm (by rw [e0]; omega) (by rw [e0]; omega), e0]
  have e2 : (-(w.up * (v - w.fr a).toInt64)).toInt = -(w.up.toInt * (v - w.fr a).toInt) := by rw [jn (by rw [e1]; omega), e1]
  have e3 : (dwn (-(w.up * (v - w.fr a).toInt64)) w.by_).toInt = -(w.up.toInt * (v - w.fr a).toInt) / w.by_.toInt := by
    rw [dwn_toInt hl (by omega) (by rw [e2]; omega) (by rw [e2]; omega), e2]
  unfold alg
  rw [if_pos h3]
  generalize w.up.toInt * (v - w.fr a).toInt = P at b e1 e2 e3
  have bd : -10758020 ≤ -P / w.by_.toInt ∧ -P / w.by_.toInt ≤ 10758020 := by
    obtain ⟨k, hk⟩ : ∃ k : Nat, w.by_.toInt = (k : Int) := ⟨w.by_.toInt.toNat, by omega⟩
    rw [hk] at hl ⊢
    have c1 := Int.mul_le_mul_of_nonneg_left (show (1 : Int) ≤ k by omega) (show (0 : Int) ≤ 10758020 by omega)
    exact fl_bd (B := 10758020) (by omega) (by omega) (by omega)
  rw [jn (by rw [e3]; omega), e3]
theorem carl_at (ln : LinS) (ar : ArrS) (v : Int32) : ∀ n i f x, i + n ≤ 32 → i ≤ x → x < i + n → carl ln ar v n i f x = rg 32 f (nI x) + ln.over (v - rg 120 ar.fr (nI ar.ct - 1 - nI x))
  | 0, i, f, x, h0, h1, h2 => by omega
  | n + 1, i, f, x, h0, h1, h2 => by
    rw [carl]
    by_cases q : x = i
    · subst q
      have low : ∀ n i f, x < i → i + n ≤ 32 → carl ln ar v n i f x = f x := by
        intro n
        induction n with
        | zero => intro i f _ _; rfl
        | succ n ih =>
          intro i f hi hb
          rw [carl, ih (i + 1) _ (by omega) (by omega), rs_at (by omega) (by decide), pk_un (by omega)]
      rw [low n (x + 1) _ (by omega) (by omega), rs_at (by omega) (by decide), pk_us]
    · rw [carl_at ln ar v n (i + 1) _ x (by omega) (by omega) (by omega), rs_at (by omega) (by decide), rg_at (by omega) (by decide), rg_at (by omega) (by decide), pk_un q, rg_at (show x < 32 by omega) (by decide)]
