/-! Sums, the mean, how far the numbers are from it. -/
def ssum (f : Nat → Int) : Nat → Nat → Int
  | 0, _ => 0
  | n + 1, i => f i + ssum f n (i + 1)
theorem ssum_last (f : Nat → Int) : ∀ n i, ssum f (n + 1) i = ssum f n i + f (i + n)
  | 0, i => by rw [ssum, ssum, ssum, Nat.add_zero]; omega
  | n + 1, i => by
    rw [ssum, ssum_last f n (i + 1), ssum, show i + 1 + n = i + (n + 1) by omega]
    omega
theorem ssum_cg {f g : Nat → Int} : ∀ n i, (∀ x, i ≤ x → x < i + n → f x = g x) → ssum f n i = ssum g n i
  | 0, _, _ => rfl
  | n + 1, i, H => by
    rw [ssum, ssum, H i (by omega) (by omega), ssum_cg n (i + 1) (fun x h1 h2 => H x (by omega) (by omega))]
theorem ssum_rev (f : Nat → Int) {c : Nat} : ∀ n, n ≤ c → ssum (fun i => f (c - 1 - i)) n 0 = ssum f n (c - n)
  | 0, _ => rfl
  | n + 1, h => by
    rw [ssum_last, ssum_rev f n (by omega), ssum, Nat.zero_add, show c - (n + 1) + 1 = c - n by omega, show c - 1 - n = c - (n + 1) by omega]
    omega
theorem ssum_bd {f : Nat → Int} {B : Int} : ∀ n i, (∀ x, i ≤ x → x < i + n → -B ≤ f x ∧ f x ≤ B) → -(B * n) ≤ ssum f n i ∧ ssum f n i ≤ B * n
  | 0, _, _ => by rw [ssum]; simp
  | n + 1, i, H => by
    rw [ssum]
    have h1 := H i (by omega) (by omega)
    have h2 := ssum_bd (f := f) (B := B) n (i + 1) (fun x a b => H x (by omega) (by omega))
    have e : B * ((n + 1 : Nat) : Int) = B * n + B := by rw [Int.natCast_succ, Int.mul_add, Int.mul_one]
    rw [e]
    omega
theorem sumr_toInt (f : Nat → Int32) : ∀ n i a (M : Nat), M + n ≤ 64 → (∀ x, i ≤ x → x < i + n → -100000 ≤ (f x).toInt ∧ (f x).toInt ≤ 100000) → -(100000 * (M : Int)) ≤ a.toInt → a.toInt ≤ 100000 * (M : Int) → (sumr f n i a).toInt = a.toInt + ssum (fun x => (f x).toInt) n i
  | 0, _, _, _, _, _, _, _ => by rw [sumr, ssum]; omega
  | n + 1, i, a, M, hM, H, h1, h2 => by
    have b := H i (by omega) (by omega)
    have e : (a + f i).toInt = a.toInt + (f i).toInt := ia (by omega) (by omega)
    rw [sumr, ssum, sumr_toInt f n (i + 1) (a + f i) (M + 1) (by omega) (fun x c d => H x (by omega) (by omega)) (by rw [e]; omega) (by rw [e]; omega), e]
    omega
theorem suml_toInt (f : Nat → Int64) : ∀ n i a (M : Nat), M + n ≤ 64 → (∀ x, i ≤ x → x < i + n → -100000 ≤ (f x).toInt ∧ (f x).toInt ≤ 100000) → -(100000 * (M : Int)) ≤ a.toInt → a.toInt ≤ 100000 * (M : Int) → (suml f n i a).toInt = a.toInt + ssum (fun x => (f x).toInt) n i
  | 0, _, _, _, _, _, _, _ => by rw [suml, ssum]; omega
  | n + 1, i, a, M, hM, H, h1, h2 => by
    have b := H i (by omega) (by omega)
    have e : (a + f i).toInt = a.toInt + (f i).toInt := ja (by omega) (by omega)
    rw [suml, ssum, suml_toInt f n (i + 1) (a + f i) (M + 1) (by omega) (fun x c d => H x (by omega) (by omega)) (by rw [e]; omega) (by rw [e]; omega), e]
    omega
theorem fl_bd {S B : Int} {n : Nat} (hn : 0 < n) (h1 : -(B * n) ≤ S) (h2 : S ≤ B * n) : -B ≤ S / (n : Int) ∧ S / (n : Int) ≤ B := by
  have hY : 0 < (n : Int) := by omega
  obtain ⟨a, b⟩ := fl_pos (X := S) hY
  rw [Int.mul_comm B] at h1 h2
  constructor
  · rcases (show -B ≤ S / (n : Int) ∨ S / (n : Int) + 1 ≤ -B by omega) with c | c
    · exact c
    · have := Int.mul_le_mul_of_nonneg_left c (show 0 ≤ (n : Int) by omega)
      rw [Int.mul_add, Int.mul_one, Int.mul_neg] at this
      omega
  · rcases (show S / (n : Int) ≤ B ∨ B + 1 ≤ S / (n : Int) by omega) with c | c
    · exact c
    · have := Int.mul_le_mul_of_nonneg_left c (show 0 ≤ (n : Int) by omega)
      rw [Int.mul_add, Int.mul_one] at this
      omega
theorem mean_rel {w : WisS} {y : MdS} (h : Rvs w.ds y.se w.sz y.ct) (hn : 0 < w.sz) (ho : y.ct - w.sz = y.old) (hb : ∀ i, i < w.sz → -30000 ≤ (rg 32 w.ds (nI i)).toInt ∧ (rg 32 w.ds (nI i)).toInt ≤ 30000) :
    w.mean.toInt = y.mean.toInt ∧ -30000 ≤ w.mean.toInt ∧ w.mean.toInt ≤ 30000 ∧ y.cnt.toInt = (w.sz : Int) := by
  have hN := h.1
  have hc := h.2.2.1
  have hle := h.2.1
  have z32 : (0 : Int32).toInt = 0 := by decide
  have z64 : (0 : Int64).toInt = 0 := by decide
  have hcnt : y.cnt.toInt = (w.sz : Int) := by
    unfold MdS.cnt
    rw [i64i, pk_sub (show y.old ≤ y.ct by omega), show y.ct - y.old = w.sz by omega, nI_toInt (by omega)]
  have e1 := sumr_toInt (fun i => rg 32 w.ds (nI i)) w.sz 0 0 0 (by omega) (fun x _ hx => by have := hb x (by omega); omega) (by rw [z32]; omega) (by rw [z32]; omega)
  have hbk : ∀ x, y.old ≤ x → x < y.old + (y.ct - y.old) → -30000 ≤ (y.se x).toInt ∧ (y.se x).toInt ≤ 30000 := by
    intro x a b
    obtain ⟨i, i1, i2, i3⟩ := h.back (x := x) (by omega) (by omega)
    rw [← i3]
    exact hb i i1
  have e2 := suml_toInt y.se (y.ct - y.old) y.old 0 0 (by omega) (fun x a b => by have := hbk x a b; omega) (by rw [z64]; omega) (by rw [z64]; omega)
  have e3 : ssum (fun x => (rg 32 w.ds (nI x)).toInt) w.sz 0 = ssum (fun x => (y.se x).toInt) (y.ct - y.old) y.old := by
    rw [show y.ct - y.old = w.sz by omega, ← ho, ← ssum_rev _ w.sz hle]
    exact ssum_cg _ _ (fun x _ hx => h.2.2.2 x (by omega))
  rw [z32, Int.zero_add] at e1
  rw [z64, Int.zero_add, ← e3] at e2
  have bd := ssum_bd (f := fun x => (rg 32 w.ds (nI x)).toInt) (B := 30000) w.sz 0 (fun x _ hx => hb x (by omega))
  generalize ssum (fun x => (rg 32 w.ds (nI x)).toInt) w.sz 0 = S at e1 e2 bd
  have m1 : w.mean.toInt = S / (w.sz : Int) := by
    unfold WisS.mean
    rw [fdv_toInt (by rw [nI_toInt (by omega)]; omega) (by rw [e1]; omega) (by rw [e1]; omega), e1, nI_toInt (by omega)]
  have m2 : y.mean.toInt = S / (w.sz : Int) := by
    unfold MdS.mean
    rw [dwn_toInt (by rw [hcnt]; omega) (by rw [hcnt]; omega) (by rw [e2]; omega) (by rw [e2]; omega), e2, hcnt]
  have b2 := fl_bd hn bd.1 bd.2
  rw [m1, m2]
  exact ⟨rfl, b2.1, b2.2, hcnt⟩
