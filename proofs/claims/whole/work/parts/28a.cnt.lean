/-! Counting, adding up and the least passing value, in either order; the class's row against the reference's. -/
def pc (P : Nat → Bool) : Nat → Nat → Nat
  | 0, _ => 0
  | n + 1, i => (if P i = true then 1 else 0) + pc P n (i + 1)
theorem pc_last (P : Nat → Bool) : ∀ n i, pc P (n + 1) i = pc P n i + (if P (i + n) = true then 1 else 0)
  | 0, i => by rw [pc, pc, pc]; simp
  | n + 1, i => by
    rw [pc, pc_last P n (i + 1), pc, show i + 1 + n = i + (n + 1) by omega]
    omega
theorem pc_cg {P Q : Nat → Bool} : ∀ n i, (∀ x, i ≤ x → x < i + n → P x = Q x) → pc P n i = pc Q n i
  | 0, _, _ => rfl
  | n + 1, i, H => by
    rw [pc, pc, H i (by omega) (by omega), pc_cg n (i + 1) (fun x h1 h2 => H x (by omega) (by omega))]
theorem pc_le (P : Nat → Bool) : ∀ n i, pc P n i ≤ n
  | 0, _ => Nat.le_refl _
  | n + 1, i => by
    rw [pc]
    have := pc_le P n (i + 1)
    split <;> omega
theorem pc_rev (P : Nat → Bool) {c : Nat} : ∀ n, n ≤ c → pc (fun i => P (c - 1 - i)) n 0 = pc P n (c - n)
  | 0, _ => rfl
  | n + 1, h => by
    rw [pc_last, pc_rev P n (by omega), pc, Nat.zero_add, show c - (n + 1) + 1 = c - n by omega, show c - 1 - n = c - (n + 1) by omega]
    omega
theorem cgt_pc (d : Nat → Int32) (v : Int32) : ∀ n i a, cgt d v n i (nI a) = nI (a + pc (fun x => decide (v.toInt < (d x).toInt)) n i)
  | 0, _, _ => rfl
  | n + 1, i, a => by
    rw [cgt, pc]
    by_cases q : d i ≤ v
    · rw [if_pos q, cgt_pc d v n (i + 1) a, if_neg (by rw [decide_eq_true_eq]; rw [ile] at q; omega), Nat.zero_add]
    · rw [if_neg q, nI_1, cgt_pc d v n (i + 1) (a + 1), if_pos (by rw [decide_eq_true_eq]; rw [ile] at q; omega)]
      congr 1
      omega
theorem jle {x y : Int64} : x ≤ y ↔ x.toInt ≤ y.toInt := Int64.le_iff_toInt_le
theorem jlt {x y : Int64} : x < y ↔ x.toInt < y.toInt := Int64.lt_iff_toInt_lt
theorem cgl_pc (se : Nat → Int64) (a : Nat) : ∀ n b g, cgl se a n b (nI g) = nI (g + pc (fun x => decide ((se a).toInt < (se x).toInt)) n b)
  | 0, _, _ => rfl
  | n + 1, b, g => by
    rw [cgl, pc]
    by_cases q : se b ≤ se a
    · rw [if_pos q, add0, cgl_pc se a n (b + 1) g, if_neg (by rw [decide_eq_true_eq]; rw [jle] at q; omega), Nat.zero_add]
    · rw [if_neg q, nI_1, cgl_pc se a n (b + 1) (g + 1), if_pos (by rw [decide_eq_true_eq]; rw [jle] at q; omega)]
      congr 1
      omega
/-- the class's row ds of n places and the reference's se of the places c - n to c - 1 hold the same numbers, one from behind -/
def Rvs (ds : Nat → Int32) (se : Nat → Int64) (n c : Nat) : Prop := n ≤ 32 ∧ n ≤ c ∧ c ≤ 120 ∧ ∀ i, i < n → (rg 32 ds (nI i)).toInt = (se (c - 1 - i)).toInt
theorem Rvs.back {ds : Nat → Int32} {se : Nat → Int64} {n c : Nat} (h : Rvs ds se n c) {x : Nat} (h1 : c - n ≤ x) (h2 : x < c) : ∃ i, i < n ∧ x = c - 1 - i ∧ (rg 32 ds (nI i)).toInt = (se x).toInt := by
  obtain ⟨a, b, d, e⟩ := h
  refine ⟨c - 1 - x, by omega, by omega, ?_⟩
  rw [e _ (by omega), show c - 1 - (c - 1 - x) = x by omega]
/-- how many of the numbers are above v -/
theorem Rvs.above {ds : Nat → Int32} {se : Nat → Int64} {n c : Nat} (h : Rvs ds se n c) {i : Nat} (hi : i < n) : cgt (fun i => rg 32 ds (nI i)) (rg 32 ds (nI i)) n 0 0 = cgl se (c - 1 - i) n (c - n) 0 := by
  have e1 := cgt_pc (fun i => rg 32 ds (nI i)) (rg 32 ds (nI i)) n 0 0
  have e2 := cgl_pc se (c - 1 - i) n (c - n) 0
  have z0 : nI 0 = 0 := nI_0
  rw [z0] at e1 e2
  rw [e1, e2, Nat.zero_add, Nat.zero_add, ← pc_rev _ n h.2.1]
  congr 1
  refine pc_cg _ _ (fun x _ hx => ?_)
  show decide _ = decide _
  rw [h.2.2.2 i hi, h.2.2.2 x (by omega)]
