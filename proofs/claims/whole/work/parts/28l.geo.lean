/-! Lines under points, in whole numbers. -/
theorem ln_le {r1 f1 r2 f2 u v : Int} (h1 : 0 < f1) (h2 : 0 ≤ f2) (hu : 0 ≤ u) (hs : r2 * f1 ≤ r1 * f2) (h : r1 * u ≤ v * f1) : r2 * u ≤ v * f2 := by
  have a1 := Int.mul_le_mul_of_nonneg_right hs hu
  have a2 := Int.mul_le_mul_of_nonneg_left h h2
  refine Int.le_of_mul_le_mul_left (a := f1) ?_ h1
  have e1 : f1 * (r2 * u) = r2 * f1 * u := by ac_rfl
  have e2 : r1 * f2 * u = f2 * (r1 * u) := by ac_rfl
  have e3 : f1 * (v * f2) = f2 * (v * f1) := by ac_rfl
  omega
theorem ln_ge {r1 f1 r2 f2 u v : Int} (h1 : 0 < f1) (h2 : 0 ≤ f2) (hu : u ≤ 0) (hs : r1 * f2 ≤ r2 * f1) (h : r1 * u ≤ v * f1) : r2 * u ≤ v * f2 := by
  have a1 := Int.mul_le_mul_of_nonpos_right hs hu
  have a2 := Int.mul_le_mul_of_nonneg_left h h2
  refine Int.le_of_mul_le_mul_left (a := f1) ?_ h1
  have e1 : f1 * (r2 * u) = r2 * f1 * u := by ac_rfl
  have e2 : r1 * f2 * u = f2 * (r1 * u) := by ac_rfl
  have e3 : f1 * (v * f2) = f2 * (v * f1) := by ac_rfl
  omega
theorem ln_sh {A B a b x e : Int} : (B - A) * (x - a) ≤ (e - A) * (b - a) ↔ (B - A) * (x - b) ≤ (e - B) * (b - a) := by
  simp only [Int.sub_mul, Int.mul_sub]
  omega
/-- of two lines under all points, the one that holds a point further to the right than some point of the other rises no less -/
theorem ln_two {p dp q dq a da b db : Int} (hpq : p < q) (hab : a < b) (hpb : p < b) (h1 : (dq - dp) * (b - p) ≤ (db - dp) * (q - p)) (h2 : (db - da) * (p - a) ≤ (dp - da) * (b - a)) : (dq - dp) * (b - a) ≤ (db - da) * (q - p) := by
  have k1 : (db - dp) * (b - a) ≤ (db - da) * (b - p) := by
    simp only [Int.sub_mul, Int.mul_sub] at h2 ⊢
    omega
  have m1 := Int.mul_le_mul_of_nonneg_left h1 (show 0 ≤ b - a by omega)
  have m2 := Int.mul_le_mul_of_nonneg_left k1 (show 0 ≤ q - p by omega)
  refine Int.le_of_mul_le_mul_left (a := b - p) ?_ (by omega)
  have e1 : (b - p) * ((dq - dp) * (b - a)) = (b - a) * ((dq - dp) * (b - p)) := by ac_rfl
  have e2 : (b - a) * ((db - dp) * (q - p)) = (q - p) * ((db - dp) * (b - a)) := by ac_rfl
  have e3 : (q - p) * ((db - da) * (b - p)) = (b - p) * ((db - da) * (q - p)) := by ac_rfl
  omega
/-- less than the lesser -/
theorem ln_tr {r f r1 f1 r2 f2 : Int} (h : 0 < f) (h1 : 0 ≤ f1) (h2 : 0 ≤ f2) (a : r1 * f ≤ r * f1) (b : r * f2 ≤ r2 * f) : r1 * f2 ≤ r2 * f1 := by
  have m1 := Int.mul_le_mul_of_nonneg_left a h2
  have m2 := Int.mul_le_mul_of_nonneg_left b h1
  refine Int.le_of_mul_le_mul_left (a := f) ?_ h
  have e1 : f * (r1 * f2) = f2 * (r1 * f) := by ac_rfl
  have e2 : f2 * (r * f1) = f1 * (r * f2) := by ac_rfl
  have e3 : f1 * (r2 * f) = f * (r2 * f1) := by ac_rfl
  omega
/-! The lower hull of points that come from left to right. -/
def Hl (P : Int → Int → Prop) (X D : Nat → Int) (c : Nat) : Prop :=
  (∀ k, k < c → P (X k) (D k)) ∧ (∀ k, k + 1 < c → X k < X (k + 1)) ∧ (∀ x e, P x e → 0 < c ∧ X 0 ≤ x ∧ x ≤ X (c - 1)) ∧
  ∀ k, k + 1 < c → ∀ x e, P x e → (D (k + 1) - D k) * (x - X k) ≤ (e - D k) * (X (k + 1) - X k)
theorem Hl.edges {P : Int → Int → Prop} {X D : Nat → Int} {c : Nat} (H : Hl P X D c) {n d : Int} (hn : ∀ x e, P x e → x < n) {m : Nat} (hm : m ≤ c) (h2 : 2 ≤ m → (D (m - 1) - D (m - 2)) * (n - X (m - 2)) < (d - D (m - 2)) * (X (m - 1) - X (m - 2))) : ∀ j k, k + 2 + j = m → (D (k + 1) - D k) * (n - X k) ≤ (d - D k) * (X (k + 1) - X k)
  | 0, k, hk => by
    have := h2 (by omega)
    rw [show m - 1 = k + 1 by omega, show m - 2 = k by omega] at this
    omega
  | j + 1, k, hk => by
    have ih := ln_sh.mp (Hl.edges H hn hm h2 j (k + 1) (by omega))
    have c2 := H.1 (k + 2) (by omega)
    have s := ln_sh.mp (H.2.2.2 k (by omega) _ _ c2)
    have x1 := H.2.1 k (by omega)
    have x2 := H.2.1 (k + 1) (by omega)
    have x3 := hn _ _ c2
    have ih0 := Hl.edges H hn hm h2 j (k + 1) (by omega)
    exact ln_sh.mpr (ln_le (show 0 < X (k + 1 + 1) - X (k + 1) by omega) (show 0 ≤ X (k + 1) - X k by omega) (show 0 ≤ n - X (k + 1) by have : X (k + 1 + 1) < n := x3; omega) s ih0)
theorem Hl.step {P : Int → Int → Prop} {X D : Nat → Int} {c : Nat} (H : Hl P X D c) (hf : ∀ x e e', P x e → P x e' → e = e') {n d : Int} (hn : ∀ x e, P x e → x < n) {m : Nat} (hm : m ≤ c) (h0 : 0 < c → 0 < m)
    (h2 : 2 ≤ m → (D (m - 1) - D (m - 2)) * (n - X (m - 2)) < (d - D (m - 2)) * (X (m - 1) - X (m - 2)))
    (h3 : m < c → 0 < m → ¬ (D m - D (m - 1)) * (n - X (m - 1)) < (d - D (m - 1)) * (X m - X (m - 1)))
    {P' : Int → Int → Prop} (hP : ∀ x e, P' x e ↔ P x e ∨ (x = n ∧ e = d)) {X' D' : Nat → Int} (hX : ∀ k, k < m → X' k = X k) (hD : ∀ k, k < m → D' k = D k) (hXm : X' m = n) (hDm : D' m = d) : Hl P' X' D' (m + 1) := by
  refine ⟨?_, ?_, ?_, ?_⟩
  · intro k hk
    rcases (show k < m ∨ k = m by omega) with q | q
    · rw [hX k q, hD k q]
      exact (hP _ _).mpr (Or.inl (H.1 k (by omega)))
    · rw [q, hXm, hDm]
      exact (hP _ _).mpr (Or.inr ⟨rfl, rfl⟩)
  · intro k hk
    rcases (show k + 1 < m ∨ k + 1 = m by omega) with q | q
    · rw [hX k (by omega), hX (k + 1) q]
      exact H.2.1 k (by omega)
    · rw [hX k (by omega), q, hXm]
      exact hn _ _ (H.1 k (by omega))
  · intro x e h
    refine ⟨by omega, ?_, ?_⟩
    · rcases Nat.eq_zero_or_pos m with q | q
      · rcases (hP _ _).mp h with a | ⟨a, _⟩
        · have := h0 (H.2.2.1 _ _ a).1
          omega
        · rw [q] at hXm
          omega
      · rw [hX 0 q]
        rcases (hP _ _).mp h with a | ⟨a, _⟩
        · exact (H.2.2.1 _ _ a).2.1
        · have := hn _ _ (H.1 0 (by omega))
          omega
    · show x ≤ X' m
      rw [hXm]
      rcases (hP _ _).mp h with a | ⟨a, _⟩
      · have := hn _ _ a
        omega
      · omega
  · intro k hk x e h
    rcases (show k + 1 < m ∨ k + 1 = m by omega) with q | q
    · rw [hX k (by omega), hX (k + 1) q, hD k (by omega), hD (k + 1) q]
      rcases (hP _ _).mp h with a | ⟨a, b⟩
      · exact H.2.2.2 k (by omega) x e a
      · rw [a, b]
        exact Hl.edges H hn hm h2 (m - 2 - k) k (by omega)
    · rw [q, hXm, hDm, hX k (by omega), hD k (by omega)]
      have hk1 : k < c := by omega
      have pk := H.1 k hk1
      have xn := hn _ _ pk
      rcases (hP _ _).mp h with a | ⟨a, b⟩
      · rcases (show x ≤ X k ∨ X k < x by omega) with w | w
        · rcases Nat.eq_zero_or_pos k with z | z
          · subst z
            have w2 := (H.2.2.1 _ _ a).2.1
            have ex : x = X 0 := by omega
            subst ex
            have ee := hf _ _ _ a pk
            subst ee
            simp only [Int.sub_self, Int.mul_zero, Int.zero_mul]
            exact Int.le_refl _
          · have g1 := h2 (by omega)
            rw [show m - 1 = k - 1 + 1 by omega, show m - 2 = k - 1 by omega] at g1
            have g2 := ln_sh.mp (Int.le_of_lt g1)
            have g3 := ln_sh.mp (H.2.2.2 (k - 1) (by omega) x e a)
            have x1 := H.2.1 (k - 1) (by omega)
            rw [show k - 1 + 1 = k by omega] at g2 g3 x1
            exact ln_ge (show 0 < X k - X (k - 1) by omega) (show 0 ≤ n - X k by omega) (show x - X k ≤ 0 by omega) g2 g3
        · have hc : m < c := by
            rcases Nat.lt_or_ge m c with z | z
            · exact z
            · have w3 := (H.2.2.1 _ _ a).2.2
              rw [show c - 1 = k by omega] at w3
              omega
          have g1 := h3 hc (by omega)
          rw [show m - 1 = k by omega, ← q] at g1
          have g3 := H.2.2.2 k (by omega) x e a
          have x1 := H.2.1 k (by omega)
          exact ln_le (show 0 < X (k + 1) - X k by omega) (show 0 ≤ n - X k by omega) (show 0 ≤ x - X k by omega) (by omega) g3
      · rw [a, b]
        exact Int.le_refl _
/-! How many of the frames are there. -/
def cbn (p : Nat → Bool) : Nat → Nat
  | 0 => 0
  | N + 1 => cbn p N + (if p N = true then 1 else 0)
def hit (g : Nat → Int32) : Nat → Nat → Bool
  | 0, _ => false
  | C + 1, n => if hit g C n = true then true else if g C = nI n then true else false
theorem hit_iff (g : Nat → Int32) (n : Nat) : ∀ C, hit g C n = true ↔ ∃ a, a < C ∧ g a = nI n
  | 0 => ⟨fun h => absurd (show false = true from h) (by decide), fun ⟨a, h, _⟩ => absurd h (by omega)⟩
  | C + 1 => by
    rw [hit]
    by_cases h : hit g C n = true
    · rw [if_pos h]
      obtain ⟨a, h1, h2⟩ := (hit_iff g n C).mp h
      exact ⟨fun _ => ⟨a, by omega, h2⟩, fun _ => rfl⟩
    · rw [if_neg h]
      by_cases h1 : g C = nI n
      · rw [if_pos h1]
        exact ⟨fun _ => ⟨C, by omega, h1⟩, fun _ => rfl⟩
      · rw [if_neg h1]
        refine ⟨fun q => absurd q (by decide), fun ⟨a, a1, a2⟩ => ?_⟩
        rcases (show a < C ∨ a = C by omega) with q | q
        · exact absurd ((hit_iff g n C).mpr ⟨a, q, a2⟩) h
        · subst q
          exact absurd a2 h1
theorem cbn_or {p q : Nat → Bool} {x : Nat} : ∀ N, (∀ n, n < N → q n = true → p n = true ∨ n = x) → cbn q N ≤ cbn p N + (if x < N then 1 else 0)
  | 0, _ => by rw [cbn]; omega
  | N + 1, h => by
    have ih := cbn_or N (fun n hn => h n (by omega))
    rw [cbn, cbn]
    by_cases c : q N = true
    · rw [if_pos c]
      rcases h N (by omega) c with d | d
      · rw [if_pos d]
        by_cases e : x < N
        · rw [if_pos e] at ih
          rw [if_pos (show x < N + 1 by omega)]
          omega
        · rw [if_neg e] at ih
          omega
      · rw [if_neg (show ¬ x < N by omega)] at ih
        rw [if_pos (show x < N + 1 by omega)]
        omega
    · rw [if_neg c]
      by_cases e : x < N
      · rw [if_pos e] at ih
        rw [if_pos (show x < N + 1 by omega)]
        omega
      · rw [if_neg e] at ih
        omega
theorem cbn_0 {p : Nat → Bool} : ∀ N, (∀ n, p n = false) → cbn p N = 0
  | 0, _ => rfl
  | N + 1, h => by
    rw [cbn, cbn_0 N h, h N]
    rfl
theorem hit_le {g : Nat → Int32} {N : Nat} (hN : N ≤ 300) : ∀ C, (∀ a, a < C → ∃ m, m < 300 ∧ g a = nI m) → cbn (hit g C) N ≤ C
  | 0, _ => by
    rw [cbn_0 (p := hit g 0) N (fun n => rfl)]
    exact Nat.le_refl _
  | C + 1, h => by
    have ih := hit_le hN C (fun a ha => h a (by omega))
    obtain ⟨m, hm, e⟩ := h C (by omega)
    have := cbn_or (p := hit g C) (q := hit g (C + 1)) (x := m) N (fun n hn q => by
      rw [hit] at q
      by_cases c : hit g C n = true
      · exact Or.inl c
      · rw [if_neg c] at q
        by_cases d : g C = nI n
        · right
          rw [e] at d
          exact ((nI_eq (by omega) (by omega)).mp d).symm
        · rw [if_neg d] at q
          cases q)
    by_cases e : m < N
    · rw [if_pos e] at this
      omega
    · rw [if_neg e] at this
      omega
/-! Reduced fractions. -/
theorem fr_uniq {r1 f1 r2 f2 u1 v1 u2 v2 : Int} {g1 g2 : Nat} (hf1 : 0 < f1) (hf2 : 0 < f2) (h : r1 * f2 = r2 * f1) (e1 : g1 = Nat.gcd r1.natAbs f1.natAbs) (e2 : g2 = Nat.gcd r2.natAbs f2.natAbs) (a1 : r1 = g1 * u1) (b1 : f1 = g1 * v1) (a2 : r2 = g2 * u2) (b2 : f2 = g2 * v2) : u1 = u2 ∧ v1 = v2 := by
  have p1 : 0 < g1 := by rw [e1]; exact Nat.gcd_pos_of_pos_right _ (by omega)
  have p2 : 0 < g2 := by rw [e2]; exact Nat.gcd_pos_of_pos_right _ (by omega)
  have hn : r1.natAbs * f2.natAbs = r2.natAbs * f1.natAbs := by rw [← Int.natAbs_mul, ← Int.natAbs_mul, h]
  have k : f1.natAbs * g2 = f2.natAbs * g1 := by
    rw [e1, e2, ← Nat.gcd_mul_left, ← Nat.gcd_mul_left, Nat.mul_comm f1.natAbs r2.natAbs, ← hn, Nat.mul_comm f2.natAbs r1.natAbs, Nat.mul_comm f1.natAbs f2.natAbs]
  have kI : f1 * (g2 : Int) = f2 * (g1 : Int) := by
    have t1 : (f1.natAbs : Int) = f1 := by omega
    have t2 : (f2.natAbs : Int) = f2 := by omega
    have t3 : ((f1.natAbs * g2 : Nat) : Int) = ((f2.natAbs * g1 : Nat) : Int) := by rw [k]
    rw [Int.natCast_mul, Int.natCast_mul, t1, t2] at t3
    exact t3
  have g1p : (0 : Int) < g1 := by omega
  have g2p : (0 : Int) < g2 := by omega
  have gp : (0 : Int) < (g1 : Int) * g2 := Int.mul_pos g1p g2p
  have hv : v1 = v2 := by
    rw [b1, b2] at kI
    refine Int.eq_of_mul_eq_mul_left (a := (g1 : Int) * g2) (by omega) ?_
    have s1 : (g1 : Int) * g2 * v1 = g1 * v1 * g2 := by ac_rfl
    have s2 : (g1 : Int) * g2 * v2 = g2 * v2 * g1 := by ac_rfl
    rw [s1, s2, kI]
  refine ⟨?_, hv⟩
  have v0 : 0 < v1 := by
    rcases (show 0 < v1 ∨ v1 ≤ 0 by omega) with q | q
    · exact q
    · have := Int.mul_le_mul_of_nonneg_left q (show (0 : Int) ≤ g1 by omega)
      rw [← b1, Int.mul_zero] at this
      omega
  have gv : (0 : Int) < (g1 : Int) * g2 * v1 := Int.mul_pos gp v0
  rw [a1, a2, b1, b2, ← hv] at h
  refine Int.eq_of_mul_eq_mul_left (a := (g1 : Int) * g2 * v1) (by omega) ?_
  have s1 : (g1 : Int) * g2 * v1 * u1 = g1 * u1 * (g2 * v1) := by ac_rfl
  have s2 : (g1 : Int) * g2 * v1 * u2 = g2 * u2 * (g1 * v1) := by ac_rfl
  rw [s1, s2, h]
theorem fr_bd {r u : Int} {g : Nat} (hg : 0 < g) (h : r = g * u) {B : Int} (b1 : -B ≤ r) (b2 : r ≤ B) : -B ≤ u ∧ u ≤ B := by
  rcases (show 0 ≤ u ∨ u ≤ 0 by omega) with q | q
  · have := Int.mul_le_mul_of_nonneg_right (show (1 : Int) ≤ g by omega) q
    rw [← h] at this
    omega
  · have := Int.mul_le_mul_of_nonpos_right (show (1 : Int) ≤ g by omega) q
    rw [← h] at this
    omega
/-- a fraction of the class's, reduced: the common divisor by Euclid's rounds -/
theorem gdl_ok : ∀ n a b, b ≤ a → a < 2 ^ 31 → a * b < 2 ^ n → gdl n (nI a) (nI b) = nI (Nat.gcd a b)
  | 0, a, b, h1, h2, h3 => by
    have hb : b = 0 := by
      rcases Nat.eq_zero_or_pos b with q | q
      · exact q
      · have := Nat.mul_le_mul (show 1 ≤ a by omega) (show 1 ≤ b by omega)
        omega
    subst hb
    rw [Nat.gcd_zero_right]
    rfl
  | n + 1, a, b, h1, h2, h3 => by
    rw [gdl]
    rcases Nat.eq_zero_or_pos b with q | q
    · subst q
      rw [if_pos nI_0, Nat.gcd_zero_right]
    · rw [if_neg (nI_ne0 q (by omega)), pk_rem h2 q (by omega)]
      have hm : a % b < b := Nat.mod_lt a q
      have hd : 1 ≤ a / b := Nat.div_pos h1 q
      have hs := Nat.div_add_mod a b
      have hq := Nat.mul_le_mul_left b hd
      rw [gdl_ok n b (a % b) (by omega) (by omega) ?_, ← gcd_step]
      have h4 : b * (2 * (a % b)) ≤ b * a := Nat.mul_le_mul_left b (by omega)
      rw [Nat.mul_comm b a, Nat.mul_left_comm] at h4
      rw [Nat.pow_succ] at h3
      omega
theorem gdl_64 {a b : Nat} (ha : a ≤ 35980) (hb : b ≤ 299) (hb0 : 0 < b) : gdl 64 (nI a) (nI b) = nI (Nat.gcd a b) := by
  have hm : a * b ≤ 35980 * 299 := Nat.mul_le_mul ha hb
  rcases Nat.lt_or_ge a b with q | q
  · show (if nI b = 0 then nI a else gdl 63 (nI b) (nI a - nI a / nI b * nI b)) = _
    rw [if_neg (nI_ne0 hb0 (by omega)), pk_rem (by omega) hb0 (by omega), Nat.mod_eq_of_lt q, gdl_ok 63 b a (by omega) (by omega) (by rw [Nat.mul_comm]; omega), Nat.gcd_comm]
  · exact gdl_ok 64 a b q (by omega) (by omega)
