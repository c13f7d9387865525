/-! The reference's drift: the least of the lines that it lets in. -/
def dR (y : MdS) (a b : Nat) : Int := (y.dl b).toInt - (y.dl a).toInt
def dF (y : MdS) (a b : Nat) : Int := (y.fr b).toInt - (y.fr a).toInt
def dS (y : MdS) : Int := y.least.toInt + y.most.toInt
def Cand (y : MdS) (a b : Nat) : Prop := a < y.ct ∧ b < y.ct ∧ (y.fr a).toInt < (y.fr b).toInt ∧ 2 * (y.fr a).toInt ≤ dS y ∧ dS y ≤ 2 * (y.fr b).toInt ∧ ∀ c, c < y.ct → dR y a b * dF y a c ≤ dR y a c * dF y a b
/-- the bounds that all arrivals keep -/
def DB (y : MdS) : Prop := ∀ a, a < y.ct → 0 ≤ (y.fr a).toInt ∧ (y.fr a).toInt ≤ 299 ∧ -5980 ≤ (y.dl a).toInt ∧ (y.dl a).toInt ≤ 30000
theorem WR.db {z : SpcS} {y : MdS} (H : WR z y) : DB y := fun a ha => H.pt ⟨a, ha, rfl, rfl⟩
theorem lel_ok (y : MdS) : ∀ n a l, (∀ c, a ≤ c → c < a + n → (lel y n a l).toInt ≤ (y.fr c).toInt) ∧ (lel y n a l).toInt ≤ l.toInt ∧ (lel y n a l = l ∨ ∃ c, a ≤ c ∧ c < a + n ∧ lel y n a l = y.fr c)
  | 0, a, l => ⟨fun c h1 h2 => by omega, Int.le_refl _, Or.inl rfl⟩
  | n + 1, a, l => by
    rw [lel]
    obtain ⟨i1, i2, i3⟩ := lel_ok y n (a + 1) (if l ≤ y.fr a then l else y.fr a)
    by_cases q : l ≤ y.fr a
    · rw [if_pos q] at i1 i2 i3 ⊢
      rw [ile] at q
      refine ⟨fun c c1 c2 => ?_, i2, ?_⟩
      · rcases (show c = a ∨ a + 1 ≤ c by omega) with w | w
        · subst w
          omega
        · exact i1 c w (by omega)
      · rcases i3 with w | ⟨c, c1, c2, c3⟩
        · exact Or.inl w
        · exact Or.inr ⟨c, by omega, by omega, c3⟩
    · rw [if_neg q] at i1 i2 i3 ⊢
      rw [ile] at q
      refine ⟨fun c c1 c2 => ?_, by omega, ?_⟩
      · rcases (show c = a ∨ a + 1 ≤ c by omega) with w | w
        · subst w
          omega
        · exact i1 c w (by omega)
      · rcases i3 with w | ⟨c, c1, c2, c3⟩
        · exact Or.inr ⟨a, by omega, by omega, w⟩
        · exact Or.inr ⟨c, by omega, by omega, c3⟩
theorem mol_ok (y : MdS) : ∀ n a l, (∀ c, a ≤ c → c < a + n → (y.fr c).toInt ≤ (mol y n a l).toInt) ∧ l.toInt ≤ (mol y n a l).toInt ∧ (mol y n a l = l ∨ ∃ c, a ≤ c ∧ c < a + n ∧ mol y n a l = y.fr c)
  | 0, a, l => ⟨fun c h1 h2 => by omega, Int.le_refl _, Or.inl rfl⟩
  | n + 1, a, l => by
    rw [mol]
    obtain ⟨i1, i2, i3⟩ := mol_ok y n (a + 1) (if y.fr a ≤ l then l else y.fr a)
    by_cases q : y.fr a ≤ l
    · rw [if_pos q] at i1 i2 i3 ⊢
      rw [ile] at q
      refine ⟨fun c c1 c2 => ?_, i2, ?_⟩
      · rcases (show c = a ∨ a + 1 ≤ c by omega) with w | w
        · subst w
          omega
        · exact i1 c w (by omega)
      · rcases i3 with w | ⟨c, c1, c2, c3⟩
        · exact Or.inl w
        · exact Or.inr ⟨c, by omega, by omega, c3⟩
    · rw [if_neg q] at i1 i2 i3 ⊢
      rw [ile] at q
      refine ⟨fun c c1 c2 => ?_, by omega, ?_⟩
      · rcases (show c = a ∨ a + 1 ≤ c by omega) with w | w
        · subst w
          omega
        · exact i1 c w (by omega)
      · rcases i3 with w | ⟨c, c1, c2, c3⟩
        · exact Or.inr ⟨a, by omega, by omega, w⟩
        · exact Or.inr ⟨c, by omega, by omega, c3⟩
theorem DB.least {y : MdS} (H : DB y) (h : 0 < y.ct) : (∀ c, c < y.ct → y.least.toInt ≤ (y.fr c).toInt) ∧ ∃ c, c < y.ct ∧ y.least.toInt = (y.fr c).toInt := by
  obtain ⟨i1, i2, i3⟩ := lel_ok y y.ct 0 300
  refine ⟨fun c hc => i1 c (by omega) (by omega), ?_⟩
  rcases i3 with w | ⟨c, _, c2, c3⟩
  · have e : (300 : Int32).toInt = 300 := by decide
    have a1 := i1 0 (by omega) (by omega)
    have a2 := H 0 h
    rw [w, e] at a1
    omega
  · exact ⟨c, by omega, by unfold MdS.least; rw [c3]⟩
theorem DB.most {y : MdS} (H : DB y) (h : 0 < y.ct) : (∀ c, c < y.ct → (y.fr c).toInt ≤ y.most.toInt) ∧ ∃ c, c < y.ct ∧ y.most.toInt = (y.fr c).toInt := by
  obtain ⟨i1, i2, i3⟩ := mol_ok y y.ct 0 0
  refine ⟨fun c hc => i1 c (by omega) (by omega), ?_⟩
  rcases i3 with w | ⟨c, _, c2, c3⟩
  · have e : (0 : Int32).toInt = 0 := by decide
    have a1 := i1 0 (by omega) (by omega)
    have a2 := H 0 h
    rw [w, e] at a1
    refine ⟨0, h, ?_⟩
    unfold MdS.most
    rw [w, e]
    omega
  · exact ⟨c, by omega, by unfold MdS.most; rw [c3]⟩
theorem DB.rise {y : MdS} (H : DB y) {a b : Nat} (ha : a < y.ct) (hb : b < y.ct) : (y.rise a b).toInt = dR y a b ∧ -35980 ≤ dR y a b ∧ dR y a b ≤ 35980 := by
  have h1 := H a ha
  have h2 := H b hb
  unfold MdS.rise dR
  rw [i64i, is_ (by omega) (by omega)]
  omega
theorem DB.far {y : MdS} (H : DB y) {a b : Nat} (ha : a < y.ct) (hb : b < y.ct) : (y.far a b).toInt = dF y a b ∧ -299 ≤ dF y a b ∧ dF y a b ≤ 299 := by
  have h1 := H a ha
  have h2 := H b hb
  unfold MdS.far dF
  rw [i64i, is_ (by omega) (by omega)]
  omega
theorem DB.mul {y : MdS} {r f : Int64} {R F : Int} (h1 : r.toInt = R) (h2 : f.toInt = F) (a1 : -35980 ≤ R) (a2 : R ≤ 35980) (a3 : -299 ≤ F) (a4 : F ≤ 299) : (r * f).toInt = R * F := by
  have b := mulbd a1 a2 a3 a4
  rw [jm (by rw [h1, h2]; omega) (by rw [h1, h2]; omega), h1, h2]
theorem undl_iff {y : MdS} (H : DB y) {a b : Nat} (ha : a < y.ct) (hb : b < y.ct) : ∀ n c, c + n ≤ y.ct → (¬ undl y a b n c = 0 ↔ ∀ x, c ≤ x → x < c + n → dR y a b * dF y a x ≤ dR y a x * dF y a b)
  | 0, c, hc => ⟨fun _ x h1 h2 => by omega, fun _ => show ¬ (1 : Int32) = 0 by decide⟩
  | n + 1, c, hc => by
    rw [undl]
    have ih := undl_iff H ha hb n (c + 1) (by omega)
    obtain ⟨r1, r2, r3⟩ := H.rise ha hb
    obtain ⟨s1, s2, s3⟩ := H.rise ha (show c < y.ct by omega)
    obtain ⟨f1, f2, f3⟩ := H.far ha hb
    obtain ⟨g1, g2, g3⟩ := H.far ha (show c < y.ct by omega)
    have e1 : (y.rise a b * y.far a c).toInt = dR y a b * dF y a c := DB.mul (y := y) r1 g1 r2 r3 g2 g3
    have e2 : (y.rise a c * y.far a b).toInt = dR y a c * dF y a b := DB.mul (y := y) s1 f1 s2 s3 f2 f3
    by_cases q : y.rise a b * y.far a c ≤ y.rise a c * y.far a b
    · rw [if_pos q, ih]
      rw [jle, e1, e2] at q
      refine ⟨fun h x x1 x2 => ?_, fun h x x1 x2 => h x (by omega) (by omega)⟩
      rcases (show x = c ∨ c + 1 ≤ x by omega) with w | w
      · subst w
        exact q
      · exact h x w (by omega)
    · rw [if_neg q]
      rw [jle, e1, e2] at q
      exact ⟨fun h => absurd rfl h, fun h => absurd (h c (by omega) (by omega)) q⟩
theorem DB.sum {y : MdS} (H : DB y) (h : 0 < y.ct) : (y.least + y.most).toInt = dS y := by
  obtain ⟨_, c, c1, c2⟩ := H.least h
  obtain ⟨_, d, d1, d2⟩ := H.most h
  have := H c c1
  have := H d d1
  exact ia (by omega) (by omega)
theorem DB.two {y : MdS} (H : DB y) {a : Nat} (ha : a < y.ct) : (2 * y.fr a).toInt = 2 * (y.fr a).toInt := by
  have := H a ha
  have e : (2 : Int32).toInt = 2 := by decide
  rw [im (by rw [e]; omega) (by rw [e]; omega), e]
theorem drs_no {y : MdS} (H : DB y) {a b : Nat} (ha : a < y.ct) (hb : b < y.ct) (s : DrS) (h : ¬ Cand y a b) : drs y a b s = s := by
  unfold drs
  by_cases q1 : y.fr b ≤ y.fr a
  · rw [if_pos q1]
  rw [if_neg q1]
  by_cases q2 : y.least + y.most < 2 * y.fr a
  · rw [if_pos q2]
  rw [if_neg q2]
  by_cases q3 : 2 * y.fr b < y.least + y.most
  · rw [if_pos q3]
  rw [if_neg q3]
  by_cases q4 : y.under a b = 0
  · rw [if_pos q4]
  exfalso
  refine h ⟨ha, hb, ?_, ?_, ?_, ?_⟩
  · rw [ile] at q1
    omega
  · rw [ilt, H.sum (by omega), H.two ha] at q2
    omega
  · rw [ilt, H.sum (by omega), H.two hb] at q3
    omega
  · intro c hc
    exact (undl_iff H ha hb y.ct 0 (by omega)).mp q4 c (by omega) (by omega)
theorem drs_yes {y : MdS} (H : DB y) {a b : Nat} (s : DrS) (h : Cand y a b) : drs y a b s = if b2i s.1 = 0 then (true, y.rise a b, y.far a b) else if s.2.1 * y.far a b ≤ y.rise a b * s.2.2 then (true, s.2.1, s.2.2) else (true, y.rise a b, y.far a b) := by
  obtain ⟨ha, hb, h1, h2, h3, h4⟩ := h
  unfold drs
  rw [if_neg (show ¬ y.fr b ≤ y.fr a by rw [ile]; omega), if_neg (show ¬ y.least + y.most < 2 * y.fr a by rw [ilt, H.sum (by omega), H.two ha]; omega), if_neg (show ¬ 2 * y.fr b < y.least + y.most by rw [ilt, H.sum (by omega), H.two hb]; omega), if_neg (show ¬ y.under a b = 0 from (undl_iff H ha hb y.ct 0 (by omega)).mpr (fun x _ hx => h4 x (by omega)))]
def DI (y : MdS) (Q : Nat → Nat → Prop) (s : DrS) : Prop :=
  (s = (false, 0, 1) ∧ ∀ a b, Q a b → ¬ Cand y a b) ∨ (s.1 = true ∧ (∃ a b, Cand y a b ∧ s.2.1.toInt = dR y a b ∧ s.2.2.toInt = dF y a b) ∧ ∀ a b, Q a b → Cand y a b → s.2.1.toInt * dF y a b ≤ dR y a b * s.2.2.toInt)
theorem DI.mono {y : MdS} {Q Q' : Nat → Nat → Prop} {s : DrS} (h : DI y Q s) (hq : ∀ a b, Q' a b → Q a b) : DI y Q' s := by
  rcases h with ⟨h1, h2⟩ | ⟨h1, h2, h3⟩
  · exact Or.inl ⟨h1, fun a b q => h2 a b (hq a b q)⟩
  · exact Or.inr ⟨h1, h2, fun a b q => h3 a b (hq a b q)⟩
theorem DI.step {y : MdS} (H : DB y) {Q : Nat → Nat → Prop} {s : DrS} (h : DI y Q s) {a b : Nat} (ha : a < y.ct) (hb : b < y.ct) : DI y (fun a' b' => Q a' b' ∨ (a' = a ∧ b' = b)) (drs y a b s) := by
  by_cases c : Cand y a b
  · rw [drs_yes H s c]
    obtain ⟨r1, r2, r3⟩ := H.rise ha hb
    obtain ⟨f1, f2, f3⟩ := H.far ha hb
    have fp : 0 < dF y a b := by have := c.2.2.1; unfold dF; omega
    rcases h with ⟨h1, h2⟩ | ⟨h1, ⟨a0, b0, c0, e1, e2⟩, h3⟩
    · rw [h1, if_pos (show b2i false = 0 from rfl)]
      refine Or.inr ⟨rfl, ⟨a, b, c, r1, f1⟩, ?_⟩
      rintro a' b' (q | ⟨q1, q2⟩) c'
      · exact absurd c' (h2 a' b' q)
      · rw [q1, q2]
        show (y.rise a b).toInt * _ ≤ _ * (y.far a b).toInt
        rw [r1, f1]
        exact Int.le_refl _
    · rw [h1, if_neg (show ¬ b2i true = 0 by decide)]
      obtain ⟨_, k2, k3⟩ := H.rise c0.1 c0.2.1
      obtain ⟨_, l2, l3⟩ := H.far c0.1 c0.2.1
      have fp0 : 0 < dF y a0 b0 := by have := c0.2.2.1; unfold dF; omega
      have m1 : (s.2.1 * y.far a b).toInt = dR y a0 b0 * dF y a b := DB.mul (y := y) e1 f1 k2 k3 f2 f3
      have m2 : (y.rise a b * s.2.2).toInt = dR y a b * dF y a0 b0 := DB.mul (y := y) r1 e2 r2 r3 l2 l3
      by_cases q : s.2.1 * y.far a b ≤ y.rise a b * s.2.2
      · rw [if_pos q]
        rw [jle, m1, m2] at q
        refine Or.inr ⟨rfl, ⟨a0, b0, c0, e1, e2⟩, ?_⟩
        rintro a' b' (w | ⟨w1, w2⟩) c'
        · exact h3 a' b' w c'
        · rw [w1, w2]
          show s.2.1.toInt * _ ≤ _ * s.2.2.toInt
          rw [e1, e2]
          exact q
      · rw [if_neg q]
        rw [jle, m1, m2] at q
        refine Or.inr ⟨rfl, ⟨a, b, c, r1, f1⟩, ?_⟩
        rintro a' b' (w | ⟨w1, w2⟩) c'
        · show (y.rise a b).toInt * _ ≤ _ * (y.far a b).toInt
          have t := h3 a' b' w c'
          have fp' : 0 < dF y a' b' := by have := c'.2.2.1; unfold dF; omega
          rw [e1, e2] at t
          rw [r1, f1]
          exact ln_tr fp0 (by omega) (by omega) (by omega) t
        · rw [w1, w2]
          show (y.rise a b).toInt * _ ≤ _ * (y.far a b).toInt
          rw [r1, f1]
          exact Int.le_refl _
  · rw [drs_no H ha hb s c]
    rcases h with ⟨h1, h2⟩ | ⟨h1, h2, h3⟩
    · refine Or.inl ⟨h1, ?_⟩
      rintro a' b' (w | ⟨w1, w2⟩)
      · exact h2 a' b' w
      · rw [w1, w2]
        exact c
    · refine Or.inr ⟨h1, h2, ?_⟩
      rintro a' b' (w | ⟨w1, w2⟩) c'
      · exact h3 a' b' w c'
      · rw [w1, w2] at c'
        exact absurd c' c
theorem DI.b {y : MdS} (H : DB y) {a : Nat} (ha : a < y.ct) : ∀ n b Q s, b + n ≤ y.ct → DI y Q s → DI y (fun a' b' => Q a' b' ∨ (a' = a ∧ b ≤ b' ∧ b' < b + n)) (drb y a n b s)
  | 0, b, Q, s, hb, h => h.mono (fun a' b' q => by
      rcases q with q | q
      · exact q
      · omega)
  | n + 1, b, Q, s, hb, h => by
    rw [drb]
    refine (DI.b H ha n (b + 1) _ _ (by omega) (h.step H ha (show b < y.ct by omega))).mono ?_
    rintro a' b' (q | ⟨q1, q2, q3⟩)
    · exact Or.inl (Or.inl q)
    · rcases (show b' = b ∨ b + 1 ≤ b' by omega) with w | w
      · exact Or.inl (Or.inr ⟨q1, w⟩)
      · exact Or.inr ⟨q1, w, by omega⟩
theorem DI.a {y : MdS} (H : DB y) : ∀ n a Q s, a + n ≤ y.ct → DI y Q s → DI y (fun a' b' => Q a' b' ∨ (a ≤ a' ∧ a' < a + n ∧ b' < y.ct)) (dra y n a s)
  | 0, a, Q, s, ha, h => h.mono (fun a' b' q => by
      rcases q with q | q
      · exact q
      · omega)
  | n + 1, a, Q, s, ha, h => by
    rw [dra]
    refine (DI.a H n (a + 1) _ _ (by omega) (DI.b H (show a < y.ct by omega) y.ct 0 _ _ (by omega) h)).mono ?_
    rintro a' b' (q | ⟨q1, q2, q3⟩)
    · exact Or.inl (Or.inl q)
    · rcases (show a' = a ∨ a + 1 ≤ a' by omega) with w | w
      · exact Or.inl (Or.inr ⟨w, by omega, by omega⟩)
      · exact Or.inr ⟨w, by omega, q3⟩
theorem DI.dr {y : MdS} (H : DB y) : DI y (fun _ _ => True) y.dr := by
  have h0 : DI y (fun _ _ => False) (false, 0, 1) := Or.inl ⟨rfl, fun _ _ q => q.elim⟩
  have h := DI.a H y.ct 0 _ _ (by omega) h0
  rcases h with ⟨h1, h2⟩ | ⟨h1, h2, h3⟩
  · exact Or.inl ⟨h1, fun a b _ c => h2 a b (Or.inr ⟨by omega, by have := c.1; omega, c.2.1⟩) c⟩
  · exact Or.inr ⟨h1, h2, fun a b _ c => h3 a b (Or.inr ⟨by omega, by have := c.1; omega, c.2.1⟩) c⟩
/-- the reference's fraction, reduced -/
theorem red64 {s : DrS} {r f : Int} (h1 : s.2.1.toInt = r) (h2 : s.2.2.toInt = f) (hf : 0 < f) (hf2 : f ≤ 299) (r1 : -35980 ≤ r) (r2 : r ≤ 35980) : ∃ u v : Int, r = (Nat.gcd r.natAbs f.natAbs : Nat) * u ∧ f = (Nat.gcd r.natAbs f.natAbs : Nat) * v ∧ (s.2.1 / dgc s).toInt = u ∧ (s.2.2 / dgc s).toInt = v := by
  have gp : 0 < Nat.gcd r.natAbs f.natAbs := Nat.gcd_pos_of_pos_right _ (by omega)
  have gl : Nat.gcd r.natAbs f.natAbs ≤ f.natAbs := Nat.gcd_le_right _ (by omega)
  obtain ⟨u, hu⟩ := Int.ofNat_dvd_left.mpr (Nat.gcd_dvd_left r.natAbs f.natAbs)
  obtain ⟨v, hv⟩ := Int.ofNat_dvd_left.mpr (Nat.gcd_dvd_right r.natAbs f.natAbs)
  have hd : (dgc s).toInt = (Nat.gcd r.natAbs f.natAbs : Nat) := by
    unfold dgc
    rw [h1, h2, pk_lT (by omega)]
  refine ⟨u, v, hu, hv, ?_, ?_⟩
  · rw [Int64.toInt_div, hd, h1]
    have bu := fr_bd gp hu r1 r2
    generalize Nat.gcd r.natAbs f.natAbs = g at gp gl hu hv hd ⊢
    rw [hu, Int.mul_tdiv_cancel_left _ (by omega)]
    exact Int.bmod_eq_of_le (by omega) (by omega)
  · rw [Int64.toInt_div, hd, h2]
    have bv := fr_bd gp hv (B := 299) (by omega) (by omega)
    generalize Nat.gcd r.natAbs f.natAbs = g at gp gl hu hv hd ⊢
    rw [hv, Int.mul_tdiv_cancel_left _ (by omega)]
    exact Int.bmod_eq_of_le (by omega) (by omega)
