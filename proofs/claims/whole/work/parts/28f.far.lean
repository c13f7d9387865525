/-! The answer of the mean; the reference's row as it is laid. -/
theorem byMean_rel {w : WisS} {y : MdS} {k : Int32} (h : Rvs w.ds y.se w.sz y.ct) (hn : 0 < w.sz) (ho : y.ct - w.sz = y.old) (hb : ∀ i, i < w.sz → -30000 ≤ (rg 32 w.ds (nI i)).toInt ∧ (rg 32 w.ds (nI i)).toInt ≤ 30000) (hk : 0 ≤ k.toInt ∧ k.toInt ≤ 8) : (w.byMean k).toInt = (y.farBy k).toInt ∧ -1000000 ≤ (w.byMean k).toInt ∧ (w.byMean k).toInt ≤ 1000000 := by
  have hN := h.1
  have hc := h.2.2.1
  have hle := h.2.1
  have z32 : (0 : Int32).toInt = 0 := by decide
  have z64 : (0 : Int64).toInt = 0 := by decide
  obtain ⟨m1, m2, m3, hcnt⟩ := mean_rel h hn ho hb
  have hd : ∀ i, i < w.sz → (iabs (rg 32 w.ds (nI i) - w.mean)).toInt = (y.fars (y.ct - 1 - i)).toInt ∧ 0 ≤ (iabs (rg 32 w.ds (nI i) - w.mean)).toInt ∧ (iabs (rg 32 w.ds (nI i) - w.mean)).toInt ≤ 60000 := by
    intro i hi
    have b := hb i hi
    have r := h.2.2.2 i hi
    have s1 : (rg 32 w.ds (nI i) - w.mean).toInt = (rg 32 w.ds (nI i)).toInt - w.mean.toInt := is_ (by omega) (by omega)
    unfold MdS.fars
    show (if 0 ≤ rg 32 w.ds (nI i) - w.mean then rg 32 w.ds (nI i) - w.mean else 0 - (rg 32 w.ds (nI i) - w.mean)).toInt = _ ∧ _ ≤ (if 0 ≤ rg 32 w.ds (nI i) - w.mean then rg 32 w.ds (nI i) - w.mean else 0 - (rg 32 w.ds (nI i) - w.mean)).toInt ∧ (if 0 ≤ rg 32 w.ds (nI i) - w.mean then rg 32 w.ds (nI i) - w.mean else 0 - (rg 32 w.ds (nI i) - w.mean)).toInt ≤ _
    by_cases q : 0 ≤ rg 32 w.ds (nI i) - w.mean
    · rw [if_pos q]
      rw [ile, z32, s1] at q
      rw [if_pos (jle.mpr (by omega)), s1, js (by omega) (by omega)]
      omega
    · rw [if_neg q]
      rw [ile, z32, s1] at q
      rw [if_neg (fun c => by have := jle.mp c; omega), is_ (by omega) (by omega), s1, z32, js (by omega) (by omega)]
      omega
  have e1 := sumr_toInt (fun i => iabs (rg 32 w.ds (nI i) - w.mean)) w.sz 0 0 0 (by omega) (fun x _ hx => by have := (hd x (by omega)).2; omega) (by rw [z32]; omega) (by rw [z32]; omega)
  have hbk : ∀ x, y.old ≤ x → x < y.old + (y.ct - y.old) → 0 ≤ (y.fars x).toInt ∧ (y.fars x).toInt ≤ 60000 := by
    intro x a b
    obtain ⟨i, i1, i2, i3⟩ := h.back (x := x) (by omega) (by omega)
    have := hd i i1
    rw [i2, ← this.1]
    exact this.2
  have e2 := suml_toInt y.fars (y.ct - y.old) y.old 0 0 (by omega) (fun x a b => by have := hbk x a b; omega) (by rw [z64]; omega) (by rw [z64]; omega)
  have e3 : ssum (fun x => (iabs (rg 32 w.ds (nI x) - w.mean)).toInt) w.sz 0 = ssum (fun x => (y.fars x).toInt) (y.ct - y.old) y.old := by
    rw [show y.ct - y.old = w.sz by omega, ← ho, ← ssum_rev _ w.sz hle]
    exact ssum_cg _ _ (fun x _ hx => (hd x (by omega)).1)
  rw [z32, Int.zero_add] at e1
  rw [z64, Int.zero_add, ← e3] at e2
  have bd := ssum_bd (f := fun x => (iabs (rg 32 w.ds (nI x) - w.mean)).toInt) (B := 60000) w.sz 0 (fun x _ hx => by have := (hd x (by omega)).2; omega)
  generalize ssum (fun x => (iabs (rg 32 w.ds (nI x) - w.mean)).toInt) w.sz 0 = S at e1 e2 bd
  have f1 : w.far.toInt = S / (w.sz : Int) := by
    unfold WisS.far
    rw [fdv_toInt (by rw [nI_toInt (by omega)]; omega) (by rw [e1]; omega) (by rw [e1]; omega), e1, nI_toInt (by omega)]
  have f2 : (dwn (suml y.fars (y.ct - y.old) y.old 0) y.cnt).toInt = S / (w.sz : Int) := by
    rw [dwn_toInt (by rw [hcnt]; omega) (by rw [hcnt]; omega) (by rw [e2]; omega) (by rw [e2]; omega), e2, hcnt]
  have b2 := fl_bd hn bd.1 bd.2
  unfold WisS.byMean MdS.farBy
  rw [if_pos (show 0 < nI w.sz by rw [ilt, z32, nI_toInt (by omega)]; omega)]
  generalize S / (w.sz : Int) = F at f1 f2 b2
  obtain ⟨q, hq, eq⟩ := nI_of (x := k) (by rw [ilt, z32]; omega)
  subst eq
  rw [nI_toInt hq] at hk
  have kk : (nI q).toInt = (q : Int) := nI_toInt hq
  have kl : (nI q).toInt64.toInt = (q : Int) := by rw [i64i, kk]
  have p1 : (q : Int) * F ≤ 480000 ∧ -480000 ≤ (q : Int) * F := by
    rcases (show q = 0 ∨ q = 1 ∨ q = 2 ∨ q = 3 ∨ q = 4 ∨ q = 5 ∨ q = 6 ∨ q = 7 ∨ q = 8 by omega) with e | e | e | e | e | e | e | e | e <;> subst e <;> omega
  have t1 : (nI q * w.far).toInt = (q : Int) * F := by
    rw [im (by rw [kk, f1]; omega) (by rw [kk, f1]; omega), kk, f1]
  have t2 : ((nI q).toInt64 * dwn (suml y.fars (y.ct - y.old) y.old 0) y.cnt).toInt = (q : Int) * F := by
    rw [jm (by rw [kl, f2]; omega) (by rw [kl, f2]; omega), kl, f2]
  rw [ia (by rw [t1]; omega) (by rw [t1]; omega), t1, ja (by rw [t2]; omega) (by rw [t2]; omega), t2]
  omega
theorem sel_at (w : MdS) (h : Int32) : ∀ n a f x, a ≤ x → x < a + n → sel w h n a f x = (w.dl x).toInt64 + alg w h x
  | 0, a, f, x, h1, h2 => by omega
  | n + 1, a, f, x, h1, h2 => by
    rw [sel]
    by_cases q : x = a
    · subst q
      have low : ∀ n i f, x < i → sel w h n i f x = f x := by
        intro n
        induction n with
        | zero => intro i f _; rfl
        | succ n ih =>
          intro i f hi
          rw [sel, ih (i + 1) _ (by omega), pk_uLn (by omega)]
      rw [low n (x + 1) _ (by omega), pk_uLs]
    · exact sel_at w h n (a + 1) _ x (by omega) (by omega)
/-- without drift the two rows are the delays -/
theorem gather_rvs {z : SpcS} {y : MdS} (H : WR z y) (h3 : ¬ y.mn = 3) (v : Int32) : Rvs (z.wi.gather z.ar).ds (y.wsh v).se (z.wi.gather z.ar).sz y.ct ∧ ∀ i, i < (z.wi.gather z.ar).sz → -30000 ≤ (rg 32 (z.wi.gather z.ar).ds (nI i)).toInt ∧ (rg 32 (z.wi.gather z.ar).ds (nI i)).toInt ≤ 30000 := by
  have hct := H.1
  have hc := H.2.1
  have hsz : (z.wi.gather z.ar).sz = min y.ct 32 := by
    show min z.ar.ct 32 = _
    rw [hct]
  have hD : ∀ i, i < min y.ct 32 → rg 32 (z.wi.gather z.ar).ds (nI i) = y.dl (y.ct - 1 - i) := by
    intro i hi
    rw [rg_at (by omega) (by decide)]
    show gatl z.ar z.ar.hs 0 z.wi.ds i = _
    rw [gatl_at z.ar _ 0 _ i (by show 0 + min z.ar.ct 32 ≤ 32; omega) (by omega) (by show i < 0 + min z.ar.ct 32; rw [hct]; omega), hct, nI_dec (by omega), pk_sub (by omega)]
    obtain ⟨m, t, _, _, _, _, _, e⟩ := H.dlI (a := y.ct - 1 - i) (by omega)
    exact e
  rw [hsz]
  refine ⟨⟨by omega, by omega, hc, fun i hi => ?_⟩, fun i hi => ?_⟩
  · rw [hD i hi]
    have e : (y.wsh v).se = sel y v (y.ct - y.old) y.old y.se := by
      unfold MdS.wsh MdS.wd
      rw [if_neg h3]
      rfl
    rw [e, sel_at y v _ _ _ _ (by unfold MdS.old; omega) (by unfold MdS.old; omega)]
    unfold alg
    rw [if_neg h3, ja (by rw [i64i, show (0 : Int64).toInt = 0 by decide]; have := i32lo (y.dl (y.ct - 1 - i)); omega) (by rw [i64i, show (0 : Int64).toInt = 0 by decide]; have := i32hi (y.dl (y.ct - 1 - i)); omega), i64i, show (0 : Int64).toInt = 0 by decide]
    omega
  · rw [hD i hi]
    obtain ⟨m, t, a1, a2, _, _, a3, _⟩ := H.dlI (a := y.ct - 1 - i) (by omega)
    rw [a3]
    omega
