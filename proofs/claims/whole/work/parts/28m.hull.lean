/-! The class's line: its corners are the lower hull of the delays. -/
def PtO (y : MdS) (x e : Int) : Prop := ∃ a, a < y.ct ∧ (y.fr a).toInt = x ∧ (y.dl a).toInt = e
theorem WR.pt {z : SpcS} {y : MdS} (H : WR z y) {x e : Int} (h : PtO y x e) : 0 ≤ x ∧ x ≤ 299 ∧ -5980 ≤ e ∧ e ≤ 30000 := by
  obtain ⟨a, ha, e1, e2⟩ := h
  obtain ⟨m, t, a1, a2, a3, a4, a5, a6⟩ := H.dlI ha
  rw [a3, nI_toInt (by omega)] at e1
  omega
theorem WR.pf {z : SpcS} {y : MdS} (H : WR z y) {x e e' : Int} (h : PtO y x e) (h' : PtO y x e') : e = e' := by
  obtain ⟨a, ha, e1, e2⟩ := h
  obtain ⟨b, hb, g1, g2⟩ := h'
  obtain ⟨_, hc, _, _, _, h6, _⟩ := H
  obtain ⟨m, hm, m1, m2⟩ := h6 a ha
  obtain ⟨n, hn, n1, n2⟩ := h6 b hb
  rw [m1, nI_toInt (by omega)] at e1
  rw [n1, nI_toInt (by omega)] at g1
  have : m = n := by omega
  subst this
  rw [m2] at n2
  have := (nI_eq (by omega) (by omega)).mp n2
  subst this
  omega
theorem WR.paat {z : SpcS} {y : MdS} (h : WR z y) {m : Nat} (hm : m < 300) : (y.ca m = -9 ∧ rg 300 z.ar.pa (nI m) - 1 = -1) ∨ ∃ a, a < y.ct ∧ y.ca m = nI a ∧ y.fr a = nI m ∧ ¬ y.ca m = -9 ∧ rg 300 z.ar.pa (nI m) - 1 = nI a := by
  have hc := h.2.1
  rw [rg_at hm (by decide), h.2.2.2.2.1 m hm]
  rcases h.2.2.2.2.2.2.1 m hm with e | ⟨a, h1, h2, h3⟩
  · left
    rw [if_pos e]
    exact ⟨e, by decide⟩
  · right
    have h4 : ¬ y.ca m = -9 := by rw [h2]; exact nI_ne_neg (by omega) (by decide)
    refine ⟨a, h1, h2, h3, h4, ?_⟩
    rw [if_neg h4, h2, nI_1, nI_pred]
theorem cross {d1 d2 f1 f2 : Int32} (a1 : -5980 ≤ d1.toInt) (b1 : d1.toInt ≤ 30000) (a2 : -5980 ≤ d2.toInt) (b2 : d2.toInt ≤ 30000) (a3 : 0 ≤ f1.toInt) (b3 : f1.toInt ≤ 299) (a4 : 0 ≤ f2.toInt) (b4 : f2.toInt ≤ 299) : ((d1 - d2) * (f1 - f2)).toInt = (d1.toInt - d2.toInt) * (f1.toInt - f2.toInt) := by
  have e1 : (d1 - d2).toInt = d1.toInt - d2.toInt := is_ (by omega) (by omega)
  have e2 : (f1 - f2).toInt = f1.toInt - f2.toInt := is_ (by omega) (by omega)
  have b := mulbd (a := d1.toInt - d2.toInt) (b := f1.toInt - f2.toInt) (A := 35980) (B := 299) (by omega) (by omega) (by omega) (by omega)
  rw [im (by rw [e1, e2]; omega) (by rw [e1, e2]; omega), e1, e2]
theorem nbl_iff {cf cd : Nat → Int32} {c : Nat} {n d : Int32} (hc : 2 ≤ c) (hc2 : c ≤ 120) (hb : ∀ k, k < c → 0 ≤ (cf k).toInt ∧ (cf k).toInt ≤ 299 ∧ -5980 ≤ (cd k).toInt ∧ (cd k).toInt ≤ 30000) (hn : 0 ≤ n.toInt) (hn2 : n.toInt ≤ 299) (hd : -5980 ≤ d.toInt) (hd2 : d.toInt ≤ 30000) :
    nbl cf cd c n d = 0 ↔ ((cd (c - 1)).toInt - (cd (c - 2)).toInt) * (n.toInt - (cf (c - 2)).toInt) < (d.toInt - (cd (c - 2)).toInt) * ((cf (c - 1)).toInt - (cf (c - 2)).toInt) := by
  obtain ⟨x1, x2, x3, x4⟩ := hb (c - 1) (by omega)
  obtain ⟨y1, y2, y3, y4⟩ := hb (c - 2) (by omega)
  unfold nbl
  rw [show (2 : Int32) = nI 2 from rfl, pk_sub hc, nI_dec (by omega), rg_at (by omega) (by decide), rg_at (by omega) (by decide), rg_at (by omega) (by decide), rg_at (by omega) (by decide)]
  have s1 : ((cd (c - 1) - cd (c - 2)) * (n - cf (c - 2))).toInt = ((cd (c - 1)).toInt - (cd (c - 2)).toInt) * (n.toInt - (cf (c - 2)).toInt) := cross x3 x4 y3 y4 hn hn2 y1 y2
  have s2 : ((d - cd (c - 2)) * (cf (c - 1) - cf (c - 2))).toInt = (d.toInt - (cd (c - 2)).toInt) * ((cf (c - 1)).toInt - (cf (c - 2)).toInt) := cross hd hd2 y3 y4 x1 x2 y1 y2
  by_cases q : (cd (c - 1) - cd (c - 2)) * (n - cf (c - 2)) < (d - cd (c - 2)) * (cf (c - 1) - cf (c - 2))
  · rw [if_pos q]
    rw [ilt, s1, s2] at q
    exact ⟨fun _ => q, fun _ => rfl⟩
  · rw [if_neg q]
    rw [ilt, s1, s2] at q
    exact ⟨fun w => absurd w (by decide), fun w => absurd w q⟩
theorem popn_spec (cf cd : Nat → Int32) (n d : Int32) : ∀ c, (0 < c → 0 < popn cf cd n d c) ∧ (2 ≤ popn cf cd n d c → nbl cf cd (popn cf cd n d c) n d = 0) ∧ (popn cf cd n d c < c → ¬ nbl cf cd (popn cf cd n d c + 1) n d = 0)
  | 0 => ⟨fun h => h, fun h => absurd h (by show ¬ 2 ≤ 0; omega), fun h => absurd h (by show ¬ 0 < 0; omega)⟩
  | 1 => ⟨fun h => h, fun h => absurd h (by show ¬ 2 ≤ 1; omega), fun h => absurd h (by show ¬ 1 < 1; omega)⟩
  | c + 2 => by
    rw [popn]
    by_cases q : nbl cf cd (c + 2) n d = 0
    · rw [if_pos q]
      exact ⟨fun h => h, fun _ => q, fun h => by omega⟩
    · rw [if_neg q]
      obtain ⟨i1, i2, i3⟩ := popn_spec cf cd n d (c + 1)
      have le := popn_le cf cd n d (c + 1)
      refine ⟨fun _ => i1 (by omega), i2, fun h => ?_⟩
      rcases (show popn cf cd n d (c + 1) < c + 1 ∨ popn cf cd n d (c + 1) = c + 1 by omega) with w | w
      · exact i3 w
      · rw [w]
        exact q
def HlZ (y : MdS) (i : Nat) (z : LinS) : Prop := Hl (fun x e => PtO y x e ∧ x < i) (fun k => (z.cf k).toInt) (fun k => (z.cd k).toInt) z.cn ∧ z.cn ≤ cbn (hit y.fr y.ct) i ∧ z.up = 0 ∧ z.lo = 1
theorem HlZ.step {z : SpcS} {y : MdS} (H : WR z y) {i : Nat} (hi : i < 300) {w : LinS} (h : HlZ y i w) : HlZ y (i + 1) (fits1 z.ar i w) := by
  obtain ⟨h1, h2, h3, h4⟩ := h
  unfold fits1
  rcases H.paat hi with ⟨c1, c2⟩ | ⟨a, c1, c2, c3, c4, c5⟩
  · rw [if_pos c2]
    have no : ∀ x e, PtO y x e → x < ((i + 1 : Nat) : Int) → x < (i : Int) := by
      intro x e ⟨a, a1, a2, a3⟩ hx
      obtain ⟨m, hm, m1, m2⟩ := H.2.2.2.2.2.1 a a1
      rw [m1, nI_toInt (by omega)] at a2
      rcases (show m = i ∨ (m : Int) < i by omega) with q | q
      · subst q
        rw [c1] at m2
        exact absurd m2.symm (nI_ne_neg (by have := H.2.1; omega) (by decide))
      · omega
    refine ⟨⟨fun k hk => ⟨(h1.1 k hk).1, by have := (h1.1 k hk).2; omega⟩, h1.2.1, fun x e hx => h1.2.2.1 x e ⟨hx.1, no x e hx.1 hx.2⟩, fun k hk x e hx => h1.2.2.2 k hk x e ⟨hx.1, no x e hx.1 hx.2⟩⟩, ?_, h3, h4⟩
    rw [cbn]
    omega
  · rw [if_neg (by rw [c5]; exact nI_ne_neg (by have := H.2.1; omega) (by decide)), c5]
    obtain ⟨m, t, g1, g2, g3, g4, g5, g6⟩ := H.dlI c1
    have hm : m = i := by
      rw [c3] at g3
      exact ((nI_eq (by omega) (by omega)).mp g3).symm
    subst hm
    rw [g6]
    have hhit : hit y.fr y.ct m = true := (hit_iff _ _ _).mpr ⟨a, c1, c3⟩
    have hcb : cbn (hit y.fr y.ct) (m + 1) = cbn (hit y.fr y.ct) m + 1 := by rw [cbn, if_pos hhit]
    have hle : cbn (hit y.fr y.ct) (m + 1) ≤ 120 := by
      have := hit_le (g := y.fr) (N := m + 1) (by omega) y.ct (fun a ha => by obtain ⟨m, a1, a2, _⟩ := H.2.2.2.2.2.1 a ha; exact ⟨m, a1, a2⟩)
      have := H.2.1
      omega
    have hN : (nI m).toInt = (m : Int) := nI_toInt (by omega)
    have hbd : ∀ k, k < w.cn → 0 ≤ (w.cf k).toInt ∧ (w.cf k).toInt ≤ 299 ∧ -5980 ≤ (w.cd k).toInt ∧ (w.cd k).toInt ≤ 30000 := fun k hk => H.pt (h1.1 k hk).1
    have hpt : PtO y (m : Int) (y.dl a).toInt := ⟨a, c1, by rw [c3]; exact hN, rfl⟩
    have hpb := H.pt hpt
    have pl := popn_le w.cf w.cd (nI m) (y.dl a) w.cn
    obtain ⟨p1, p2, p3⟩ := popn_spec w.cf w.cd (nI m) (y.dl a) w.cn
    unfold LinS.addc
    generalize popn w.cf w.cd (nI m) (y.dl a) w.cn = p at pl p1 p2 p3
    refine ⟨?_, ?_, h3, h4⟩
    · show Hl _ (fun k => (rs 120 w.cf (nI p) (nI m) k).toInt) (fun k => (rs 120 w.cd (nI p) (y.dl a) k).toInt) (p + 1)
      rw [rs_at (by omega) (by decide), rs_at (by omega) (by decide)]
      refine Hl.step (n := (m : Int)) (d := (y.dl a).toInt) h1 (fun x e e' q q' => H.pf q.1 q'.1) (fun x e q => q.2) pl p1 ?_ ?_ ?_ ?_ ?_ ?_ ?_
      · intro q
        have := (nbl_iff q (by omega) (fun k hk => hbd k (by omega)) (by omega) (by omega) (by omega) (by omega)).mp (p2 q)
        rw [hN] at this
        exact this
      · intro q q0 c
        refine p3 q ((nbl_iff (by omega) (by omega) (fun k hk => hbd k (by omega)) (by omega) (by omega) (by omega) (by omega)).mpr ?_)
        rw [hN, show p + 1 - 1 = p by omega, show p + 1 - 2 = p - 1 by omega]
        exact c
      · intro x e
        constructor
        · intro q
          rcases (show x < m ∨ x = m by have := q.2; omega) with w | w
          · exact Or.inl ⟨q.1, w⟩
          · subst w
            exact Or.inr ⟨rfl, H.pf q.1 hpt⟩
        · rintro (q | ⟨q1, q2⟩)
          · exact ⟨q.1, by have := q.2; omega⟩
          · subst q1 q2
            exact ⟨hpt, by omega⟩
      · intro k hk
        show (upd w.cf p (nI m) k).toInt = _
        rw [pk_un (by omega)]
      · intro k hk
        show (upd w.cd p (y.dl a) k).toInt = _
        rw [pk_un (by omega)]
      · show (upd w.cf p (nI m) p).toInt = _
        rw [pk_us, hN]
      · show (upd w.cd p (y.dl a) p).toInt = _
        rw [pk_us]
    · show p + 1 ≤ _
      omega
theorem HlZ.all {z : SpcS} {y : MdS} (H : WR z y) : ∀ n i w, i + n = 300 → HlZ y i w → HlZ y 300 (fitl z.ar n i w)
  | 0, i, w, hi, h => by
    rw [show i = 300 by omega] at h
    exact h
  | n + 1, i, w, hi, h => by
    rw [fitl]
    exact HlZ.all H n (i + 1) _ (by omega) (h.step H (by omega))
theorem HlZ.fit {z : SpcS} {y : MdS} (H : WR z y) : HlZ y 300 (fitl z.ar 300 0 (z.ln.cf, z.ln.cd, 0, 0, 1)) :=
  HlZ.all H 300 0 _ (by omega) ⟨⟨fun k hk => absurd hk (by show ¬ k < 0; omega), fun k hk => absurd hk (by show ¬ k + 1 < 0; omega), fun x e q => absurd q.2 (by have := (H.pt q.1).1; show ¬ x < ((0 : Nat) : Int); omega), fun k hk => absurd hk (by show ¬ k + 1 < 0; omega)⟩, Nat.le_refl _, rfl, rfl⟩
