/-! An arrival: the class's and the reference's. -/
def MdS.m2g (y : MdS) (m tt : Nat) (g : SurS) : MdS := (y.sg, y.tp, y.tn, y.mn, y.mk, y.mg, y.jp, y.ct + 1, upd y.fr y.ct (nI m), upd y.wh y.ct (nI tt), y.sn, upd y.ca m (nI y.ct), y.sp, y.hd, y.ps, y.tm, y.mm, g.on, g.ba, g.bg, y.se, y.up, y.by_, y.co, y.po, y.gr, y.tx, y.wr)
theorem m1_dl (y : MdS) (m tt x : Nat) : (y.m1 m (nI tt)).dl x = upd y.wh y.ct (nI tt) x - 20 * upd y.fr y.ct (nI m) x := rfl
theorem add_dl {z : SpcS} {y : MdS} (h : Rel z y) (hc : y.ct < 120) (m tt : Nat) {x : Nat} (hx : x < 120) : (z.ar.add (nI m) (nI tt)).dl (nI x) = upd y.wh y.ct (nI tt) x - 20 * upd y.fr y.ct (nI m) x := by
  show rg 120 (rs 120 z.ar.wh (nI z.ar.ct) (nI tt)) (nI x) - 20 * rg 120 (rs 120 z.ar.fr (nI z.ar.ct) (nI m)) (nI x) = _
  rw [rg_at hx (by decide), rg_at hx (by decide), h.ct, rs_at hc (by decide), rs_at hc (by decide), h.wh, h.fr]
theorem spk_off {y1 : MdS} {a : Nat} (h1 : y1.on = false) (h2 : nI a ≤ 0 ∨ y1.dl a < y1.dl (a - 1) + y1.jp) : y1.spk a = y1 := by
  unfold MdS.spk
  rw [h1, if_pos (show b2i false = 0 from rfl)]
  by_cases q : nI a ≤ 0
  · rw [if_pos q]
  · rw [if_neg q]
    rcases h2 with c | c
    · exact absurd c q
    · rw [if_pos c]
theorem spk_up {y1 : MdS} {a : Nat} (h1 : y1.on = false) (h2 : ¬ nI a ≤ 0) (h3 : ¬ y1.dl a < y1.dl (a - 1) + y1.jp) : y1.spk a = (y1.sg, y1.tp, y1.tn, y1.mn, y1.mk, y1.mg, y1.jp, y1.ct, y1.fr, y1.wh, y1.sn, y1.ca, y1.sp, y1.hd, y1.ps, y1.tm, y1.mm, true, y1.dl (a - 1), y1.bg + 1, y1.se, y1.up, y1.by_, y1.co, y1.po, y1.gr, y1.tx, y1.wr) := by
  unfold MdS.spk
  rw [h1, if_pos (show b2i false = 0 from rfl), if_neg h2, if_neg h3]
theorem spk_dn {y1 : MdS} {a : Nat} (h1 : y1.on = true) (h3 : y1.dl a ≤ y1.ba + y1.jp / 2) : y1.spk a = (y1.sg, y1.tp, y1.tn, y1.mn, y1.mk, y1.mg, y1.jp, y1.ct, y1.fr, y1.wh, y1.sn, y1.ca, y1.sp, y1.hd, y1.ps, y1.tm, y1.mm, false, y1.ba, y1.bg, y1.se, y1.up, y1.by_, y1.co, y1.po, y1.gr, y1.tx, y1.wr) := by
  unfold MdS.spk
  rw [h1, if_neg (show ¬ b2i true = 0 by decide), if_pos h3]
theorem spk_st {y1 : MdS} {a : Nat} (h1 : y1.on = true) (h3 : ¬ y1.dl a ≤ y1.ba + y1.jp / 2) : y1.spk a = (y1.sg, y1.tp, y1.tn, y1.mn, y1.mk, y1.mg, y1.jp, y1.ct, y1.fr, y1.wh, y1.sn, y1.ca, y1.sp, y1.hd, y1.ps, y1.tm, y1.mm, true, y1.ba, y1.bg, y1.se, y1.up, y1.by_, y1.co, y1.po, y1.gr, y1.tx, y1.wr) := by
  unfold MdS.spk
  rw [h1, if_neg (show ¬ b2i true = 0 by decide), if_neg h3]
theorem m1_m2g {z : SpcS} {y : MdS} (h : Rel z y) (m tt : Nat) : y.m1 m (nI tt) = y.m2g m tt z.sg := by
  unfold MdS.m1 MdS.m2g
  rw [h.on, h.ba, h.bg]
theorem m2_eq {z : SpcS} {y : MdS} (h : Rel z y) {m tt : Nat} (hc : y.ct < 120) : y.m2 m (nI tt) = y.m2g m tt (z.came (nI m) (nI tt)).sg := by
  have e1 : (z.came (nI m) (nI tt)).sg = if nI z.ar.ct ≤ 0 then z.sg else z.sg.follow ((z.ar.add (nI m) (nI tt)).dl (nI z.ar.ct - 1)) ((z.ar.add (nI m) (nI tt)).dl (nI z.ar.ct)) z.jp := rfl
  rw [h.ct] at e1
  unfold MdS.m2
  rcases Nat.eq_zero_or_pos y.ct with q | q
  · have hz : nI y.ct ≤ 0 := by rw [q]; decide
    rw [if_pos hz] at e1
    rw [e1, spk_off (show (y.m1 m (nI tt)).on = false from h.ion q) (Or.inl hz)]
    exact m1_m2g h m tt
  · have hz : ¬ nI y.ct ≤ 0 := nI_nle q (by omega)
    rw [if_neg hz, nI_dec q, add_dl h hc m tt (by omega), add_dl h hc m tt (by omega), ← m1_dl, ← m1_dl, h.jp] at e1
    unfold SurS.follow at e1
    rw [h.on, h.ba, h.bg] at e1
    cases hon : y.on with
    | false =>
      rw [hon, if_pos (show b2i false = 0 from rfl)] at e1
      by_cases d : (y.m1 m (nI tt)).dl y.ct < (y.m1 m (nI tt)).dl (y.ct - 1) + y.jp
      · rw [if_pos d] at e1
        rw [e1, spk_off (show (y.m1 m (nI tt)).on = false from hon) (Or.inr d)]
        exact m1_m2g h m tt
      · rw [if_neg d] at e1
        rw [e1, spk_up (show (y.m1 m (nI tt)).on = false from hon) hz d]
        rfl
    | true =>
      rw [hon, if_neg (show ¬ b2i true = 0 by decide)] at e1
      by_cases d : (y.m1 m (nI tt)).dl y.ct ≤ y.ba + y.jp / 2
      · rw [if_pos d] at e1
        rw [e1, spk_dn (show (y.m1 m (nI tt)).on = true from hon) d]
        rfl
      · rw [if_neg d] at e1
        rw [e1, spk_st (show (y.m1 m (nI tt)).on = true from hon) d]
        rfl
theorem wr_came {z : SpcS} {y : MdS} (h : Rel z y) {m tt : Nat} (hm : m < 300) (ht : tt ≤ 30000) (hc : y.ct < 120) (hca : y.ca m = -9) {zc : SpcS} {Y : MdS} (e1 : zc.ar = z.ar.add (nI m) (nI tt)) (e2 : Y.ct = y.ct + 1) (e3 : Y.fr = upd y.fr y.ct (nI m)) (e4 : Y.wh = upd y.wh y.ct (nI tt)) (e5 : Y.ca = upd y.ca m (nI y.ct)) (e6 : zc.mn = Y.mn) (e7 : zc.mk = Y.mk) (e8 : zc.sg.on = Y.on) : WR zc Y := by
  have hzc := h.ct
  unfold WR
  rw [e1, e2, e3, e4, e5]
  refine ⟨?_, by omega, ?_, ?_, ?_, ?_, ?_, ?_, e6, e7, e8⟩
  · show z.ar.ct + 1 = y.ct + 1
    rw [hzc]
  · show rs 120 z.ar.fr (nI z.ar.ct) (nI m) = _
    rw [hzc, h.fr, rs_at hc (by decide)]
  · show rs 120 z.ar.wh (nI z.ar.ct) (nI tt) = _
    rw [hzc, h.wh, rs_at hc (by decide)]
  · intro n hn
    show rs 300 z.ar.pa (nI m) (nI z.ar.ct + 1) n = if upd y.ca m (nI y.ct) n = -9 then 0 else upd y.ca m (nI y.ct) n + 1
    rw [rs_at hm (by decide), hzc]
    by_cases q : n = m
    · subst q
      rw [pk_us, pk_us, if_neg (nI_ne_neg (by omega) (by decide))]
    · rw [pk_un q, pk_un q]
      exact h.pa n hn
  · intro a ha
    by_cases q : a = y.ct
    · subst q
      exact ⟨m, hm, pk_us, pk_us⟩
    · obtain ⟨m1, b1, b2, b3⟩ := h.i1 a (by omega)
      refine ⟨m1, b1, by rw [pk_un q]; exact b2, ?_⟩
      rw [pk_un (fun c => ?_)]
      · exact b3
      · subst c
        rw [b3] at hca
        exact nI_ne_neg (by omega) (by decide) hca
  · intro n hn
    by_cases q : n = m
    · subst q
      exact Or.inr ⟨y.ct, by omega, pk_us, pk_us⟩
    · rw [pk_un q]
      rcases h.i2 n hn with c | ⟨a, b1, b2, b3⟩
      · exact Or.inl c
      · exact Or.inr ⟨a, by omega, b2, by rw [pk_un (by omega)]; exact b3⟩
  · intro a ha
    by_cases q : a = y.ct
    · subst q
      exact ⟨tt, ht, pk_us⟩
    · rw [pk_un q]
      exact h.i3 a (by omega)
/-- the frame's own time, and whether it came too late -/
theorem settled {Z : SpcS} {y2 : MdS} {m tt k : Nat} {i : Int32} (hk : k < 120) (hm : m < 300) (ht : tt ≤ 30000) (hb : -11000000 ≤ (Z.sp.tm k).toInt) (hb2 : (Z.sp.tm k).toInt ≤ 11000000)
    (R : ∀ b pv, ((Z.sp.tm k < nI tt - 20 * nI m ∧ b = false ∧ pv = -9) ∨ (¬ Z.sp.tm k < nI tt - 20 * nI m ∧ b = true ∧ pv = 20 * nI m + Z.sp.tm k)) → Rel (Z.tp, Z.ar.settle i (nI k) pv, Z.sp.frame (nI k) (nI m) b, Z.sg, Z.ln, Z.wi, Z.sh, Z.mn, Z.mk, Z.mg, Z.jp) y2) : Rel (Z.settle i (nI m) (nI tt) (nI k)) y2 := by
  unfold SpcS.settle
  rw [rg_at hk (by decide)]
  have e : 20 * nI m + Z.sp.tm k < nI tt ↔ Z.sp.tm k < nI tt - 20 * nI m := by
    have e5 : (nI (20 * m)).toInt = ((20 * m : Nat) : Int) := nI_toInt (by omega)
    rw [show (20 : Int32) = nI 20 from rfl, pk_mul, ilt, ilt, ia (by omega) (by omega), pk_sub_toInt (by omega) (by omega), e5, nI_toInt (by omega)]
    omega
  by_cases q : 20 * nI m + Z.sp.tm k < nI tt
  · rw [if_pos q]
    exact R false (-9) (Or.inl ⟨e.mp q, rfl, rfl⟩)
  · rw [if_neg q]
    exact R true _ (Or.inr ⟨fun c => q (e.mpr c), rfl, rfl⟩)
/-! The order of the spurts, with one more. -/
theorem clt_snoc (f : Nat → Int32) (h : Int32) : ∀ n i a, cltN f h (n + 1) i a = if h ≤ f (i + n) then cltN f h n i a else cltN f h n i a + 1
  | 0, i, a => rfl
  | n + 1, i, a => by
    rw [cltN, clt_snoc f h n (i + 1), show i + 1 + n = i + (n + 1) by omega]
    rfl
theorem shf_at : ∀ n r f x, n ≤ r → r < 120 → shf n r f x = if r - n < x ∧ x ≤ r then f (x - 1) else f x
  | 0, r, f, x, h1, h2 => by
    rw [if_neg (by omega)]
    rfl
  | n + 1, r, f, x, h1, h2 => by
    rw [shf, nI_dec (by omega), rs_at h2 (by decide), rg_at (by omega) (by decide), shf_at n (r - 1) _ x (by omega) (by omega)]
    by_cases q : r - 1 - n < x ∧ x ≤ r - 1
    · rw [if_pos q, if_pos (by omega), pk_un (by omega)]
    · rw [if_neg q]
      by_cases c : x = r
      · subst c
        rw [pk_us, if_pos (by omega)]
      · rw [pk_un c, if_neg (by omega)]
theorem ranks {z : SpcS} {y : MdS} (h : Rel z y) {v : Int32} (hv : ∀ x, x < y.sp → ¬ y.hd x = v) (hs : y.sp < 120) : ∀ r, r < y.sp + 1 → ∃ k, k < y.sp + 1 ∧ upd (shf (y.sp - y.bl v) y.sp z.sp.rk) (y.bl v) (nI y.sp) r = nI k ∧ cltN (upd y.hd y.sp v) (upd y.hd y.sp v k) (y.sp + 1) 0 0 = r := by
  have hle : y.bl v ≤ 0 + y.sp := cltN_le y.hd v y.sp 0 0
  have cg : ∀ u, cltN (upd y.hd y.sp v) u y.sp 0 0 = y.bl u := fun u => clt_cg _ _ _ (fun x _ hx => pk_un (by omega))
  have old : ∀ k, k < y.sp → upd y.hd y.sp v k = y.hd k := fun k hk => pk_un (by omega)
  intro r hr
  rcases (show r < y.bl v ∨ r = y.bl v ∨ y.bl v < r by omega) with q | q | q
  · obtain ⟨k, k1, k2, k3⟩ := h.d3 r (by omega)
    refine ⟨k, by omega, ?_, ?_⟩
    · rw [pk_un (by omega), shf_at _ _ _ _ (by omega) hs, if_neg (by omega), k2]
    · rw [old k k1, clt_snoc, cg, Nat.zero_add, pk_us, if_pos ?_]
      · exact k3
      · rw [ile]
        refine Classical.byContradiction fun c => ?_
        have := clt_mono (f := y.hd) (h := v) (h' := y.hd k) (ile.mpr (by omega)) y.sp 0
        have k3 : cltN y.hd (y.hd k) y.sp 0 0 = r := k3
        have b : cltN y.hd v y.sp 0 0 = y.bl v := rfl
        omega
  · refine ⟨y.sp, by omega, by rw [q, pk_us], ?_⟩
    rw [pk_us, clt_snoc, cg, Nat.zero_add, pk_us, if_pos (ile.mpr (Int.le_refl _)), q]
  · obtain ⟨k, k1, k2, k3⟩ := h.d3 (r - 1) (by omega)
    refine ⟨k, by omega, ?_, ?_⟩
    · rw [pk_un (by omega), shf_at _ _ _ _ (by omega) hs, if_pos (by omega), k2]
    · rw [old k k1, clt_snoc, cg, Nat.zero_add, pk_us]
      have k3 : y.bl (y.hd k) = r - 1 := k3
      rw [if_neg ?_, k3]
      · omega
      · intro c
        rw [ile] at c
        have ne : ¬ (y.hd k).toInt = v.toInt := fun e => hv k k1 (ine.mpr e)
        have := clt_strict (f := y.hd) (h := y.hd k) (h' := v) (x := k) (ile.mpr (by omega)) (ile.mpr (by omega)) (ilt.mpr (by omega)) y.sp 0 (by omega) (by omega)
        have b : cltN y.hd v y.sp 0 0 = y.bl v := rfl
        have b2 : cltN y.hd (y.hd k) y.sp 0 0 = y.bl (y.hd k) := rfl
        omega
/-! The time that is set. -/
theorem bsd_cg {y y' : MdS} {v : Int32} {b : Bool} {N : Nat} (hN : N ≤ 120) (e : ∀ x, x < N → y'.hd x = y.hd x) : ∀ n k r, k + n ≤ N → (r = -9 ∨ ∃ j, j < k ∧ r = nI j) → bsd y' v b n k r = bsd y v b n k r
  | 0, _, _, _, _ => rfl
  | n + 1, k, r, hk, hr => by
    rw [bsd, bsd]
    have e1 : bst y' v b k r = bst y v b k r := by
      unfold bst
      rw [e k (by omega)]
      rcases hr with c | ⟨j, j1, j2⟩
      · rw [if_pos c, if_pos c, if_pos c, if_pos c]
      · rw [j2, nI_clamp (by omega), e j (by omega)]
    rw [e1]
    exact bsd_cg hN e n (k + 1) _ (by omega) (bst_or hr)
theorem tf_bd {z : SpcS} {y : MdS} (h : Rel z y) {b : Nat} (hb : b < 300) {w : Int32} (h1 : -11000000 ≤ w.toInt) (h2 : w.toInt ≤ 11000000) (v : Int32) : -11000000 ≤ (y.tf2 (y.tf1 (nI b) w (y.beside v true)) (y.beside v false)).toInt ∧ (y.tf2 (y.tf1 (nI b) w (y.beside v true)) (y.beside v false)).toInt ≤ 11000000 := by
  have hs := h.sp120
  have or1 : y.beside v true = -9 ∨ ∃ j, j < 0 + y.sp ∧ y.beside v true = nI j := bsd_or y.sp 0 (-9) (Or.inl rfl)
  have or2 : y.beside v false = -9 ∨ ∃ j, j < 0 + y.sp ∧ y.beside v false = nI j := bsd_or y.sp 0 (-9) (Or.inl rfl)
  have t1 : -11000000 ≤ (y.tf1 (nI b) w (y.beside v true)).toInt ∧ (y.tf1 (nI b) w (y.beside v true)).toInt ≤ 11000000 := by
    unfold MdS.tf1
    rcases or1 with e | ⟨j, j1, j2⟩
    · rw [if_pos e]
      exact ⟨h1, h2⟩
    · have t := h.i7 j (by omega)
      have e5 : (nI (20 * b)).toInt = ((20 * b : Nat) : Int) := nI_toInt (by omega)
      have e6 : (y.tm j - 20 * nI b).toInt = (y.tm j).toInt - ((20 * b : Nat) : Int) := by rw [show (20 : Int32) = nI 20 from rfl, pk_mul, is_ (by omega) (by omega), e5]
      rw [j2, if_neg (nI_ne_neg (by omega) (by decide)), nI_clamp (by omega)]
      by_cases q : y.tm j - 20 * nI b ≤ w
      · rw [if_pos q]
        exact ⟨h1, h2⟩
      · rw [if_neg q]
        rw [ile] at q
        omega
  generalize y.tf1 (nI b) w (y.beside v true) = w' at t1 ⊢
  unfold MdS.tf2
  rcases or2 with e | ⟨j, j1, j2⟩
  · rw [if_pos e]
    exact t1
  · have t := h.i7 j (by omega)
    obtain ⟨hh, pp, p1, p2, p3, p4⟩ := h.i6 j (by omega)
    have e5 : (nI (20 * pp)).toInt = ((20 * pp : Nat) : Int) := nI_toInt (by omega)
    have e6 : (y.tm j + 20 * y.ps j).toInt = (y.tm j).toInt + ((20 * pp : Nat) : Int) := by rw [p4, show (20 : Int32) = nI 20 from rfl, pk_mul, ia (by omega) (by omega), e5]
    rw [j2, if_neg (nI_ne_neg (by omega) (by decide)), nI_clamp (by omega)]
    by_cases q : w' ≤ y.tm j + 20 * y.ps j
    · rw [if_pos q]
      exact t1
    · rw [if_neg q]
      rw [ile] at q
      omega
theorem core_mg {y z : MdS} (h : y.core = z.core) : y.mg = z.mg := congrArg (fun c : CorS => c.2.2.2.2.2.1) h
theorem core_ps {y z : MdS} (h : y.core = z.core) : y.ps = z.ps := congrArg (fun c : CorS => c.2.2.2.2.2.2.2.2.2.2.2.2.2.2.1) h
theorem tff_eq {y W : MdS} (hs : y.sp ≤ 120) {v p : Int32} (k1 : W.sp = y.sp) (k2 : ∀ x, x < y.sp → W.hd x = y.hd x) (k3 : ∀ x, x < y.sp → W.ps x = y.ps x) (k4 : W.tm = y.tm) : W.tff v p = y.tf2 (y.tf1 p (W.wRR + W.mg) (y.beside v true)) (y.beside v false) := by
  have b1 : ∀ b, W.beside v b = y.beside v b := by
    intro b
    unfold MdS.beside
    rw [k1]
    exact bsd_cg hs k2 y.sp 0 (-9) (by omega) (Or.inl rfl)
  have or2 : y.beside v false = -9 ∨ ∃ j, j < 0 + y.sp ∧ y.beside v false = nI j := bsd_or y.sp 0 (-9) (Or.inl rfl)
  unfold MdS.tff
  rw [b1, b1]
  unfold MdS.tf2 MdS.tf1
  rw [k4]
  rcases or2 with e | ⟨j, j1, j2⟩
  · rw [if_pos e, if_pos e]
  · rw [j2, if_neg (nI_ne_neg (by omega) (by decide)), if_neg (nI_ne_neg (by omega) (by decide)), nI_clamp (by omega), k3 j (by omega)]
theorem fin_core {W Y : MdS} (e : W.core = Y.core) (k : Nat) (T kk : Int32) : ((W.m4w k T).m5 kk).core = (Y.sg, Y.tp, Y.tn, Y.mn, Y.mk, Y.mg, Y.jp, Y.ct, Y.fr, Y.wh, upd Y.sn (Y.ct - 1) kk, Y.ca, Y.sp + 1, Y.hd, Y.ps, upd Y.tm k T, Y.mm, Y.on, Y.ba, Y.bg) :=
  congrArg (fun c : CorS => ((c.1, c.2.1, c.2.2.1, c.2.2.2.1, c.2.2.2.2.1, c.2.2.2.2.2.1, c.2.2.2.2.2.2.1, c.2.2.2.2.2.2.2.1, c.2.2.2.2.2.2.2.2.1, c.2.2.2.2.2.2.2.2.2.1, upd c.2.2.2.2.2.2.2.2.2.2.1 (c.2.2.2.2.2.2.2.1 - 1) kk, c.2.2.2.2.2.2.2.2.2.2.2.1, c.2.2.2.2.2.2.2.2.2.2.2.2.1 + 1, c.2.2.2.2.2.2.2.2.2.2.2.2.2.1, c.2.2.2.2.2.2.2.2.2.2.2.2.2.2.1, upd c.2.2.2.2.2.2.2.2.2.2.2.2.2.2.2.1 k T, c.2.2.2.2.2.2.2.2.2.2.2.2.2.2.2.2.1, c.2.2.2.2.2.2.2.2.2.2.2.2.2.2.2.2.2.1, c.2.2.2.2.2.2.2.2.2.2.2.2.2.2.2.2.2.2.1, c.2.2.2.2.2.2.2.2.2.2.2.2.2.2.2.2.2.2.2) : CorS)) e
/-- an arrival of a spurt that is there -/
theorem arr_old {z : SpcS} {y : MdS} (h : Rel z y) {m tt k : Nat} (hm : m < 300) (ht : tt ≤ 30000) (hc : y.ct < 120) (hca : y.ca m = -9) (hk : k < y.sp) (hh : y.hd k ≤ nI m) : Rel ((z.came (nI m) (nI tt)).settle (nI z.ar.ct) (nI m) (nI tt) (nI k)) ((y.m2g m tt (z.came (nI m) (nI tt)).sg).m5 (nI k)) := by
  have hs := h.sp120
  have hb := h.i7 k hk
  have etm : (z.came (nI m) (nI tt)).sp.tm k = y.tm k := by show z.sp.tm k = _; rw [h.tm]
  have ez : z.sp = (y.hd, y.ps, y.tm, y.mm, z.sp.cm, z.sp.pl, z.sp.gr, z.sp.rk, y.sp) := by rw [← h.hd, ← h.ps, ← h.tm, ← h.mm, ← h.spc]
  rw [h.ct]
  refine settled (by omega) hm ht (by rw [etm]; omega) (by rw [etm]; omega) (fun b pv hpv => ?_)
  rw [etm] at hpv
  have r := Rel.arrived h (m := m) (tt := tt) (k := k) (sp' := y.sp) (hd' := y.hd) (ps' := y.ps) (tm' := y.tm) (mm' := y.mm) (cm0 := z.sp.cm) (pl0 := z.sp.pl) (gr0 := z.sp.gr) (rk' := z.sp.rk) (z.came (nI m) (nI tt)).sg (b := b) (pv := pv) hm ht hc hca (Nat.le_refl _) (by have := h.spct; omega) hk (fun j hj => Or.inl hj) (fun _ _ => rfl) (fun _ _ => rfl) h.i6 h.i6d h.i7 h.i8 hh (fun j hj => h.d2 j hj) h.d3 hpv
  rw [← ez] at r
  exact r
/-- an arrival of a new spurt -/
theorem arr_new {z : SpcS} {y : MdS} (h : Rel z y) {m a b tt : Nat} (hm : m < 300) (ha : a ≤ m) (hb : b ≤ a) (ht : tt ≤ 30000) (hc : y.ct < 120) (hca : y.ca m = -9) (hv : ∀ x, x < y.sp → ¬ y.hd x = nI a) : Rel (((z.came (nI m) (nI tt)).opened (nI a) (nI b)).settle (nI z.ar.ct) (nI m) (nI tt) (nI z.sp.ct)) (((y.m2g m tt (z.came (nI m) (nI tt)).sg).m4 (nI a) (nI b)).m5 (nI y.sp)) := by
  have hs := h.sp120
  have hsc := h.spct
  have hle : y.bl (nI a) ≤ 0 + y.sp := cltN_le y.hd (nI a) y.sp 0 0
  have H : WR (z.came (nI m) (nI tt)) ((y.m2g m tt (z.came (nI m) (nI tt)).sg).m3 (nI a) (nI b)) := wr_came h hm ht hc hca rfl rfl rfl rfl rfl h.mn h.mk rfl
  have hr : WRow (z.came (nI m) (nI tt)) ((y.m2g m tt (z.came (nI m) (nI tt)).sg).m3 (nI a) (nI b)) (nI a) := by
    by_cases h3 : y.mn = 3
    · exact wrow_drift H h3 (drel _ _ H) (by omega)
    · exact (wrow_plain H h3 (nI a)).1
  have w := wish_eq H (show 0 < y.ct + 1 by omega) h.mw h.mkr h.mkp h.mk8 (nI a) hr
  have hco := wsh_core ((y.m2g m tt (z.came (nI m) (nI tt)).sg).m3 (nI a) (nI b)) (nI a)
  have mg := h.mgr
  have eW : ((z.came (nI m) (nI tt)).wishR (nI a) + y.mg).toInt = ((z.came (nI m) (nI tt)).wishR (nI a)).toInt + y.mg.toInt := ia (by omega) (by omega)
  have bT := tf_bd h (b := b) (by omega) (w := (z.came (nI m) (nI tt)).wishR (nI a) + y.mg) (by omega) (by omega) (nI a)
  have eT1 : z.sp.turn (nI a) (nI b) ((z.came (nI m) (nI tt)).wishR (nI a) + z.mg) = y.tf2 (y.tf1 (nI b) ((z.came (nI m) (nI tt)).wishR (nI a) + y.mg) (y.beside (nI a) true)) (y.beside (nI a) false) := by
    rw [turn_rel h (nI a) (nI b) _ hv, h.mg]
  have eT2 : ((y.m2g m tt (z.came (nI m) (nI tt)).sg).m3 (nI a) (nI b)).timeFor (nI a) (nI b) = y.tf2 (y.tf1 (nI b) ((z.came (nI m) (nI tt)).wishR (nI a) + y.mg) (y.beside (nI a) true)) (y.beside (nI a) false) := by
    unfold MdS.timeFor
    have q1 : (((y.m2g m tt (z.came (nI m) (nI tt)).sg).m3 (nI a) (nI b)).wsh (nI a)).sp = y.sp := by rw [core_sp hco]; rfl
    have q4 : (((y.m2g m tt (z.came (nI m) (nI tt)).sg).m3 (nI a) (nI b)).wsh (nI a)).tm = y.tm := by rw [core_tm hco]; rfl
    rw [tff_eq hs q1 (fun x hx => by rw [core_hd hco]; show upd y.hd y.sp (nI a) x = _; exact pk_un (by omega)) (fun x hx => by rw [core_ps hco]; show upd y.ps y.sp (nI b) x = _; exact pk_un (by omega)) q4, ← w.1, core_mg hco]
    rfl
  generalize y.tf2 (y.tf1 (nI b) ((z.came (nI m) (nI tt)).wishR (nI a) + y.mg) (y.beside (nI a) true)) (y.beside (nI a) false) = T at bT eT1 eT2
  have eSP : ((z.came (nI m) (nI tt)).opened (nI a) (nI b)).sp = (upd y.hd y.sp (nI a), upd y.ps y.sp (nI b), upd y.tm y.sp T, upd y.mm y.sp y.mn, upd z.sp.cm y.sp 0, upd z.sp.pl y.sp 0, upd z.sp.gr y.sp (nI a), upd (shf (y.sp - y.bl (nI a)) y.sp z.sp.rk) (y.bl (nI a)) (nI y.sp), y.sp + 1) := by
    show SpuS.add z.sp (nI a) (nI b) (z.sp.turn (nI a) (nI b) ((z.came (nI m) (nI tt)).wishR (nI a) + z.mg)) z.mn = _
    rw [eT1]
    unfold SpuS.add
    rw [h.spc, h.bel, h.hd, h.ps, h.tm, h.mm, h.mn, rs_at (by omega) (by decide), rs_at (by omega) (by decide), rs_at (by omega) (by decide), rs_at (by omega) (by decide), rs_at (by omega) (by decide), rs_at (by omega) (by decide), rs_at (by omega) (by decide), rs_at (by omega) (by decide)]
  have etm : ((z.came (nI m) (nI tt)).opened (nI a) (nI b)).sp.tm y.sp = T := by
    rw [eSP]
    exact pk_us
  rw [h.ct, h.spc]
  refine settled (k := y.sp) (by omega) hm ht (by rw [etm]; omega) (by rw [etm]; omega) (fun bb pv hpv => ?_)
  rw [etm] at hpv
  have r := Rel.arrived h (m := m) (tt := tt) (k := y.sp) (sp' := y.sp + 1) (hd' := upd y.hd y.sp (nI a)) (ps' := upd y.ps y.sp (nI b)) (tm' := upd y.tm y.sp T) (mm' := upd y.mm y.sp y.mn) (cm0 := upd z.sp.cm y.sp 0) (pl0 := upd z.sp.pl y.sp 0) (gr0 := upd z.sp.gr y.sp (nI a)) (rk' := upd (shf (y.sp - y.bl (nI a)) y.sp z.sp.rk) (y.bl (nI a)) (nI y.sp)) (z.came (nI m) (nI tt)).sg (b := bb) (pv := pv) hm ht hc hca (by omega) (by omega) (by omega) (fun j hj => by omega) (fun j hj => pk_un (by omega)) (fun j hj => pk_un (by omega))
    (fun k hk => by
      by_cases q : k = y.sp
      · exact ⟨a, b, by omega, hb, by rw [q, pk_us], by rw [q, pk_us]⟩
      · rw [pk_un q, pk_un q]
        exact h.i6 k (by omega))
    (fun j k hj hk e => by
      by_cases q1 : j = y.sp
      · by_cases q2 : k = y.sp
        · omega
        · rw [q1, pk_us, pk_un q2] at e
          exact absurd e.symm (hv k (by omega))
      · by_cases q2 : k = y.sp
        · rw [q2, pk_us, pk_un q1] at e
          exact absurd e (hv j (by omega))
        · rw [pk_un q1, pk_un q2] at e
          exact h.i6d j k (by omega) (by omega) e)
    (fun k hk => by
      by_cases q : k = y.sp
      · rw [q, pk_us]
        exact bT
      · rw [pk_un q]
        exact h.i7 k (by omega))
    (fun k hk => by
      by_cases q : k = y.sp
      · rw [q, pk_us]
        exact h.mw
      · rw [pk_un q]
        exact h.i8 k (by omega))
    (by rw [pk_us]; exact nI_le ha (by omega))
    (fun j hj => by
      by_cases q : j = y.sp
      · rw [q, pk_us, pk_us, pk_us, pk_us, col_none y.sp y.ct 0 _ (fun x _ hx => by
          obtain ⟨k, k1, k2⟩ := h.i4 x (by omega)
          rw [k2, nI_eq (by omega) (by omega)]
          omega)]
        exact ⟨rfl, rfl, rfl⟩
      · rw [pk_un q, pk_un q, pk_un q, pk_un q]
        exact h.d2 j (by omega))
    (ranks h hv (by omega))
    (by rw [pk_us]; exact hpv)
  rw [← eSP] at r
  generalize ((z.came (nI m) (nI tt)).opened (nI a) (nI b)).ln = LL
  generalize ((z.came (nI m) (nI tt)).opened (nI a) (nI b)).wi = WW
  refine r.core ?_ rfl rfl rfl rfl rfl rfl rfl rfl
  have f := fin_core hco y.sp T (nI y.sp)
  unfold MdS.m4
  rw [eT2]
  exact f
theorem arrive_rel {z : SpcS} {y : MdS} (h : Rel z y) (n v p t : Int32) : (SpcS.arrive z n v p t).1 = (MdS.arrive y n v p t).1 ∧ Rel (SpcS.arrive z n v p t).2 (MdS.arrive y n v p t).2 := by
  unfold SpcS.arrive
  rcases refuse_rel h n v p t with ⟨q, m, a, b, tt, hm, ha, hb, ht, e1, e2, e3, e4, hc, hca, _, e5⟩ | ⟨q, e5⟩
  · rw [if_pos q, e5, e1, e2, e3, e4]
    unfold MdS.let_in
    rw [m2_eq h hc]
    unfold MdS.let2
    rcases withHead_rel h (nI a) with ⟨w1, w2, w3⟩ | ⟨k, k1, w1, w2, w3⟩
    · rw [w1, if_pos rfl, show (y.m2g m tt (z.came (nI m) (nI tt)).sg).spurtBy (nI a) = -9 from w2, if_pos rfl]
      refine ⟨?_, arr_new h hm ha hb ht hc hca w3⟩
      show nI z.sp.ct = nI y.sp
      rw [h.spc]
    · rw [w1, if_neg (nI_ne_neg (by have := h.sp120; omega) (by decide)), show (y.m2g m tt (z.came (nI m) (nI tt)).sg).spurtBy (nI a) = nI k from w2, if_neg (nI_ne_neg (by have := h.sp120; omega) (by decide))]
      exact ⟨rfl, arr_old h hm ht hc hca k1 (by rw [w3]; exact nI_le ha (by omega))⟩
  · rw [if_neg q, e5]
    exact ⟨rfl, h⟩
theorem pk_arrive (l : Launch) (E : xE) (am : Nat → Nat) {z : SpcS} {y : MdS} (hR : Rel z y) (a0 : Int32) (a1 : Int32) (a2 : Int32) (a3 : Int32) : pkI l E am y yX9_arrive wsX9_arrive [.int a0, .int a1, .int a2, .int a3] (SpcS.arrive z a0 a1 a2 a3).1 (SpcS.arrive z a0 a1 a2 a3).2 := by
  have r := arrive_rel hR a0 a1 a2 a3
  by_cases q : win a0 0 299 = 0
  · exact ⟨(MdS.arrive y a0 a1 a2 a3).2, 1, 22, by omega, by omega, r.1 ▸ c_X9_arrive_out l E am y a0 a1 a2 a3 q, r.2⟩
  · obtain ⟨m, hm, e⟩ := win_at (m := 299) (by decide) q
    subst e
    exact ⟨(MdS.arrive y (nI m) a1 a2 a3).2, 5, 128, by omega, by omega, r.1 ▸ c_X9_arrive_in l E am y m a1 a2 a3 q (by omega) hR.ct120 hR.sp120 hR.hfr hR.spct, r.2⟩
