/-! THE RELATION between the class's state and the reference's: equal rows, what the reference's rows keep to, and the rows that the class keeps beside them. -/
def Rel (z : SpcS) (y : MdS) : Prop :=
  (z.tp.cs = y.tp) ∧
  (z.tp.sz = y.tn) ∧
  (y.tn ≤ 8) ∧
  (z.mn = y.mn) ∧
  (z.mk = y.mk) ∧
  (z.mg = y.mg) ∧
  (z.jp = y.jp) ∧
  (∃ w, w < 5 ∧ y.mn = nI w) ∧
  (-500 ≤ y.mk.toInt ∧ y.mk.toInt ≤ 2000) ∧
  (¬ y.mn = 0 → 0 ≤ y.mk.toInt ∧ y.mk.toInt ≤ 256) ∧
  (y.mn = 4 → y.mk.toInt ≤ 8) ∧
  (0 ≤ y.mg.toInt ∧ y.mg.toInt ≤ 200) ∧
  (10 ≤ y.jp.toInt ∧ y.jp.toInt ≤ 1000) ∧
  (∀ w, w < 5 → ∀ i, i < stL.getD w 0 → y.sg (5 * w + i) = (stB.getD w []).getD i 0) ∧
  (z.ar.ct = y.ct) ∧
  (y.ct ≤ 120) ∧
  (z.ar.fr = y.fr) ∧
  (z.ar.wh = y.wh) ∧
  (z.ar.sn = y.sn) ∧
  (∀ n, n < 300 → z.ar.pa n = if y.ca n = -9 then 0 else y.ca n + 1) ∧
  (z.sp.ct = y.sp) ∧
  (y.sp ≤ y.ct) ∧
  (z.sp.hd = y.hd) ∧
  (z.sp.ps = y.ps) ∧
  (z.sp.tm = y.tm) ∧
  (z.sp.mn = y.mm) ∧
  (z.sg.on = y.on) ∧
  (z.sg.ba = y.ba) ∧
  (z.sg.bg = y.bg) ∧
  (∀ a, a < y.ct → ∃ m, m < 300 ∧ y.fr a = nI m ∧ y.ca m = nI a) ∧
  (∀ n, n < 300 → y.ca n = -9 ∨ ∃ a, a < y.ct ∧ y.ca n = nI a ∧ y.fr a = nI n) ∧
  (∀ a, a < y.ct → ∃ t, t ≤ 30000 ∧ y.wh a = nI t) ∧
  (∀ a, a < y.ct → ∃ k, k < y.sp ∧ y.sn a = nI k) ∧
  (∀ a, a < y.ct → y.hd (y.sn a).toNatClampNeg ≤ y.fr a) ∧
  (∀ k, k < y.sp → ∃ h p, h < 300 ∧ p ≤ h ∧ y.hd k = nI h ∧ y.ps k = nI p) ∧
  (∀ j k, j < y.sp → k < y.sp → y.hd j = y.hd k → j = k) ∧
  (∀ k, k < y.sp → -11000000 ≤ (y.tm k).toInt ∧ (y.tm k).toInt ≤ 11000000) ∧
  (∀ k, k < y.sp → ∃ w, w < 5 ∧ y.mm k = nI w) ∧
  (∀ k, k < y.sp → ∃ a, a < y.ct ∧ y.sn a = nI k) ∧
  (y.ct = 0 → y.on = false) ∧
  (∀ a, a < y.ct → z.ar.pt a = if y.pld a = 0 then -9 else y.pat a) ∧
  (∀ k, k < y.sp → z.sp.cm k = (y.cts k).1 ∧ z.sp.pl k = (y.cts k).2.1 ∧ z.sp.gr k = (y.cts k).2.2) ∧
  (∀ r, r < y.sp → ∃ k, k < y.sp ∧ z.sp.rk r = nI k ∧ cltN y.hd (y.hd k) y.sp 0 0 = r)
theorem Rel.tpc {z : SpcS} {y : MdS} (h : Rel z y) : z.tp.cs = y.tp := h.1
theorem Rel.tpn {z : SpcS} {y : MdS} (h : Rel z y) : z.tp.sz = y.tn := h.2.1
theorem Rel.tn8 {z : SpcS} {y : MdS} (h : Rel z y) : y.tn ≤ 8 := h.2.2.1
theorem Rel.mn {z : SpcS} {y : MdS} (h : Rel z y) : z.mn = y.mn := h.2.2.2.1
theorem Rel.mk {z : SpcS} {y : MdS} (h : Rel z y) : z.mk = y.mk := h.2.2.2.2.1
theorem Rel.mg {z : SpcS} {y : MdS} (h : Rel z y) : z.mg = y.mg := h.2.2.2.2.2.1
theorem Rel.jp {z : SpcS} {y : MdS} (h : Rel z y) : z.jp = y.jp := h.2.2.2.2.2.2.1
theorem Rel.mw {z : SpcS} {y : MdS} (h : Rel z y) : ∃ w, w < 5 ∧ y.mn = nI w := h.2.2.2.2.2.2.2.1
theorem Rel.mkr {z : SpcS} {y : MdS} (h : Rel z y) : -500 ≤ y.mk.toInt ∧ y.mk.toInt ≤ 2000 := h.2.2.2.2.2.2.2.2.1
theorem Rel.mkp {z : SpcS} {y : MdS} (h : Rel z y) : ¬ y.mn = 0 → 0 ≤ y.mk.toInt ∧ y.mk.toInt ≤ 256 := h.2.2.2.2.2.2.2.2.2.1
theorem Rel.mk8 {z : SpcS} {y : MdS} (h : Rel z y) : y.mn = 4 → y.mk.toInt ≤ 8 := h.2.2.2.2.2.2.2.2.2.2.1
theorem Rel.mgr {z : SpcS} {y : MdS} (h : Rel z y) : 0 ≤ y.mg.toInt ∧ y.mg.toInt ≤ 200 := h.2.2.2.2.2.2.2.2.2.2.2.1
theorem Rel.jpr {z : SpcS} {y : MdS} (h : Rel z y) : 10 ≤ y.jp.toInt ∧ y.jp.toInt ≤ 1000 := h.2.2.2.2.2.2.2.2.2.2.2.2.1
theorem Rel.sgs {z : SpcS} {y : MdS} (h : Rel z y) : ∀ w, w < 5 → ∀ i, i < stL.getD w 0 → y.sg (5 * w + i) = (stB.getD w []).getD i 0 := h.2.2.2.2.2.2.2.2.2.2.2.2.2.1
theorem Rel.ct {z : SpcS} {y : MdS} (h : Rel z y) : z.ar.ct = y.ct := h.2.2.2.2.2.2.2.2.2.2.2.2.2.2.1
theorem Rel.ct120 {z : SpcS} {y : MdS} (h : Rel z y) : y.ct ≤ 120 := h.2.2.2.2.2.2.2.2.2.2.2.2.2.2.2.1
theorem Rel.fr {z : SpcS} {y : MdS} (h : Rel z y) : z.ar.fr = y.fr := h.2.2.2.2.2.2.2.2.2.2.2.2.2.2.2.2.1
theorem Rel.wh {z : SpcS} {y : MdS} (h : Rel z y) : z.ar.wh = y.wh := h.2.2.2.2.2.2.2.2.2.2.2.2.2.2.2.2.2.1
theorem Rel.sn {z : SpcS} {y : MdS} (h : Rel z y) : z.ar.sn = y.sn := h.2.2.2.2.2.2.2.2.2.2.2.2.2.2.2.2.2.2.1
theorem Rel.pa {z : SpcS} {y : MdS} (h : Rel z y) : ∀ n, n < 300 → z.ar.pa n = if y.ca n = -9 then 0 else y.ca n + 1 := h.2.2.2.2.2.2.2.2.2.2.2.2.2.2.2.2.2.2.2.1
theorem Rel.spc {z : SpcS} {y : MdS} (h : Rel z y) : z.sp.ct = y.sp := h.2.2.2.2.2.2.2.2.2.2.2.2.2.2.2.2.2.2.2.2.1
theorem Rel.spct {z : SpcS} {y : MdS} (h : Rel z y) : y.sp ≤ y.ct := h.2.2.2.2.2.2.2.2.2.2.2.2.2.2.2.2.2.2.2.2.2.1
theorem Rel.hd {z : SpcS} {y : MdS} (h : Rel z y) : z.sp.hd = y.hd := h.2.2.2.2.2.2.2.2.2.2.2.2.2.2.2.2.2.2.2.2.2.2.1
theorem Rel.ps {z : SpcS} {y : MdS} (h : Rel z y) : z.sp.ps = y.ps := h.2.2.2.2.2.2.2.2.2.2.2.2.2.2.2.2.2.2.2.2.2.2.2.1
theorem Rel.tm {z : SpcS} {y : MdS} (h : Rel z y) : z.sp.tm = y.tm := h.2.2.2.2.2.2.2.2.2.2.2.2.2.2.2.2.2.2.2.2.2.2.2.2.1
theorem Rel.mm {z : SpcS} {y : MdS} (h : Rel z y) : z.sp.mn = y.mm := h.2.2.2.2.2.2.2.2.2.2.2.2.2.2.2.2.2.2.2.2.2.2.2.2.2.1
theorem Rel.on {z : SpcS} {y : MdS} (h : Rel z y) : z.sg.on = y.on := h.2.2.2.2.2.2.2.2.2.2.2.2.2.2.2.2.2.2.2.2.2.2.2.2.2.2.1
theorem Rel.ba {z : SpcS} {y : MdS} (h : Rel z y) : z.sg.ba = y.ba := h.2.2.2.2.2.2.2.2.2.2.2.2.2.2.2.2.2.2.2.2.2.2.2.2.2.2.2.1
theorem Rel.bg {z : SpcS} {y : MdS} (h : Rel z y) : z.sg.bg = y.bg := h.2.2.2.2.2.2.2.2.2.2.2.2.2.2.2.2.2.2.2.2.2.2.2.2.2.2.2.2.1
theorem Rel.i1 {z : SpcS} {y : MdS} (h : Rel z y) : ∀ a, a < y.ct → ∃ m, m < 300 ∧ y.fr a = nI m ∧ y.ca m = nI a := h.2.2.2.2.2.2.2.2.2.2.2.2.2.2.2.2.2.2.2.2.2.2.2.2.2.2.2.2.2.1
theorem Rel.i2 {z : SpcS} {y : MdS} (h : Rel z y) : ∀ n, n < 300 → y.ca n = -9 ∨ ∃ a, a < y.ct ∧ y.ca n = nI a ∧ y.fr a = nI n := h.2.2.2.2.2.2.2.2.2.2.2.2.2.2.2.2.2.2.2.2.2.2.2.2.2.2.2.2.2.2.1
theorem Rel.i3 {z : SpcS} {y : MdS} (h : Rel z y) : ∀ a, a < y.ct → ∃ t, t ≤ 30000 ∧ y.wh a = nI t := h.2.2.2.2.2.2.2.2.2.2.2.2.2.2.2.2.2.2.2.2.2.2.2.2.2.2.2.2.2.2.2.1
theorem Rel.i4 {z : SpcS} {y : MdS} (h : Rel z y) : ∀ a, a < y.ct → ∃ k, k < y.sp ∧ y.sn a = nI k := h.2.2.2.2.2.2.2.2.2.2.2.2.2.2.2.2.2.2.2.2.2.2.2.2.2.2.2.2.2.2.2.2.1
theorem Rel.i5 {z : SpcS} {y : MdS} (h : Rel z y) : ∀ a, a < y.ct → y.hd (y.sn a).toNatClampNeg ≤ y.fr a := h.2.2.2.2.2.2.2.2.2.2.2.2.2.2.2.2.2.2.2.2.2.2.2.2.2.2.2.2.2.2.2.2.2.1
theorem Rel.i6 {z : SpcS} {y : MdS} (h : Rel z y) : ∀ k, k < y.sp → ∃ h p, h < 300 ∧ p ≤ h ∧ y.hd k = nI h ∧ y.ps k = nI p := h.2.2.2.2.2.2.2.2.2.2.2.2.2.2.2.2.2.2.2.2.2.2.2.2.2.2.2.2.2.2.2.2.2.2.1
theorem Rel.i6d {z : SpcS} {y : MdS} (h : Rel z y) : ∀ j k, j < y.sp → k < y.sp → y.hd j = y.hd k → j = k := h.2.2.2.2.2.2.2.2.2.2.2.2.2.2.2.2.2.2.2.2.2.2.2.2.2.2.2.2.2.2.2.2.2.2.2.1
theorem Rel.i7 {z : SpcS} {y : MdS} (h : Rel z y) : ∀ k, k < y.sp → -11000000 ≤ (y.tm k).toInt ∧ (y.tm k).toInt ≤ 11000000 := h.2.2.2.2.2.2.2.2.2.2.2.2.2.2.2.2.2.2.2.2.2.2.2.2.2.2.2.2.2.2.2.2.2.2.2.2.1
theorem Rel.i8 {z : SpcS} {y : MdS} (h : Rel z y) : ∀ k, k < y.sp → ∃ w, w < 5 ∧ y.mm k = nI w := h.2.2.2.2.2.2.2.2.2.2.2.2.2.2.2.2.2.2.2.2.2.2.2.2.2.2.2.2.2.2.2.2.2.2.2.2.2.1
theorem Rel.i9 {z : SpcS} {y : MdS} (h : Rel z y) : ∀ k, k < y.sp → ∃ a, a < y.ct ∧ y.sn a = nI k := h.2.2.2.2.2.2.2.2.2.2.2.2.2.2.2.2.2.2.2.2.2.2.2.2.2.2.2.2.2.2.2.2.2.2.2.2.2.2.1
theorem Rel.ion {z : SpcS} {y : MdS} (h : Rel z y) : y.ct = 0 → y.on = false := h.2.2.2.2.2.2.2.2.2.2.2.2.2.2.2.2.2.2.2.2.2.2.2.2.2.2.2.2.2.2.2.2.2.2.2.2.2.2.2.1
theorem Rel.d1 {z : SpcS} {y : MdS} (h : Rel z y) : ∀ a, a < y.ct → z.ar.pt a = if y.pld a = 0 then -9 else y.pat a := h.2.2.2.2.2.2.2.2.2.2.2.2.2.2.2.2.2.2.2.2.2.2.2.2.2.2.2.2.2.2.2.2.2.2.2.2.2.2.2.2.1
theorem Rel.d2 {z : SpcS} {y : MdS} (h : Rel z y) : ∀ k, k < y.sp → z.sp.cm k = (y.cts k).1 ∧ z.sp.pl k = (y.cts k).2.1 ∧ z.sp.gr k = (y.cts k).2.2 := h.2.2.2.2.2.2.2.2.2.2.2.2.2.2.2.2.2.2.2.2.2.2.2.2.2.2.2.2.2.2.2.2.2.2.2.2.2.2.2.2.2.1
theorem Rel.d3 {z : SpcS} {y : MdS} (h : Rel z y) : ∀ r, r < y.sp → ∃ k, k < y.sp ∧ z.sp.rk r = nI k ∧ cltN y.hd (y.hd k) y.sp 0 0 = r := h.2.2.2.2.2.2.2.2.2.2.2.2.2.2.2.2.2.2.2.2.2.2.2.2.2.2.2.2.2.2.2.2.2.2.2.2.2.2.2.2.2.2
theorem Rel.mk_ {z : SpcS} {y : MdS} (tpc : z.tp.cs = y.tp) (tpn : z.tp.sz = y.tn) (tn8 : y.tn ≤ 8) (mn : z.mn = y.mn) (mk : z.mk = y.mk) (mg : z.mg = y.mg) (jp : z.jp = y.jp) (mw : ∃ w, w < 5 ∧ y.mn = nI w) (mkr : -500 ≤ y.mk.toInt ∧ y.mk.toInt ≤ 2000) (mkp : ¬ y.mn = 0 → 0 ≤ y.mk.toInt ∧ y.mk.toInt ≤ 256) (mk8 : y.mn = 4 → y.mk.toInt ≤ 8) (mgr : 0 ≤ y.mg.toInt ∧ y.mg.toInt ≤ 200) (jpr : 10 ≤ y.jp.toInt ∧ y.jp.toInt ≤ 1000) (sgs : ∀ w, w < 5 → ∀ i, i < stL.getD w 0 → y.sg (5 * w + i) = (stB.getD w []).getD i 0) (ct : z.ar.ct = y.ct) (ct120 : y.ct ≤ 120) (fr : z.ar.fr = y.fr) (wh : z.ar.wh = y.wh) (sn : z.ar.sn = y.sn) (pa : ∀ n, n < 300 → z.ar.pa n = if y.ca n = -9 then 0 else y.ca n + 1) (spc : z.sp.ct = y.sp) (spct : y.sp ≤ y.ct) (hd : z.sp.hd = y.hd) (ps : z.sp.ps = y.ps) (tm : z.sp.tm = y.tm) (mm : z.sp.mn = y.mm) (on : z.sg.on = y.on) (ba : z.sg.ba = y.ba) (bg : z.sg.bg = y.bg) (i1 : ∀ a, a < y.ct → ∃ m, m < 300 ∧ y.fr a = nI m ∧ y.ca m = nI a) (i2 : ∀ n, n < 300 → y.ca n = -9 ∨ ∃ a, a < y.ct ∧ y.ca n = nI a ∧ y.fr a = nI n) (i3 : ∀ a, a < y.ct → ∃ t, t ≤ 30000 ∧ y.wh a = nI t) (i4 : ∀ a, a < y.ct → ∃ k, k < y.sp ∧ y.sn a = nI k) (i5 : ∀ a, a < y.ct → y.hd (y.sn a).toNatClampNeg ≤ y.fr a) (i6 : ∀ k, k < y.sp → ∃ h p, h < 300 ∧ p ≤ h ∧ y.hd k = nI h ∧ y.ps k = nI p) (i6d : ∀ j k, j < y.sp → k < y.sp → y.hd j = y.hd k → j = k) (i7 : ∀ k, k < y.sp → -11000000 ≤ (y.tm k).toInt ∧ (y.tm k).toInt ≤ 11000000) (i8 : ∀ k, k < y.sp → ∃ w, w < 5 ∧ y.mm k = nI w) (i9 : ∀ k, k < y.sp → ∃ a, a < y.ct ∧ y.sn a = nI k) (ion : y.ct = 0 → y.on = false) (d1 : ∀ a, a < y.ct → z.ar.pt a = if y.pld a = 0 then -9 else y.pat a) (d2 : ∀ k, k < y.sp → z.sp.cm k = (y.cts k).1 ∧ z.sp.pl k = (y.cts k).2.1 ∧ z.sp.gr k = (y.cts k).2.2) (d3 : ∀ r, r < y.sp → ∃ k, k < y.sp ∧ z.sp.rk r = nI k ∧ cltN y.hd (y.hd k) y.sp 0 0 = r) : Rel z y := ⟨tpc, tpn, tn8, mn, mk, mg, jp, mw, mkr, mkp, mk8, mgr, jpr, sgs, ct, ct120, fr, wh, sn, pa, spc, spct, hd, ps, tm, mm, on, ba, bg, i1, i2, i3, i4, i5, i6, i6d, i7, i8, i9, ion, d1, d2, d3⟩
theorem Rel.a_ct {z : SpcS} {y : MdS} (h : Rel z y) : z.ar.ct ≤ 120 := by rw [h.ct]; exact h.ct120
theorem Rel.sp120 {z : SpcS} {y : MdS} (h : Rel z y) : y.sp ≤ 120 := Nat.le_trans h.spct h.ct120
theorem Rel.s_ct {z : SpcS} {y : MdS} (h : Rel z y) : z.sp.ct ≤ 120 := by rw [h.spc]; exact h.sp120
theorem Rel.hsn {z : SpcS} {y : MdS} (h : Rel z y) : ∀ a, a < y.ct → vp_in (y.sn a) 120 := by
  intro a ha
  obtain ⟨k, hk, e⟩ := h.i4 a ha
  rw [e]
  exact vp_in_nI (Nat.lt_of_lt_of_le hk h.sp120) (by decide)
theorem Rel.hca {z : SpcS} {y : MdS} (h : Rel z y) : ∀ n, n < 300 → y.ca n = -9 ∨ ∃ a, a < y.ct ∧ y.ca n = nI a := by
  intro n hn
  rcases h.i2 n hn with e | ⟨a, h1, h2, _⟩
  · exact Or.inl e
  · exact Or.inr ⟨a, h1, h2⟩
theorem Rel.hfr {z : SpcS} {y : MdS} (h : Rel z y) : ∀ a, a < y.ct → ∃ m, m < 300 ∧ y.fr a = nI m := by
  intro a ha
  obtain ⟨m, h1, h2, _⟩ := h.i1 a ha
  exact ⟨m, h1, h2⟩
/-- what a call asks of the reference -/
def pkI (l : Launch) (E : xE) (am : Nat → Nat) (y : MdS) (mt : MethodName) (ws : List Cond) (as : List Value) (r : Int32) (z' : SpcS) : Prop :=
  ∃ (y2 : MdS) (f n : Nat), f ≤ 8 ∧ n ≤ 300 ∧ mI l mt ws (xrm f n) E (.ref (am 0) :: as) (modGs E am y) r (modGs E am y2) ∧ Rel z' y2
def pkL (l : Launch) (E : xE) (am : Nat → Nat) (y : MdS) (mt : MethodName) (ws : List Cond) (as : List Value) (r : Int64) (z' : SpcS) : Prop :=
  ∃ (y2 : MdS) (f n : Nat), f ≤ 8 ∧ n ≤ 300 ∧ mL l mt ws (xrm f n) E (.ref (am 0) :: as) (modGs E am y) r (modGs E am y2) ∧ Rel z' y2
theorem win_iout {v a b : Int32} : ¬ win v a b = 0 ↔ iout v a b = 0 := by
  rw [win_iff, iout_iff, Int32.not_lt (a := b)]
theorem iout_win {v a b : Int32} : win v a b = 0 ↔ ¬ iout v a b = 0 := by
  rw [← win_iout, Classical.not_not]
