-- ===== the reference
abbrev MdS : Type := (Nat → Int32) × (Nat → Int32) × Nat × Int32 × Int32 × Int32 × Int32 × Nat × (Nat → Int32) × (Nat → Int32) × (Nat → Int32) × (Nat → Int32) × Nat × (Nat → Int32) × (Nat → Int32) × (Nat → Int32) × (Nat → Int32) × Bool × Int32 × Int32 × (Nat → Int64) × Int64 × Int64 × Int32 × Int32 × Int32 × (Nat → Int32) × Nat
abbrev MdS.sg (z : MdS) : Nat → Int32 := z.1
abbrev MdS.tp (z : MdS) : Nat → Int32 := z.2.1
abbrev MdS.tn (z : MdS) : Nat := z.2.2.1
abbrev MdS.mn (z : MdS) : Int32 := z.2.2.2.1
abbrev MdS.mk (z : MdS) : Int32 := z.2.2.2.2.1
abbrev MdS.mg (z : MdS) : Int32 := z.2.2.2.2.2.1
abbrev MdS.jp (z : MdS) : Int32 := z.2.2.2.2.2.2.1
abbrev MdS.ct (z : MdS) : Nat := z.2.2.2.2.2.2.2.1
abbrev MdS.fr (z : MdS) : Nat → Int32 := z.2.2.2.2.2.2.2.2.1
abbrev MdS.wh (z : MdS) : Nat → Int32 := z.2.2.2.2.2.2.2.2.2.1
abbrev MdS.sn (z : MdS) : Nat → Int32 := z.2.2.2.2.2.2.2.2.2.2.1
abbrev MdS.ca (z : MdS) : Nat → Int32 := z.2.2.2.2.2.2.2.2.2.2.2.1
abbrev MdS.sp (z : MdS) : Nat := z.2.2.2.2.2.2.2.2.2.2.2.2.1
abbrev MdS.hd (z : MdS) : Nat → Int32 := z.2.2.2.2.2.2.2.2.2.2.2.2.2.1
abbrev MdS.ps (z : MdS) : Nat → Int32 := z.2.2.2.2.2.2.2.2.2.2.2.2.2.2.1
abbrev MdS.tm (z : MdS) : Nat → Int32 := z.2.2.2.2.2.2.2.2.2.2.2.2.2.2.2.1
abbrev MdS.mm (z : MdS) : Nat → Int32 := z.2.2.2.2.2.2.2.2.2.2.2.2.2.2.2.2.1
abbrev MdS.on (z : MdS) : Bool := z.2.2.2.2.2.2.2.2.2.2.2.2.2.2.2.2.2.1
abbrev MdS.ba (z : MdS) : Int32 := z.2.2.2.2.2.2.2.2.2.2.2.2.2.2.2.2.2.2.1
abbrev MdS.bg (z : MdS) : Int32 := z.2.2.2.2.2.2.2.2.2.2.2.2.2.2.2.2.2.2.2.1
abbrev MdS.se (z : MdS) : Nat → Int64 := z.2.2.2.2.2.2.2.2.2.2.2.2.2.2.2.2.2.2.2.2.1
abbrev MdS.up (z : MdS) : Int64 := z.2.2.2.2.2.2.2.2.2.2.2.2.2.2.2.2.2.2.2.2.2.1
abbrev MdS.by_ (z : MdS) : Int64 := z.2.2.2.2.2.2.2.2.2.2.2.2.2.2.2.2.2.2.2.2.2.2.1
abbrev MdS.co (z : MdS) : Int32 := z.2.2.2.2.2.2.2.2.2.2.2.2.2.2.2.2.2.2.2.2.2.2.2.1
abbrev MdS.po (z : MdS) : Int32 := z.2.2.2.2.2.2.2.2.2.2.2.2.2.2.2.2.2.2.2.2.2.2.2.2.1
abbrev MdS.gr (z : MdS) : Int32 := z.2.2.2.2.2.2.2.2.2.2.2.2.2.2.2.2.2.2.2.2.2.2.2.2.2.1
abbrev MdS.tx (z : MdS) : Nat → Int32 := z.2.2.2.2.2.2.2.2.2.2.2.2.2.2.2.2.2.2.2.2.2.2.2.2.2.2.1
abbrev MdS.wr (z : MdS) : Nat := z.2.2.2.2.2.2.2.2.2.2.2.2.2.2.2.2.2.2.2.2.2.2.2.2.2.2.2
def modGs (E : xE) (am : Nat → Nat) (z : MdS) : List va_W := [[(am 0, .inr (9, [.ref (am 1), .ref (am 2), .int (nI z.tn), .int z.mn, .int z.mk, .int z.mg, .int z.jp, .int (nI z.ct), .ref (am 3), .ref (am 4), .ref (am 5), .ref (am 6), .int (nI z.sp), .ref (am 7), .ref (am 8), .ref (am 9), .ref (am 10), .int (b2i z.on), .int z.ba, .int z.bg, .ref (am 11), .long z.up, .long z.by_, .int z.co, .int z.po, .int z.gr, .ref (am 12), .int (nI z.wr)]))], [(am 1, .inl (xI E, 25, .inl z.sg))], [(am 2, .inl (xI E, 8, .inl z.tp))], [(am 3, .inl (xI E, 120, .inl z.fr))], [(am 4, .inl (xI E, 120, .inl z.wh))], [(am 5, .inl (xI E, 120, .inl z.sn))], [(am 6, .inl (xI E, 300, .inl z.ca))], [(am 7, .inl (xI E, 120, .inl z.hd))], [(am 8, .inl (xI E, 120, .inl z.ps))], [(am 9, .inl (xI E, 120, .inl z.tm))], [(am 10, .inl (xI E, 120, .inl z.mm))], [(am 11, .inl (xJ E, 120, .inr (.inl z.se)))], [(am 12, .inl (xI E, 400, .inl z.tx))]]
def modW (E : xE) (am : Nat → Nat) (z : MdS) : va_W := (modGs E am z).flatten

def win (v a b : Int32) : Int32 := if v < a then 0 else if b < v then 0 else 1
def dwn (u d : Int64) : Int64 := if u < 0 then -((d - 1 - u) / d) else u / d
theorem win_iff {v a b : Int32} : ¬ win v a b = 0 ↔ ¬ v < a ∧ ¬ b < v := by
  unfold win
  by_cases h1 : v < a
  · rw [if_pos h1]; exact ⟨fun q => absurd rfl q, fun q => absurd h1 q.1⟩
  · rw [if_neg h1]
    by_cases h2 : b < v
    · rw [if_pos h2]; exact ⟨fun q => absurd rfl q, fun q => absurd h2 q.2⟩
    · rw [if_neg h2]; exact ⟨fun _ => ⟨h1, h2⟩, fun _ => by decide⟩
theorem win_at {v : Int32} {m : Nat} (hm : m < 2 ^ 31) (h : ¬ win v 0 (nI m) = 0) : ∃ j, j ≤ m ∧ v = nI j := by
  obtain ⟨h1, h2⟩ := win_iff.mp h
  obtain ⟨j, hj, e⟩ := nI_of h1
  subst e
  refine ⟨j, ?_, rfl⟩
  rcases Nat.lt_or_ge m j with q | q
  · exact absurd (nI_lt q hj) h2
  · exact q
def MdS.key (z : MdS) (x : Int32) : Int32 × MdS := if win x 0 127 = 0 then (-2, z) else if nI z.tn = 8 then (-4, z) else (nI (z.tn + 1), (z.sg, upd z.tp z.tn x, z.tn + 1, z.mn, z.mk, z.mg, z.jp, z.ct, z.fr, z.wh, z.sn, z.ca, z.sp, z.hd, z.ps, z.tm, z.mm, z.on, z.ba, z.bg, z.se, z.up, z.by_, z.co, z.po, z.gr, z.tx, z.wr))
def MdS.wipe (z : MdS) : Int32 × MdS := (nI z.tn, (z.sg, z.tp, 0, z.mn, z.mk, z.mg, z.jp, z.ct, z.fr, z.wh, z.sn, z.ca, z.sp, z.hd, z.ps, z.tm, z.mm, z.on, z.ba, z.bg, z.se, z.up, z.by_, z.co, z.po, z.gr, z.tx, z.wr))
def wlg (m : Int32) : Int32 := if m = 4 then 4 else 5
theorem wlg_le {t : Nat} {m : Int32} (ht : t ≤ 8) (h : nI t = wlg m) : t ≤ 5 := by
  unfold wlg at h
  split at h
  · rw [(nI_eq (a := t) (b := 4) (by omega) (by omega)).mp h]; decide
  · rw [(nI_eq (a := t) (b := 5) (by omega) (by omega)).mp h]; decide
theorem nI_51 (w i : Nat) : (5 : Int32) * nI w + nI i = nI (5 * w + i) := by
  rw [show (5 : Int32) = nI 5 from rfl, pk_mul, nI_add]
def tpl (z : MdS) (w : Nat) : Nat → Nat → Bool → Bool
  | 0, _, b => b
  | n + 1, i, b => if b2i b = 0 then b else tpl z w n (i + 1) (if z.tp i = z.sg (5 * w + i) then true else false)
def tol (z : MdS) : Nat → Nat → Int32
  | 0, _ => -9
  | n + 1, w => if b2i (tpl z w z.tn 0 (if nI z.tn = wlg (nI w) then true else false)) = 0 then tol z n (w + 1) else nI w
def MdS.told (z : MdS) : Int32 := tol z 5 0
def MdS.manner (z : MdS) (k : Int32) : Int32 × MdS := if z.told = -9 then (-1, z) else if win k (leastN z.told) (greatN z.told) = 0 then (-2, z) else (z.told, (z.sg, z.tp, 0, z.told, k, z.mg, z.jp, z.ct, z.fr, z.wh, z.sn, z.ca, z.sp, z.hd, z.ps, z.tm, z.mm, z.on, z.ba, z.bg, z.se, z.up, z.by_, z.co, z.po, z.gr, z.tx, z.wr))
def MdS.margin (z : MdS) (v : Int32) : Int32 × MdS := if win v 0 200 = 0 then (-2, z) else (z.mg, (z.sg, z.tp, z.tn, z.mn, z.mk, v, z.jp, z.ct, z.fr, z.wh, z.sn, z.ca, z.sp, z.hd, z.ps, z.tm, z.mm, z.on, z.ba, z.bg, z.se, z.up, z.by_, z.co, z.po, z.gr, z.tx, z.wr))
def MdS.jump (z : MdS) (v : Int32) : Int32 × MdS := if win v 10 1000 = 0 then (-2, z) else (z.jp, (z.sg, z.tp, z.tn, z.mn, z.mk, z.mg, v, z.ct, z.fr, z.wh, z.sn, z.ca, z.sp, z.hd, z.ps, z.tm, z.mm, z.on, z.ba, z.bg, z.se, z.up, z.by_, z.co, z.po, z.gr, z.tx, z.wr))
def MdS.dl (z : MdS) (a : Nat) : Int32 := z.wh a - 20 * z.fr a
def MdS.spurtBy (z : MdS) (h : Int32) : Int32 := fnd z.hd h (-9) z.sp 0
theorem fnd_at (f : Nat → Int32) (h r : Int32) : ∀ n i, fnd f h r n i = r ∨ ∃ k, i ≤ k ∧ k < i + n ∧ fnd f h r n i = nI k ∧ f k = h
  | 0, _ => Or.inl rfl
  | n + 1, i => by
    rw [fnd]
    by_cases q : f i = h
    · rw [if_pos q]; exact Or.inr ⟨i, Nat.le_refl _, by omega, rfl, q⟩
    · rw [if_neg q]
      rcases fnd_at f h r n (i + 1) with e | ⟨k, h1, h2, h3, h4⟩
      · exact Or.inl e
      · exact Or.inr ⟨k, by omega, by omega, h3, h4⟩
theorem fnd_in {f : Nat → Int32} {h r : Int32} {n N : Nat} (hn : n ≤ N) (hN : N < 2 ^ 31) (q : ¬ fnd f h r n 0 = r) : vp_in (fnd f h r n 0) N := by
  rcases fnd_at f h r n 0 with e | ⟨k, _, h2, h3, _⟩
  · exact absurd e q
  · rw [h3]; exact vp_in_nI (by omega) hN
theorem spurtBy_in {z : MdS} {h : Int32} (hs : z.sp ≤ 120) (q : ¬ z.spurtBy h = -9) : vp_in (z.spurtBy h) 120 := fnd_in hs (by decide) q
theorem b2i_t {b : Bool} (h : ¬ b2i b = 0) : b = true := by cases b with
  | true => rfl
  | false => exact absurd rfl h
theorem b2i_f {b : Bool} (h : b2i b = 0) : b = false := by cases b with
  | true => exact absurd h (by decide)
  | false => rfl
def wayl (z : MdS) (k : Nat) (h p : Int32) : Nat → Nat → Int32
  | 0, _ => 0
  | m + 1, a => if z.sn a = nI k then (if z.fr a < h - p then wayl z k h p m (a + 1) else if h ≤ z.hd k then 0 else 1) else wayl z k h p m (a + 1)
def MdS.way (z : MdS) (k : Nat) (n h p : Int32) : Int32 := if z.hd k ≤ h then wayl z k h p z.ct 0 else if n < z.hd k - z.ps k then 0 else 1
def shl (z : MdS) (n h p : Int32) : Nat → Nat → Bool → Bool
  | 0, _, b => b
  | m + 1, k, b => shl z n h p m (k + 1) (if b2i b = 0 then (if nI k = z.spurtBy h then false else if z.way k n h p = 0 then false else true) else true)
def MdS.shut0 (z : MdS) (h p : Int32) : Bool := if z.spurtBy h = -9 then false else if z.ps (z.spurtBy h).toNatClampNeg = p then false else true
def MdS.shut1 (z : MdS) (n h p : Int32) : Int32 := b2i (shl z n h p z.sp 0 (z.shut0 h p))
def MdS.shut (z : MdS) (n h p t : Int32) : Int32 := if nI z.ct ≤ 0 then (if z.ca n.toNatClampNeg = -9 then z.shut1 n h p else 1) else if t < z.wh (z.ct - 1) then 1 else if z.ca n.toNatClampNeg = -9 then z.shut1 n h p else 1
def MdS.spk (z : MdS) (a : Nat) : MdS :=
  if b2i z.on = 0 then (if nI a ≤ 0 then z else if z.dl a < z.dl (a - 1) + z.jp then z else (z.sg, z.tp, z.tn, z.mn, z.mk, z.mg, z.jp, z.ct, z.fr, z.wh, z.sn, z.ca, z.sp, z.hd, z.ps, z.tm, z.mm, true, z.dl (a - 1), z.bg + 1, z.se, z.up, z.by_, z.co, z.po, z.gr, z.tx, z.wr)) else if z.dl a ≤ z.ba + z.jp / 2 then (z.sg, z.tp, z.tn, z.mn, z.mk, z.mg, z.jp, z.ct, z.fr, z.wh, z.sn, z.ca, z.sp, z.hd, z.ps, z.tm, z.mm, false, z.ba, z.bg, z.se, z.up, z.by_, z.co, z.po, z.gr, z.tx, z.wr) else (z.sg, z.tp, z.tn, z.mn, z.mk, z.mg, z.jp, z.ct, z.fr, z.wh, z.sn, z.ca, z.sp, z.hd, z.ps, z.tm, z.mm, true, z.ba, z.bg, z.se, z.up, z.by_, z.co, z.po, z.gr, z.tx, z.wr)
def cal : Nat → Nat → (Nat → Int32) → Nat → Int32
  | 0, _, f => f
  | n + 1, i, f => cal n (i + 1) (upd f i (-9))
def MdS.anew (z : MdS) : Int32 × MdS := (nI z.ct, (z.sg, z.tp, z.tn, z.mn, z.mk, z.mg, z.jp, 0, z.fr, z.wh, z.sn, cal 300 0 z.ca, 0, z.hd, z.ps, z.tm, z.mm, false, z.ba, 0, z.se, z.up, z.by_, z.co, z.po, z.gr, z.tx, z.wr))
def MdS.old (z : MdS) : Nat := z.ct - 32
-- the drift
def lel (z : MdS) : Nat → Nat → Int32 → Int32
  | 0, _, l => l
  | n + 1, a, l => lel z n (a + 1) (if l ≤ z.fr a then l else z.fr a)
def mol (z : MdS) : Nat → Nat → Int32 → Int32
  | 0, _, l => l
  | n + 1, a, l => mol z n (a + 1) (if z.fr a ≤ l then l else z.fr a)
def MdS.least (z : MdS) : Int32 := lel z z.ct 0 300
def MdS.most (z : MdS) : Int32 := mol z z.ct 0 0
def MdS.rise (z : MdS) (a b : Nat) : Int64 := (z.dl b - z.dl a).toInt64
def MdS.far (z : MdS) (a b : Nat) : Int64 := (z.fr b - z.fr a).toInt64
def undl (z : MdS) (a b : Nat) : Nat → Nat → Int32
  | 0, _ => 1
  | n + 1, c => if z.rise a b * z.far a c ≤ z.rise a c * z.far a b then undl z a b n (c + 1) else 0
def MdS.under (z : MdS) (a b : Nat) : Int32 := undl z a b z.ct 0
abbrev DrS : Type := Bool × Int64 × Int64
def drs (z : MdS) (a b : Nat) (s : DrS) : DrS :=
  if z.fr b ≤ z.fr a then s else if z.least + z.most < 2 * z.fr a then s else if 2 * z.fr b < z.least + z.most then s else if z.under a b = 0 then s
  else if b2i s.1 = 0 then (true, z.rise a b, z.far a b) else if s.2.1 * z.far a b ≤ z.rise a b * s.2.2 then (true, s.2.1, s.2.2) else (true, z.rise a b, z.far a b)
def drb (z : MdS) (a : Nat) : Nat → Nat → DrS → DrS
  | 0, _, s => s
  | n + 1, b, s => drb z a n (b + 1) (drs z a b s)
def dra (z : MdS) : Nat → Nat → DrS → DrS
  | 0, _, s => s
  | n + 1, a, s => dra z n (a + 1) (drb z a z.ct 0 s)
def MdS.dr (z : MdS) : DrS := dra z z.ct 0 (false, 0, 1)
def dgc (s : DrS) : Int64 := lN (Nat.gcd s.2.1.toInt.natAbs s.2.2.toInt.natAbs)
def MdS.fdr (z : MdS) : MdS := (z.sg, z.tp, z.tn, z.mn, z.mk, z.mg, z.jp, z.ct, z.fr, z.wh, z.sn, z.ca, z.sp, z.hd, z.ps, z.tm, z.mm, z.on, z.ba, z.bg, z.se, z.dr.2.1 / dgc z.dr, z.dr.2.2 / dgc z.dr, z.co, z.po, z.gr, z.tx, z.wr)
-- the wish
def MdS.wd (z : MdS) : MdS := if z.mn = 3 then z.fdr else z
def alg (w : MdS) (h : Int32) (a : Nat) : Int64 := if w.mn = 3 then -dwn (-(w.up * (h - w.fr a).toInt64)) w.by_ else 0
def sel (w : MdS) (h : Int32) : Nat → Nat → (Nat → Int64) → Nat → Int64
  | 0, _, f => f
  | n + 1, a, f => sel w h n (a + 1) (vp_updL f a ((w.dl a).toInt64 + alg w h a))
def MdS.wsw (w : MdS) (h : Int32) : MdS := (w.sg, w.tp, w.tn, w.mn, w.mk, w.mg, w.jp, w.ct, w.fr, w.wh, w.sn, w.ca, w.sp, w.hd, w.ps, w.tm, w.mm, w.on, w.ba, w.bg, sel w h (w.ct - w.old) w.old w.se, w.up, w.by_, w.co, w.po, w.gr, w.tx, w.wr)
def MdS.wsh (z : MdS) (h : Int32) : MdS := z.wd.wsw h
def cgl (se : Nat → Int64) (a : Nat) : Nat → Nat → Int32 → Int32
  | 0, _, g => g
  | n + 1, b, g => cgl se a n (b + 1) (if se b ≤ se a then g + 0 else g + 1)
def MdS.above (z : MdS) (a : Nat) : Int32 := cgl z.se a (z.ct - z.old) z.old 0
def lsl (z : MdS) (k : Int32) : Nat → Nat → Int64 → Bool → Int64
  | 0, _, b, _ => b
  | n + 1, a, b, f => if k * (nI z.ct - nI z.old) < 256 * z.above a then lsl z k n (a + 1) b f else lsl z k n (a + 1) (if b2i f = 0 then z.se a else if b ≤ z.se a then b else z.se a) true
def MdS.lst (z : MdS) (k : Int32) : Int64 := lsl z k (z.ct - z.old) z.old 0 false
def ltl (z : MdS) : Nat → Nat → Int64 → Int64
  | 0, _, m => m
  | n + 1, j, m => if nI j - 1 < nI z.old then m else if nI j - 1 ≤ nI z.ct - 4 then m else ltl z n (j - 1) (if z.se (j - 1) ≤ m then m else z.se (j - 1))
def MdS.lat (z : MdS) : Int64 := ltl z 3 z.ct (z.se (z.ct - 1))
def suml (f : Nat → Int64) : Nat → Nat → Int64 → Int64
  | 0, _, a => a
  | n + 1, i, a => suml f n (i + 1) (a + f i)
def MdS.cnt (z : MdS) : Int64 := (nI z.ct - nI z.old).toInt64
def MdS.mean (z : MdS) : Int64 := dwn (suml z.se (z.ct - z.old) z.old 0) z.cnt
def MdS.fars (z : MdS) (i : Nat) : Int64 := if z.mean ≤ z.se i then z.se i - z.mean else z.mean - z.se i
def MdS.farBy (z : MdS) (k : Int32) : Int64 := z.mean + k.toInt64 * dwn (suml z.fars (z.ct - z.old) z.old 0) z.cnt
def MdS.wRR (y : MdS) : Int32 := if y.mn = 0 then y.mk else if y.mn = 4 then (y.farBy y.mk).toInt32 else if y.mn = 2 then (if b2i y.on = 0 then (y.lst y.mk).toInt32 else y.lat.toInt32) else (y.lst y.mk).toInt32
def MdS.wR (z : MdS) (h : Int32) : Int32 := (z.wsh h).wRR
def bst (z : MdS) (h : Int32) (b : Bool) (k : Nat) (r : Int32) : Int32 :=
  if b2i b = 0 then (if z.hd k ≤ h then r else if r = -9 then nI k else if z.hd r.toNatClampNeg ≤ z.hd k then r else nI k)
  else if h ≤ z.hd k then r else if r = -9 then nI k else if z.hd k ≤ z.hd r.toNatClampNeg then r else nI k
def bsd (z : MdS) (h : Int32) (b : Bool) : Nat → Nat → Int32 → Int32
  | 0, _, r => r
  | n + 1, k, r => bsd z h b n (k + 1) (bst z h b k r)
def MdS.beside (z : MdS) (h : Int32) (b : Bool) : Int32 := bsd z h b z.sp 0 (-9)
theorem bst_or {z : MdS} {h : Int32} {b : Bool} {k : Nat} {r : Int32} (hr : r = -9 ∨ ∃ j, j < k ∧ r = nI j) : bst z h b k r = -9 ∨ ∃ j, j < k + 1 ∧ bst z h b k r = nI j := by
  have keep : r = -9 ∨ ∃ j, j < k + 1 ∧ r = nI j := by
    rcases hr with e | ⟨j, h1, h2⟩
    · exact Or.inl e
    · exact Or.inr ⟨j, by omega, h2⟩
  have new : nI k = -9 ∨ ∃ j, j < k + 1 ∧ nI k = nI j := Or.inr ⟨k, by omega, rfl⟩
  unfold bst
  repeat' split
  all_goals first | exact keep | exact new
theorem bsd_or {z : MdS} {h : Int32} {b : Bool} : ∀ n k r, (r = -9 ∨ ∃ j, j < k ∧ r = nI j) → (bsd z h b n k r = -9 ∨ ∃ j, j < k + n ∧ bsd z h b n k r = nI j)
  | 0, _, _, hr => hr
  | n + 1, k, r, hr => by
    rw [bsd]
    have := bsd_or (z := z) (h := h) (b := b) n (k + 1) _ (bst_or (z := z) (h := h) (b := b) hr)
    rwa [show k + 1 + n = k + (n + 1) by omega] at this
theorem or_in {r : Int32} {k N : Nat} (hr : r = -9 ∨ ∃ j, j < k ∧ r = nI j) (q : ¬ r = -9) (hk : k ≤ N) (hN : N < 2 ^ 31) : vp_in r N := by
  rcases hr with e | ⟨j, h1, h2⟩
  · exact absurd e q
  · rw [h2]; exact vp_in_nI (by omega) hN
theorem beside_in {z : MdS} {h : Int32} {b : Bool} (hs : z.sp ≤ 120) (q : ¬ z.beside h b = -9) : vp_in (z.beside h b) 120 := by
  refine or_in (bsd_or z.sp 0 (-9) (Or.inl rfl)) q (by omega) (by decide)
def MdS.tf1 (z : MdS) (p w r : Int32) : Int32 := if r = -9 then w else if z.tm r.toNatClampNeg - 20 * p ≤ w then w else z.tm r.toNatClampNeg - 20 * p
def MdS.tf2 (z : MdS) (w r : Int32) : Int32 := if r = -9 then w else if w ≤ z.tm r.toNatClampNeg + 20 * z.ps r.toNatClampNeg then w else z.tm r.toNatClampNeg + 20 * z.ps r.toNatClampNeg
def MdS.tff (y : MdS) (h p : Int32) : Int32 := y.tf2 (y.tf1 p (y.wRR + y.mg) (y.beside h true)) (y.beside h false)
def MdS.timeFor (z : MdS) (h p : Int32) : Int32 := (z.wsh h).tff h p
-- what came of the frames
def MdS.pld (z : MdS) (a : Nat) : Int32 := if z.tm (z.sn a).toNatClampNeg < z.dl a then 0 else 1
def MdS.pat (z : MdS) (a : Nat) : Int32 := 20 * z.fr a + z.tm (z.sn a).toNatClampNeg
abbrev CoS : Type := Int32 × Int32 × Int32
def col (z : MdS) (k : Nat) : Nat → Nat → CoS → CoS
  | 0, _, s => s
  | n + 1, a, s => col z k n (a + 1) (if z.sn a = nI k then (s.1 + 1, (if z.pld a = 0 then s.2.1 + 0 else s.2.1 + 1), (if z.fr a ≤ s.2.2 then s.2.2 else z.fr a)) else s)
def MdS.cts (z : MdS) (k : Nat) : CoS := col z k z.ct 0 (0, 0, z.hd k)
def MdS.cnts (z : MdS) (k : Nat) : MdS := (z.sg, z.tp, z.tn, z.mn, z.mk, z.mg, z.jp, z.ct, z.fr, z.wh, z.sn, z.ca, z.sp, z.hd, z.ps, z.tm, z.mm, z.on, z.ba, z.bg, z.se, z.up, z.by_, (z.cts k).1, (z.cts k).2.1, (z.cts k).2.2, z.tx, z.wr)
def MdS.miss (z : MdS) (k : Nat) : Int32 := (z.cts k).2.2 - z.hd k + 1 - (z.cts k).1
-- the calls
def MdS.m1 (z : MdS) (n : Nat) (t : Int32) : MdS := (z.sg, z.tp, z.tn, z.mn, z.mk, z.mg, z.jp, z.ct + 1, upd z.fr z.ct (nI n), upd z.wh z.ct t, z.sn, upd z.ca n (nI z.ct), z.sp, z.hd, z.ps, z.tm, z.mm, z.on, z.ba, z.bg, z.se, z.up, z.by_, z.co, z.po, z.gr, z.tx, z.wr)
def MdS.m3 (z : MdS) (h p : Int32) : MdS := (z.sg, z.tp, z.tn, z.mn, z.mk, z.mg, z.jp, z.ct, z.fr, z.wh, z.sn, z.ca, z.sp, upd z.hd z.sp h, upd z.ps z.sp p, z.tm, upd z.mm z.sp z.mn, z.on, z.ba, z.bg, z.se, z.up, z.by_, z.co, z.po, z.gr, z.tx, z.wr)
def MdS.m4w (x : MdS) (k : Nat) (v : Int32) : MdS := (x.sg, x.tp, x.tn, x.mn, x.mk, x.mg, x.jp, x.ct, x.fr, x.wh, x.sn, x.ca, x.sp + 1, x.hd, x.ps, upd x.tm k v, x.mm, x.on, x.ba, x.bg, x.se, x.up, x.by_, x.co, x.po, x.gr, x.tx, x.wr)
def MdS.m4 (z : MdS) (h p : Int32) : MdS := ((z.m3 h p).wsh h).m4w z.sp ((z.m3 h p).timeFor h p)
def MdS.m5 (z : MdS) (k : Int32) : MdS := (z.sg, z.tp, z.tn, z.mn, z.mk, z.mg, z.jp, z.ct, z.fr, z.wh, upd z.sn (z.ct - 1) k, z.ca, z.sp, z.hd, z.ps, z.tm, z.mm, z.on, z.ba, z.bg, z.se, z.up, z.by_, z.co, z.po, z.gr, z.tx, z.wr)
def MdS.m2 (z : MdS) (n : Nat) (t : Int32) : MdS := (z.m1 n t).spk z.ct
def MdS.let2 (y : MdS) (h p : Int32) : Int32 × MdS := if y.spurtBy h = -9 then (nI y.sp, (y.m4 h p).m5 (nI y.sp)) else (y.spurtBy h, y.m5 (y.spurtBy h))
def MdS.let_in (z : MdS) (n : Nat) (h p t : Int32) : Int32 × MdS := (z.m2 n t).let2 h p
def MdS.arr1 (z : MdS) (n : Nat) (h p t : Int32) : Int32 × MdS := if z.shut (nI n) h p t = 0 then (if nI z.ct = 120 then (-4, z) else z.let_in n h p t) else (-3, z)
def MdS.arrive (z : MdS) (n h p t : Int32) : Int32 × MdS := if win n 0 299 = 0 then (-2, z) else if win h 0 n = 0 then (-2, z) else if win p 0 h = 0 then (-2, z) else if win t 0 30000 = 0 then (-2, z) else z.arr1 n.toNatClampNeg h p t
def MdS.ofF (z : MdS) (a : Nat) (w : Int32) : Int32 := if w = 0 then z.wh a else if w = 1 then z.dl a + 10000 else if w = 2 then z.sn a else if w = 3 then (if z.pld a = 0 then -9 else z.pat a) else if w = 4 then nI a else -2
def MdS.ofFrame (z : MdS) (n w : Int32) : Int32 := if win n 0 299 = 0 then -1 else if z.ca n.toNatClampNeg = -9 then -1 else z.ofF (z.ca n.toNatClampNeg).toNatClampNeg w
def MdS.ofS (z : MdS) (k : Nat) (w : Int32) : Int32 := if w = 0 then z.hd k else if w = 1 then z.ps k else if w = 2 then z.tm k + 10000 else if w = 3 then (z.cts k).1 else if w = 4 then (z.cts k).2.1 else if w = 5 then (z.cts k).1 - (z.cts k).2.1 else if w = 6 then z.miss k else if w = 7 then (z.cts k).2.2 else if w = 8 then z.mm k else -2
def MdS.ofSpurt (z : MdS) (k w : Int32) : Int32 × MdS := if win k 0 (nI z.sp - 1) = 0 then (-1, z) else (z.ofS k.toNatClampNeg w, z.cnts k.toNatClampNeg)
def iol (z : MdS) (q : Nat) : Nat → Nat → Int32 → Int32
  | 0, _, a => a
  | n + 1, x, a => iol z q n (x + 1) (if z.hd q ≤ z.hd x then a + 0 else a + 1)
def iog (z : MdS) (k : Int32) : Nat → Nat → Int32
  | 0, _ => -1
  | n + 1, q => if iol z q z.sp 0 0 = k then nI q else iog z k n (q + 1)
def MdS.inOrder (z : MdS) (k : Int32) : Int32 := iog z k z.sp 0
def MdS.wish (z : MdS) (h : Int32) : Int32 × MdS := if win h 0 299 = 0 then (-2, z) else if nI z.ct = 0 then (-3, z) else (z.wR h + 10000, z.wsh h)
def MdS.spike (z : MdS) (w : Int32) : Int32 := if win w 0 1 = 0 then -2 else if w = 0 then (if b2i z.on = 0 then 0 else 1) else if b2i z.on = 0 then -9 else z.ba + 10000
def cgm (d : Nat → Int32) (v : Int32) : Nat → Nat → Int32 → Int32
  | 0, _, a => a
  | n + 1, i, a => cgm d v n (i + 1) (if d i ≤ v then a + 0 else a + 1)
def MdS.late (z : MdS) (v : Int32) : Int32 := if win v (-10000) 40000 = 0 then -2 else cgm z.dl v (z.ct - z.old) z.old 0
def MdS.history (z : MdS) (k : Int32) : Int32 := if win k 0 31 = 0 then -2 else if nI z.ct ≤ k then -9 else z.dl (nI z.ct - 1 - k).toNatClampNeg + 10000
def MdS.loss (z : MdS) (v : Int32) : Int32 := if win v (-10000) 40000 = 0 then -2 else cgm z.dl v z.ct 0 0
def MdS.drift (z : MdS) (w : Int32) : Int64 × MdS := if win w 0 1 = 0 then (-9223372036854775808, z) else if w = 0 then (z.fdr.up, z.fdr) else (z.fdr.by_, z.fdr)
def wai (z : MdS) (t : Int32) : Nat → Nat → Int32 → Int32
  | 0, _, a => a
  | n + 1, i, a => wai z t n (i + 1) (if t < z.wh i then a + 0 else if z.pld i = 0 then a + 0 else if z.pat i ≤ t then a + 0 else a + 1)
def MdS.waiting (z : MdS) (t : Int32) : Int32 := if win t 0 100000 = 0 then -2 else wai z t z.ct 0 0
def pla (z : MdS) (t : Int32) : Nat → Nat → Int32
  | 0, _ => -9
  | n + 1, i => if z.pld i = 0 then pla z t n (i + 1) else if t < z.pat i then pla z t n (i + 1) else if z.pat i ≤ t - 20 then pla z t n (i + 1) else z.fr i
def MdS.playing (z : MdS) (t : Int32) : Int32 := if win t 0 100000 = 0 then -2 else pla z t z.ct 0
-- texts
def MdS.wrt (z : MdS) (x : Int32) : MdS := (z.sg, z.tp, z.tn, z.mn, z.mk, z.mg, z.jp, z.ct, z.fr, z.wh, z.sn, z.ca, z.sp, z.hd, z.ps, z.tm, z.mm, z.on, z.ba, z.bg, z.se, z.up, z.by_, z.co, z.po, z.gr, upd z.tx z.wr x, z.wr + 1)
/-- how many figures, less one -/
def dgs (L : Nat) : Nat → Nat → Nat
  | 0, j => j
  | n + 1, j => if L / 10 ^ j < 10 then j else dgs L n (j + 1)
def wnl (L : Nat) : Nat → MdS → MdS
  | 0, z => z
  | j + 1, z => wnl L j (z.wrt (48 + nI (L / 10 ^ j % 10)))
def MdS.num (z : MdS) (L : Nat) : MdS := wnl L (dgs L 8 0 + 1) z
/-- v is sg L: L, or -L -/
def MdS.number (z : MdS) (ng : Bool) (L : Nat) : MdS := if ng = true then (z.wrt 45).num L else z.num L
def wwl (m : Nat) : Nat → Nat → MdS → MdS
  | 0, _, z => z
  | n + 1, i, z => wwl m n (i + 1) (z.wrt (z.sg (5 * m + i)))
def MdS.sgn (z : MdS) (n : Nat) : Int32 := if z.ca n = -9 then 46 else if z.pld (z.ca n).toNatClampNeg = 0 then 45 else 43
def wfl : Nat → Nat → MdS → MdS
  | 0, _, z => z
  | m + 1, n, z => wfl m (n + 1) (z.wrt (z.sgn n))
def MdS.word (z : MdS) (i : Int32) : Int32 := if win i 0 4 = 0 then -2 else if wlg z.mn ≤ i then -9 else z.sg (5 * z.mn + i).toNatClampNeg
def mal (z : MdS) : Nat → Nat → Int32 → Int32 → Int32 × Int32
  | 0, _, p, q => (p, q)
  | n + 1, k, p, q => mal z n (k + 1) (p + (z.cts k).2.1) (q + z.miss k)
def mas : Nat → Nat → MdS → MdS
  | 0, _, z => z
  | n + 1, k, z => mas n (k + 1) (z.cnts k)
def MdS.manR (z : MdS) (w : Int32) (s : Int32 × Int32) : Int32 := if w = 0 then nI z.ct else if w = 1 then nI z.sp else if w = 2 then s.1 else if w = 3 then nI z.ct - s.1 else if w = 4 then s.2 else if w = 5 then nI z.ct - nI z.old else if w = 6 then nI z.tn else if w = 7 then z.bg else -2
def MdS.many (z : MdS) (w : Int32) : Int32 × MdS := (z.manR w (mal z z.sp 0 0 0), mas z.sp 0 z)
