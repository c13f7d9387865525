-- ===== SpurtClock
abbrev SpcS : Type := TapS × ArrS × SpuS × SurS × LinS × WisS × SheS × Int32 × Int32 × Int32 × Int32
abbrev SpcS.tp (z : SpcS) : TapS := z.1
abbrev SpcS.ar (z : SpcS) : ArrS := z.2.1
abbrev SpcS.sp (z : SpcS) : SpuS := z.2.2.1
abbrev SpcS.sg (z : SpcS) : SurS := z.2.2.2.1
abbrev SpcS.ln (z : SpcS) : LinS := z.2.2.2.2.1
abbrev SpcS.wi (z : SpcS) : WisS := z.2.2.2.2.2.1
abbrev SpcS.sh (z : SpcS) : SheS := z.2.2.2.2.2.2.1
abbrev SpcS.mn (z : SpcS) : Int32 := z.2.2.2.2.2.2.2.1
abbrev SpcS.mk (z : SpcS) : Int32 := z.2.2.2.2.2.2.2.2.1
abbrev SpcS.mg (z : SpcS) : Int32 := z.2.2.2.2.2.2.2.2.2.1
abbrev SpcS.jp (z : SpcS) : Int32 := z.2.2.2.2.2.2.2.2.2.2
def spcGs (E : xE) (ad : Nat → Nat) (z : SpcS) : List va_W := [[(ad 0, .inr (8, [.ref (ad 1), .ref (ad 4), .ref (ad 15), .ref (ad 32), .ref (ad 33), .ref (ad 38), .ref (ad 41), .int z.mn, .int z.mk, .int z.mg, .int z.jp]))], tapW E ad z.tp, spuW E ad z.sp, surW E ad z.sg, sheW E ad z.sh, wisW E ad z.wi, linW E ad z.ln, arrW E ad z.ar]
def spcW (E : xE) (ad : Nat → Nat) (z : SpcS) : va_W := (spcGs E ad z).flatten
def iout (v a b : Int32) : Int32 := if v < a then 1 else if v ≤ b then 0 else 1
def mOf (m : Int32) : Nat := if m = 1 then 1 else if m = 2 then 2 else if m = 3 then 3 else if m = 4 then 4 else 0
theorem mOf_lt (m : Int32) : mOf m < 5 := by
  unfold mOf
  split
  · decide
  split
  · decide
  split
  · decide
  split <;> decide
def leastN (m : Int32) : Int32 := if m = 0 then -500 else 0
def greatN (m : Int32) : Int32 := if m = 0 then 2000 else if m = 4 then 8 else 256
def SpcS.wTp (z : SpcS) (t : TapS) : SpcS := (t, z.ar, z.sp, z.sg, z.ln, z.wi, z.sh, z.mn, z.mk, z.mg, z.jp)
def SpcS.key (z : SpcS) (c : Int32) : Int32 × SpcS := if iout c 0 127 = 0 then (if nI z.tp.sz < 8 then (nI (z.tp.add c).sz, z.wTp (z.tp.add c)) else (-4, z)) else (-2, z)
def SpcS.wipe (z : SpcS) : Int32 × SpcS := (nI z.tp.sz, z.wTp (z.tp.cs, 0))
def motl (t : TapS) : Nat → Nat → Int32
  | 0, _ => -1
  | n + 1, i => if t.spells (mOf (nI i)) = 0 then motl t n (i + 1) else nI i
def SpcS.told (z : SpcS) : Int32 := motl z.tp 5 0
def SpcS.manner (z : SpcS) (k : Int32) : Int32 × SpcS :=
  if z.told = -1 then (-1, z) else if iout k (leastN z.told) (greatN z.told) = 0 then (z.told, ((z.tp.cs, 0), z.ar, z.sp, z.sg, z.ln, z.wi, z.sh, z.told, k, z.mg, z.jp)) else (-2, z)
def SpcS.margin (z : SpcS) (v : Int32) : Int32 × SpcS := if iout v 0 200 = 0 then (z.mg, (z.tp, z.ar, z.sp, z.sg, z.ln, z.wi, z.sh, z.mn, z.mk, v, z.jp)) else (-2, z)
def SpcS.jump (z : SpcS) (v : Int32) : Int32 × SpcS := if iout v 10 1000 = 0 then (z.jp, (z.tp, z.ar, z.sp, z.sg, z.ln, z.wi, z.sh, z.mn, z.mk, z.mg, v)) else (-2, z)
def SpcS.refuse (z : SpcS) (n h p t : Int32) : Int32 :=
  if iout n 0 299 = 0 then (if iout h 0 n = 0 then (if iout p 0 h = 0 then (if iout t 0 30000 = 0 then (if t < z.ar.latest then -3 else if rg 300 z.ar.pa n - 1 = -1 then (if z.sp.bar n h p = 0 then (if nI z.ar.ct < 120 then 0 else -4) else -3) else -3) else -2) else -2) else -2) else -2
def SpcS.wishW (z : SpcS) (h : Int32) : WisS := if z.mn = 3 then (z.wi.gather z.ar).carry (z.ln.fit z.ar) z.ar h else z.wi.gather z.ar
def SpcS.wishL (z : SpcS) : LinS := if z.mn = 3 then z.ln.fit z.ar else z.ln
def SpcS.wishR (z : SpcS) (h : Int32) : Int32 :=
  if z.mn = 0 then z.mk else if z.mn = 1 then (z.wishW h).share z.mk else if z.mn = 2 then (if b2i z.sg.on = 0 then (z.wishW h).share z.mk else (z.wishW h).most (min (z.wishW h).sz 3)) else if z.mn = 3 then (z.wishW h).share z.mk else if z.mn = 4 then (z.wishW h).byMean z.mk else (z.wishW h).share z.mk
def SpcS.wished (z : SpcS) (h : Int32) : SpcS := (z.tp, z.ar, z.sp, z.sg, z.wishL, z.wishW h, z.sh, z.mn, z.mk, z.mg, z.jp)
def SpcS.opened (z : SpcS) (h p : Int32) : SpcS := (z.tp, z.ar, z.sp.add h p (z.sp.turn h p (z.wishR h + z.mg)) z.mn, z.sg, z.wishL, z.wishW h, z.sh, z.mn, z.mk, z.mg, z.jp)
def SpcS.settle (z : SpcS) (i n t k : Int32) : SpcS :=
  if 20 * n + rg 120 z.sp.tm k < t then (z.tp, z.ar.settle i k (-9), z.sp.frame k n false, z.sg, z.ln, z.wi, z.sh, z.mn, z.mk, z.mg, z.jp)
  else (z.tp, z.ar.settle i k (20 * n + rg 120 z.sp.tm k), z.sp.frame k n true, z.sg, z.ln, z.wi, z.sh, z.mn, z.mk, z.mg, z.jp)
/-- an arrival that is let in: the row of arrivals, then the spike -/
def SpcS.came (z : SpcS) (n t : Int32) : SpcS := (z.tp, z.ar.add n t, z.sp, (if nI z.ar.ct ≤ 0 then z.sg else z.sg.follow ((z.ar.add n t).dl (nI z.ar.ct - 1)) ((z.ar.add n t).dl (nI z.ar.ct)) z.jp), z.ln, z.wi, z.sh, z.mn, z.mk, z.mg, z.jp)
def SpcS.arrive (z : SpcS) (n h p t : Int32) : Int32 × SpcS :=
  if z.refuse n h p t = 0 then (if z.sp.withHead h = -1 then (nI z.sp.ct, ((z.came n t).opened h p).settle (nI z.ar.ct) n t (nI z.sp.ct)) else (z.sp.withHead h, (z.came n t).settle (nI z.ar.ct) n t (z.sp.withHead h)))
  else (z.refuse n h p t, z)
def SpcS.anew (z : SpcS) : Int32 × SpcS := (nI z.ar.ct, (z.tp, z.ar.clear, z.sp.clear, (false, z.sg.ba, 0), z.ln, z.wi, z.sh, z.mn, z.mk, z.mg, z.jp))
def SpcS.ofFrame (z : SpcS) (n w : Int32) : Int32 :=
  if rg 300 z.ar.pa n - 1 = -1 then -1 else if w = 0 then rg 120 z.ar.wh (rg 300 z.ar.pa n - 1) else if w = 1 then z.ar.dl (rg 300 z.ar.pa n - 1) + 10000 else if w = 2 then rg 120 z.ar.sn (rg 300 z.ar.pa n - 1) else if w = 3 then rg 120 z.ar.pt (rg 300 z.ar.pa n - 1) else if w = 4 then rg 300 z.ar.pa n - 1 else -2
def SpcS.ofSpurt (z : SpcS) (k w : Int32) : Int32 :=
  if iout k 0 (nI z.sp.ct - 1) = 0 then (if w = 0 then rg 120 z.sp.hd k else if w = 1 then rg 120 z.sp.ps k else if w = 2 then rg 120 z.sp.tm k + 10000 else if w = 3 then rg 120 z.sp.cm k else if w = 4 then rg 120 z.sp.pl k else if w = 5 then rg 120 z.sp.cm k - rg 120 z.sp.pl k else if w = 6 then z.sp.missing k else if w = 7 then rg 120 z.sp.gr k else if w = 8 then rg 120 z.sp.mn k else -2) else -1
def SpcS.inOrder (z : SpcS) (k : Int32) : Int32 := if iout k 0 (nI z.sp.ct - 1) = 0 then rg 120 z.sp.rk k else -1
def SpcS.wish (z : SpcS) (h : Int32) : Int32 × SpcS := if iout h 0 299 = 0 then (if nI z.ar.ct = 0 then (-3, z) else (z.wishR h + 10000, z.wished h)) else (-2, z)
def SpcS.spike (z : SpcS) (w : Int32) : Int32 := if w = 0 then (if b2i z.sg.on = 0 then 0 else 1) else if w = 1 then (if b2i z.sg.on = 0 then -9 else z.sg.ba + 10000) else -2
def SpcS.late (z : SpcS) (v : Int32) : Int32 := if iout v (-10000) 40000 = 0 then z.ar.da v z.ar.hs else -2
def SpcS.history (z : SpcS) (k : Int32) : Int32 := if iout k 0 31 = 0 then (if nI z.ar.hs ≤ k then -9 else z.ar.dl (nI z.ar.ct - 1 - k) + 10000) else -2
def SpcS.loss (z : SpcS) (v : Int32) : Int32 := if iout v (-10000) 40000 = 0 then z.ar.da v z.ar.ct else -2
def SpcS.fitted (z : SpcS) : SpcS := (z.tp, z.ar, z.sp, z.sg, z.ln.fit z.ar, z.wi, z.sh, z.mn, z.mk, z.mg, z.jp)
def SpcS.drift (z : SpcS) (w : Int32) : Int64 := if w = 0 then (z.ln.fit z.ar).up.toInt64 else if w = 1 then (z.ln.fit z.ar).lo.toInt64 else -9223372036854775808
def wail (ar : ArrS) (t : Int32) : Nat → Nat → Int32 → Int32
  | 0, _, a => a
  | n + 1, i, a => wail ar t n (i + 1) (if t < rg 120 ar.wh (nI i) then a else if rg 120 ar.pt (nI i) ≤ t then a else a + 1)
def SpcS.waiting (z : SpcS) (t : Int32) : Int32 := if iout t 0 100000 = 0 then wail z.ar t z.ar.ct 0 0 else -2
def plal (ar : ArrS) (t : Int32) : Nat → Nat → Int32
  | 0, _ => -9
  | n + 1, i => if rg 120 ar.pt (nI i) = -9 then plal ar t n (i + 1) else if t < rg 120 ar.pt (nI i) then plal ar t n (i + 1) else if 20 ≤ t - rg 120 ar.pt (nI i) then plal ar t n (i + 1) else rg 120 ar.fr (nI i)
def SpcS.playing (z : SpcS) (t : Int32) : Int32 := if iout t 0 100000 = 0 then plal z.ar t z.ar.ct 0 else -2
def SpcS.sheet (z : SpcS) (k : Int32) : SheS := (((((((SheS.put (z.sh.cs, 0) 83).number (rg 120 z.sp.hd k)).put 32).word (mOf (rg 120 z.sp.mn k))).put 32).put 80).number (rg 120 z.sp.tm k)).put 32
def SpcS.opening (z : SpcS) (k : Int32) : SpcS := (z.tp, z.ar, z.sp, z.sg, z.ln, z.wi, z.sheet k, z.mn, z.mk, z.mg, z.jp)
def SpcS.sign (z : SpcS) (n : Int32) : Int32 := if rg 300 z.ar.pa n - 1 = -1 then 46 else if rg 120 z.ar.pt (rg 300 z.ar.pa n - 1) = -9 then 45 else 43
def SpcS.frames (z : SpcS) (k : Int32) : Int32 := rg 120 z.sp.gr k - rg 120 z.sp.hd k + 1
def SpcS.text (z : SpcS) (k i : Int32) : Int32 × SpcS :=
  if iout k 0 (nI z.sp.ct - 1) = 0 then (if iout i (-1) 399 = 0 then (if i = -1 then (nI (z.sheet k).sz + z.frames k, z.opening k) else if nI (z.sheet k).sz ≤ i then (if z.frames k ≤ i - nI (z.sheet k).sz then (-9, z.opening k) else (z.sign (rg 120 z.sp.hd k + (i - nI (z.sheet k).sz)), z.opening k)) else (rg 32 (z.sheet k).cs i, z.opening k)) else (-2, z)) else (-1, z)
def SpcS.word (z : SpcS) (i : Int32) : Int32 := if iout i 0 4 = 0 then (if i < nI (stL.getD (mOf z.mn) 0) then (stB.getD (mOf z.mn) []).getD i.toNatClampNeg 0 else -9) else -2
def SpcS.many (z : SpcS) (w : Int32) : Int32 := if w = 0 then nI z.ar.ct else if w = 1 then nI z.sp.ct else if w = 2 then z.sp.playedAll else if w = 3 then nI z.ar.ct - z.sp.playedAll else if w = 4 then z.sp.missingAll else if w = 5 then nI z.ar.hs else if w = 6 then nI z.tp.sz else if w = 7 then z.sg.bg else -2
theorem SpcS.refuse_ct {z : SpcS} {n h p t : Int32} (hc : z.ar.ct ≤ 120) (q : z.refuse n h p t = 0) : z.ar.ct < 120 := by
  rcases Nat.lt_or_ge z.ar.ct 120 with h1 | h1
  · exact h1
  · have e : z.ar.ct = 120 := by omega
    have h3 : ¬ nI z.ar.ct < 120 := by rw [e]; decide
    unfold SpcS.refuse at q
    rw [if_neg h3] at q
    repeat' split at q
    all_goals exact absurd q (by decide)
theorem iout_iff {v a b : Int32} : iout v a b = 0 ↔ ¬ v < a ∧ v ≤ b := by
  unfold iout
  by_cases h1 : v < a
  · rw [if_pos h1]; exact ⟨fun q => absurd q (by decide), fun q => absurd h1 q.1⟩
  · rw [if_neg h1]
    by_cases h2 : v ≤ b
    · rw [if_pos h2]; exact ⟨fun _ => ⟨h1, h2⟩, fun _ => rfl⟩
    · rw [if_neg h2]; exact ⟨fun q => absurd q (by decide), fun q => absurd q.2 h2⟩
theorem wd_at {i : Int32} {m : Nat} (h1 : iout i 0 4 = 0) (h2 : i < nI (stL.getD m 0)) : ∃ j, j < stL.getD m 0 ∧ i = nI j := by
  obtain ⟨j, hj, e⟩ := nI_of (iout_iff.mp h1).1
  refine ⟨j, ?_, e⟩
  have hL := stL_le m
  subst e
  exact (nI_ltI hj (by omega)).mp h2
