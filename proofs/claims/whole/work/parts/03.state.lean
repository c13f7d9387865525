/-! WHAT A STATE IS: rows, and for each class of the system its components, its cells, and what its methods answer and do. -/
def b2i (b : Bool) : Int32 := match b with
  | true => 1
  | false => 0
theorem b2i_nar (b : Bool) : narrow .boolean (.int (b2i b)) = .int (b2i b) := by cases b <;> rfl
theorem b2i_fit (b : Bool) : fits .boolean (.int (b2i b)) = true := by cases b <;> rfl
abbrev imax (x y : Int32) : Int32 := if x < y then y else x
abbrev imin (x y : Int32) : Int32 := if y < x then y else x
abbrev iabs (x : Int32) : Int32 := if 0 ≤ x then x else 0 - x
/-- a Row's get and set -/
def rg (n : Nat) (f : Nat → Int32) (i : Int32) : Int32 := if i < 0 then 0 else if nI n ≤ i then 0 else f i.toNatClampNeg
def rs (n : Nat) (f : Nat → Int32) (i v : Int32) : Nat → Int32 := if i < 0 then f else if nI n ≤ i then f else upd f i.toNatClampNeg v
theorem vp_of {n : Nat} {i : Int32} (hn : n < 2 ^ 31) (h1 : ¬ i < 0) (h2 : ¬ nI n ≤ i) : vp_in i n := by
  obtain ⟨j, hj, e⟩ := nI_of h1
  subst e
  refine vp_in_nI ?_ hn
  rcases Nat.lt_or_ge j n with h | h
  · exact h
  · exact absurd (nI_le h hj) h2
theorem rg_at {n k : Nat} {f : Nat → Int32} (hk : k < n) (hn : n < 2 ^ 31) : rg n f (nI k) = f k := by
  unfold rg
  rw [if_neg (nI_pos (by omega)), if_neg (nI_ge hk hn), nI_clamp (by omega)]
theorem rs_at {n k : Nat} {f : Nat → Int32} {v : Int32} (hk : k < n) (hn : n < 2 ^ 31) : rs n f (nI k) v = upd f k v := by
  unfold rs
  rw [if_neg (nI_pos (by omega)), if_neg (nI_ge hk hn), nI_clamp (by omega)]
def rowGs (E : xE) (h a n : Nat) (f : Nat → Int32) : List va_W := [[(h, .inr (2, [.ref a]))], [(a, .inl (xI E, n, .inl f))]]
def rowW (E : xE) (h a n : Nat) (f : Nat → Int32) : va_W := (rowGs E h a n f).flatten
theorem stL_le (k : Nat) : stL.getD k 0 ≤ 5 := by
  match k with
  | 0 => decide
  | 1 => decide
  | 2 => decide
  | 3 => decide
  | 4 => decide
  | k + 5 => exact Nat.zero_le _
theorem st_and : ∀ k, k < 5 → ∀ i, i < stL.getD k 0 → (stB.getD k []).getD i 0 &&& 255 = (stB.getD k []).getD i 0 := by decide
theorem st_ch {k i : Nat} (hk : k < 5) (hi : i < stL.getD k 0) : (((stB.getD k []).getD i 0 &&& 255).toUInt32 % 65536).toInt32 = (stB.getD k []).getD i 0 := by
  rw [sc_c2, st_and k hk i hi]
theorem st_nar {k i : Nat} (hk : k < 5) (hi : i < stL.getD k 0) : narrow .char (.int ((stB.getD k []).getD i 0)) = .int ((stB.getD k []).getD i 0) := by
  have h := sc_nar ((stB.getD k []).getD i 0)
  rwa [st_and k hk i hi] at h
-- ===== Tape
abbrev TapS : Type := (Nat → Int32) × Nat
abbrev TapS.cs (z : TapS) : Nat → Int32 := z.1
abbrev TapS.sz (z : TapS) : Nat := z.2
def tapGs (E : xE) (ad : Nat → Nat) (z : TapS) : List va_W := [[(ad 1, .inr (6, [.ref (ad 2), .int (nI z.sz)]))], rowW E (ad 2) (ad 3) 8 z.cs]
def tapW (E : xE) (ad : Nat → Nat) (z : TapS) : va_W := (tapGs E ad z).flatten
def TapS.add (z : TapS) (x : Int32) : TapS := if 8 ≤ nI z.sz then z else (rs 8 z.cs (nI z.sz) x, z.sz + 1)
/-- whether the tape spells word k, from place i on, n places -/
def spl (cs : Nat → Int32) (k : Nat) : Nat → Nat → Int32
  | 0, _ => 1
  | n + 1, i => if (stB.getD k []).getD i 0 = rg 8 cs (nI i) then spl cs k n (i + 1) else 0
def TapS.spells (z : TapS) (k : Nat) : Int32 := if nI (stL.getD k 0) = nI z.sz then spl z.cs k (stL.getD k 0) 0 else 0
-- ===== Arrivals
abbrev ArrS : Type := (Nat → Int32) × (Nat → Int32) × (Nat → Int32) × (Nat → Int32) × (Nat → Int32) × Nat
abbrev ArrS.pa (z : ArrS) : Nat → Int32 := z.1
abbrev ArrS.fr (z : ArrS) : Nat → Int32 := z.2.1
abbrev ArrS.wh (z : ArrS) : Nat → Int32 := z.2.2.1
abbrev ArrS.sn (z : ArrS) : Nat → Int32 := z.2.2.2.1
abbrev ArrS.pt (z : ArrS) : Nat → Int32 := z.2.2.2.2.1
abbrev ArrS.ct (z : ArrS) : Nat := z.2.2.2.2.2
def arrGs (E : xE) (ad : Nat → Nat) (z : ArrS) : List va_W := [[(ad 4, .inr (0, [.ref (ad 5), .ref (ad 7), .ref (ad 9), .ref (ad 11), .ref (ad 13), .int (nI z.ct)]))], rowW E (ad 5) (ad 6) 300 z.pa, rowW E (ad 7) (ad 8) 120 z.fr, rowW E (ad 9) (ad 10) 120 z.wh, rowW E (ad 11) (ad 12) 120 z.sn, rowW E (ad 13) (ad 14) 120 z.pt]
def arrW (E : xE) (ad : Nat → Nat) (z : ArrS) : va_W := (arrGs E ad z).flatten
def ArrS.dl (z : ArrS) (i : Int32) : Int32 := rg 120 z.wh i - 20 * rg 120 z.fr i
/-- how many of d (i), d (i + 1) .. are above v -/
def cgt (d : Nat → Int32) (v : Int32) : Nat → Nat → Int32 → Int32
  | 0, _, a => a
  | n + 1, i, a => cgt d v n (i + 1) (if d i ≤ v then a else a + 1)
def ArrS.da (z : ArrS) (v : Int32) (k : Nat) : Int32 := cgt (fun i => z.dl (nI i)) v k (z.ct - k) 0
def ArrS.latest (z : ArrS) : Int32 := if nI z.ct = 0 then 0 else rg 120 z.wh (nI z.ct - 1)
def ArrS.add (z : ArrS) (n t : Int32) : ArrS := (rs 300 z.pa n (nI z.ct + 1), rs 120 z.fr (nI z.ct) n, rs 120 z.wh (nI z.ct) t, z.sn, z.pt, z.ct + 1)
def ArrS.settle (z : ArrS) (i k t : Int32) : ArrS := (z.pa, z.fr, z.wh, rs 120 z.sn i k, rs 120 z.pt i t, z.ct)
def clr (fr : Nat → Int32) : Nat → Nat → (Nat → Int32) → Nat → Int32
  | 0, _, pa => pa
  | n + 1, i, pa => clr fr n (i + 1) (rs 300 pa (rg 120 fr (nI i)) 0)
def ArrS.clear (z : ArrS) : ArrS := (clr z.fr z.ct 0 z.pa, z.fr, z.wh, z.sn, z.pt, 0)
theorem nI_dec {c : Nat} (h : 0 < c) : nI c - 1 = nI (c - 1) := by
  obtain ⟨k, rfl⟩ : ∃ k, c = k + 1 := ⟨c - 1, by omega⟩
  exact nI_pred k
theorem b2i_one {b : Bool} (h : ¬ b2i b = 0) : b2i b = 1 := by cases b with
  | true => rfl
  | false => exact absurd rfl h
theorem imin_nI {a b : Nat} (ha : a < 2 ^ 31) (hb : b < 2 ^ 31) : imin (nI a) (nI b) = nI (min a b) := by
  show (if nI b < nI a then nI b else nI a) = _
  by_cases h : b < a
  · rw [if_pos (nI_lt h ha), Nat.min_eq_right (by omega)]
  · rw [if_neg (nI_nlt (by omega) hb), Nat.min_eq_left (by omega)]
-- ===== Spurts
abbrev SpuS : Type := (Nat → Int32) × (Nat → Int32) × (Nat → Int32) × (Nat → Int32) × (Nat → Int32) × (Nat → Int32) × (Nat → Int32) × (Nat → Int32) × Nat
abbrev SpuS.hd (z : SpuS) : Nat → Int32 := z.1
abbrev SpuS.ps (z : SpuS) : Nat → Int32 := z.2.1
abbrev SpuS.tm (z : SpuS) : Nat → Int32 := z.2.2.1
abbrev SpuS.mn (z : SpuS) : Nat → Int32 := z.2.2.2.1
abbrev SpuS.cm (z : SpuS) : Nat → Int32 := z.2.2.2.2.1
abbrev SpuS.pl (z : SpuS) : Nat → Int32 := z.2.2.2.2.2.1
abbrev SpuS.gr (z : SpuS) : Nat → Int32 := z.2.2.2.2.2.2.1
abbrev SpuS.rk (z : SpuS) : Nat → Int32 := z.2.2.2.2.2.2.2.1
abbrev SpuS.ct (z : SpuS) : Nat := z.2.2.2.2.2.2.2.2
def spuGs (E : xE) (ad : Nat → Nat) (z : SpuS) : List va_W := [[(ad 15, .inr (4, [.ref (ad 16), .ref (ad 18), .ref (ad 20), .ref (ad 22), .ref (ad 24), .ref (ad 26), .ref (ad 28), .ref (ad 30), .int (nI z.ct)]))], rowW E (ad 16) (ad 17) 120 z.hd, rowW E (ad 18) (ad 19) 120 z.ps, rowW E (ad 20) (ad 21) 120 z.tm, rowW E (ad 22) (ad 23) 120 z.mn, rowW E (ad 24) (ad 25) 120 z.cm, rowW E (ad 26) (ad 27) 120 z.pl, rowW E (ad 28) (ad 29) 120 z.gr, rowW E (ad 30) (ad 31) 120 z.rk]
def spuW (E : xE) (ad : Nat → Nat) (z : SpuS) : va_W := (spuGs E ad z).flatten
def SpuS.missing (z : SpuS) (k : Int32) : Int32 := rg 120 z.gr k - rg 120 z.hd k + 1 - rg 120 z.cm k
def sumr (f : Nat → Int32) : Nat → Nat → Int32 → Int32
  | 0, _, a => a
  | n + 1, i, a => sumr f n (i + 1) (a + f i)
def SpuS.playedAll (z : SpuS) : Int32 := sumr (fun i => rg 120 z.pl (nI i)) z.ct 0 0
def SpuS.missingAll (z : SpuS) : Int32 := sumr (fun i => z.missing (nI i)) z.ct 0 0
/-- the first place whose entry is h; r if there is none -/
def fnd (f : Nat → Int32) (h r : Int32) : Nat → Nat → Int32
  | 0, _ => r
  | n + 1, i => if f i = h then nI i else fnd f h r n (i + 1)
def SpuS.withHead (z : SpuS) (h : Int32) : Int32 := fnd (fun i => rg 120 z.hd (nI i)) h (-1) z.ct 0
def SpuS.way (z : SpuS) (k n h p : Int32) : Int32 :=
  if h ≤ rg 120 z.hd k then (if rg 120 z.hd k ≤ h then 0 else if n < rg 120 z.hd k - rg 120 z.ps k then 0 else 1) else if rg 120 z.gr k < h - p then 0 else 1
def barl (z : SpuS) (n h p : Int32) : Nat → Nat → Int32
  | 0, _ => 0
  | m + 1, i => if rg 120 z.hd (nI i) = h then (if rg 120 z.ps (nI i) = p then (if z.way (nI i) n h p = 0 then barl z n h p m (i + 1) else 1) else 1) else if z.way (nI i) n h p = 0 then barl z n h p m (i + 1) else 1
def SpuS.bar (z : SpuS) (n h p : Int32) : Int32 := barl z n h p z.ct 0
/-- how many entries are below h -/
def cltN (f : Nat → Int32) (h : Int32) : Nat → Nat → Nat → Nat
  | 0, _, a => a
  | n + 1, i, a => cltN f h n (i + 1) (if h ≤ f i then a else a + 1)
theorem cltN_le (f : Nat → Int32) (h : Int32) : ∀ n i a, cltN f h n i a ≤ a + n
  | 0, _, _ => Nat.le_refl _
  | n + 1, i, a => by
    rw [cltN]
    refine Nat.le_trans (cltN_le f h n (i + 1) _) ?_
    split <;> omega
def SpuS.bel (z : SpuS) (h : Int32) : Nat := cltN (fun i => rg 120 z.hd (nI i)) h z.ct 0 0
theorem SpuS.bel_le (z : SpuS) (h : Int32) : z.bel h ≤ z.ct := by have := cltN_le (fun i => rg 120 z.hd (nI i)) h z.ct 0 0; unfold SpuS.bel; omega
def SpuS.turn1 (z : SpuS) (p w r : Int32) : Int32 := if r ≤ 0 then w else imax w (rg 120 z.tm (rg 120 z.rk (r - 1)) - 20 * p)
def SpuS.turn2 (z : SpuS) (t r : Int32) : Int32 := if nI z.ct ≤ r then t else imin t (rg 120 z.tm (rg 120 z.rk r) + 20 * rg 120 z.ps (rg 120 z.rk r))
def SpuS.turn (z : SpuS) (h p w : Int32) : Int32 := z.turn2 (z.turn1 p w (nI (z.bel h))) (nI (z.bel h))
/-- entries moved one place up, n of them, the uppermost to place r -/
def shf : Nat → Nat → (Nat → Int32) → Nat → Int32
  | 0, _, f => f
  | n + 1, r, f => shf n (r - 1) (rs 120 f (nI r) (rg 120 f (nI r - 1)))
def SpuS.add (z : SpuS) (h p t m : Int32) : SpuS := (rs 120 z.hd (nI z.ct) h, rs 120 z.ps (nI z.ct) p, rs 120 z.tm (nI z.ct) t, rs 120 z.mn (nI z.ct) m, rs 120 z.cm (nI z.ct) 0, rs 120 z.pl (nI z.ct) 0, rs 120 z.gr (nI z.ct) h, rs 120 (shf (z.ct - z.bel h) z.ct z.rk) (nI (z.bel h)) (nI z.ct), z.ct + 1)
def SpuS.frame (z : SpuS) (k n : Int32) (b : Bool) : SpuS := (z.hd, z.ps, z.tm, z.mn, rs 120 z.cm k (rg 120 z.cm k + 1), rs 120 z.pl k (rg 120 z.pl k + b2i b), rs 120 z.gr k (imax (rg 120 z.gr k) n), z.rk, z.ct)
def SpuS.clear (z : SpuS) : SpuS := (z.hd, z.ps, z.tm, z.mn, z.cm, z.pl, z.gr, z.rk, 0)
-- ===== Surge
abbrev SurS : Type := Bool × Int32 × Int32
abbrev SurS.on (z : SurS) : Bool := z.1
abbrev SurS.ba (z : SurS) : Int32 := z.2.1
abbrev SurS.bg (z : SurS) : Int32 := z.2.2
def surGs (E : xE) (ad : Nat → Nat) (z : SurS) : List va_W := [[(ad 32, .inr (5, [.int (b2i z.on), .int z.ba, .int z.bg]))]]
def surW (E : xE) (ad : Nat → Nat) (z : SurS) : va_W := (surGs E ad z).flatten
def SurS.follow (z : SurS) (a d j : Int32) : SurS := if b2i z.on = 0 then (if d < a + j then z else (true, a, z.bg + 1)) else if d ≤ z.ba + j / 2 then (false, z.ba, z.bg) else (true, z.ba, z.bg)
-- ===== LowestLine
abbrev LinS : Type := (Nat → Int32) × (Nat → Int32) × Nat × Int32 × Int32
abbrev LinS.cf (z : LinS) : Nat → Int32 := z.1
abbrev LinS.cd (z : LinS) : Nat → Int32 := z.2.1
abbrev LinS.cn (z : LinS) : Nat := z.2.2.1
abbrev LinS.up (z : LinS) : Int32 := z.2.2.2.1
abbrev LinS.lo (z : LinS) : Int32 := z.2.2.2.2
def linGs (E : xE) (ad : Nat → Nat) (z : LinS) : List va_W := [[(ad 33, .inr (1, [.ref (ad 34), .ref (ad 36), .int (nI z.cn), .int z.up, .int z.lo]))], rowW E (ad 34) (ad 35) 120 z.cf, rowW E (ad 36) (ad 37) 120 z.cd]
def linW (E : xE) (ad : Nat → Nat) (z : LinS) : va_W := (linGs E ad z).flatten
/-- whether the last of c corners is not below the line to (n, d) -/
def nbl (cf cd : Nat → Int32) (c : Nat) (n d : Int32) : Int32 :=
  if (rg 120 cd (nI c - 1) - rg 120 cd (nI c - 2)) * (n - rg 120 cf (nI c - 2)) < (d - rg 120 cd (nI c - 2)) * (rg 120 cf (nI c - 1) - rg 120 cf (nI c - 2)) then 0 else 1
def popn (cf cd : Nat → Int32) (n d : Int32) : Nat → Nat
  | 0 => 0
  | 1 => 1
  | c + 2 => if nbl cf cd (c + 2) n d = 0 then c + 2 else popn cf cd n d (c + 1)
theorem popn_le (cf cd : Nat → Int32) (n d : Int32) : ∀ c, popn cf cd n d c ≤ c
  | 0 => Nat.le_refl _
  | 1 => Nat.le_refl _
  | c + 2 => by
    rw [popn]
    split
    · exact Nat.le_refl _
    · exact Nat.le_trans (popn_le cf cd n d (c + 1)) (by omega)
theorem popn_lt {cf cd : Nat → Int32} {n d : Int32} {c : Nat} (h : c < 2) : popn cf cd n d c = c := by
  match c, h with
  | 0, _ => rfl
  | 1, _ => rfl
theorem popn_ge {cf cd : Nat → Int32} {n d : Int32} {c : Nat} (h : 2 ≤ c) : popn cf cd n d c = if nbl cf cd c n d = 0 then c else popn cf cd n d (c - 1) := by
  obtain ⟨k, rfl⟩ : ∃ k, c = k + 2 := ⟨c - 2, by omega⟩
  rw [popn]
  rfl
def LinS.addc (z : LinS) (n d : Int32) : LinS := (rs 120 z.cf (nI (popn z.cf z.cd n d z.cn)) n, rs 120 z.cd (nI (popn z.cf z.cd n d z.cn)) d, popn z.cf z.cd n d z.cn + 1, z.up, z.lo)
theorem LinS.addc_cn (z : LinS) (n d : Int32) : (z.addc n d).cn ≤ z.cn + 1 := Nat.succ_le_succ (popn_le _ _ _ _ _)
def gdl : Nat → Int32 → Int32 → Int32
  | 0, a, _ => a
  | n + 1, a, b => if b = 0 then a else gdl n b (a - a / b * b)
def LinS.rise (z : LinS) (d f : Int32) : LinS := if gdl 64 (iabs d) f ≤ 0 then z else (z.cf, z.cd, z.cn, d / gdl 64 (iabs d) f, f / gdl 64 (iabs d) f)
def tkl (z : LinS) (t : Int32) : Nat → Nat → LinS
  | 0, _ => z
  | n + 1, c => if 2 * rg 120 z.cf (nI c) < t then tkl z t n (c + 1) else z.rise (rg 120 z.cd (nI c) - rg 120 z.cd (nI c - 1)) (rg 120 z.cf (nI c) - rg 120 z.cf (nI c - 1))
def LinS.take (z : LinS) : LinS := tkl z (rg 120 z.cf 0 + rg 120 z.cf (nI z.cn - 1)) (z.cn - 1) 1
def fits1 (ar : ArrS) (i : Nat) (z : LinS) : LinS := if rg 300 ar.pa (nI i) - 1 = -1 then z else z.addc (nI i) (ar.dl (rg 300 ar.pa (nI i) - 1))
def fitl (ar : ArrS) : Nat → Nat → LinS → LinS
  | 0, _, z => z
  | m + 1, i, z => fitl ar m (i + 1) (fits1 ar i z)
theorem fits1_cn (ar : ArrS) (i : Nat) (z : LinS) : (fits1 ar i z).cn ≤ z.cn + 1 := by
  unfold fits1
  split
  · omega
  · exact LinS.addc_cn _ _ _
theorem fitl_cn (ar : ArrS) : ∀ m i z, (fitl ar m i z).cn ≤ z.cn + m
  | 0, _, _ => Nat.le_refl _
  | m + 1, i, z => by
    rw [fitl]
    have h1 := fitl_cn ar m (i + 1) (fits1 ar i z)
    have h2 := fits1_cn ar i z
    omega
def LinS.fit (z : LinS) (ar : ArrS) : LinS := (fitl ar 300 0 (z.cf, z.cd, 0, 0, 1)).take
/-- Math.floorDiv -/
def fdv (x y : Int32) : Int32 := if 0 ≤ x ^^^ y then x / y else if x / y * y = x then x / y else x / y - 1
def LinS.over (z : LinS) (n : Int32) : Int32 := if z.lo ≤ 0 then 0 else -fdv (-z.up * n) z.lo
-- ===== Wishes
abbrev WisS : Type := (Nat → Int32) × Nat
abbrev WisS.ds (z : WisS) : Nat → Int32 := z.1
abbrev WisS.sz (z : WisS) : Nat := z.2
def wisGs (E : xE) (ad : Nat → Nat) (z : WisS) : List va_W := [[(ad 38, .inr (7, [.ref (ad 39), .int (nI z.sz)]))], rowW E (ad 39) (ad 40) 32 z.ds]
def wisW (E : xE) (ad : Nat → Nat) (z : WisS) : va_W := (wisGs E ad z).flatten
def ArrS.hs (z : ArrS) : Nat := min z.ct 32
def gatl (ar : ArrS) : Nat → Nat → (Nat → Int32) → Nat → Int32
  | 0, _, f => f
  | n + 1, i, f => gatl ar n (i + 1) (rs 32 f (nI i) (ar.dl (nI ar.ct - 1 - nI i)))
def WisS.gather (z : WisS) (ar : ArrS) : WisS := (gatl ar ar.hs 0 z.ds, ar.hs)
def carl (ln : LinS) (ar : ArrS) (h : Int32) : Nat → Nat → (Nat → Int32) → Nat → Int32
  | 0, _, f => f
  | n + 1, i, f => carl ln ar h n (i + 1) (rs 32 f (nI i) (rg 32 f (nI i) + ln.over (h - rg 120 ar.fr (nI ar.ct - 1 - nI i))))
def WisS.carry (z : WisS) (ln : LinS) (ar : ArrS) (h : Int32) : WisS := (carl ln ar h z.sz 0 z.ds, z.sz)
def gtl (ds : Nat → Int32) : Nat → Nat → Int32 → Int32
  | 0, _, b => b
  | n + 1, i, b => gtl ds n (i + 1) (imax b (rg 32 ds (nI i)))
def WisS.most (z : WisS) (k : Nat) : Int32 := gtl z.ds (k - 1) 1 (rg 32 z.ds 0)
def WisS.above (z : WisS) (v : Int32) : Int32 := cgt (fun i => rg 32 z.ds (nI i)) v z.sz 0 0
def bsl (z : WisS) (k : Int32) : Nat → Nat → Int32 → Int32
  | 0, _, b => b
  | n + 1, i, b => bsl z k n (i + 1) (if b ≤ rg 32 z.ds (nI i) then b else if k * nI z.sz < 256 * z.above (rg 32 z.ds (nI i)) then b else rg 32 z.ds (nI i))
def WisS.share (z : WisS) (k : Int32) : Int32 := bsl z k z.sz 0 (z.most z.sz)
def WisS.mean (z : WisS) : Int32 := fdv (sumr (fun i => rg 32 z.ds (nI i)) z.sz 0 0) (nI z.sz)
def WisS.far (z : WisS) : Int32 := fdv (sumr (fun i => iabs (rg 32 z.ds (nI i) - z.mean)) z.sz 0 0) (nI z.sz)
def WisS.byMean (z : WisS) (k : Int32) : Int32 := if 0 < nI z.sz then z.mean + k * z.far else 0
-- ===== Sheet
abbrev SheS : Type := (Nat → Int32) × Nat
abbrev SheS.cs (z : SheS) : Nat → Int32 := z.1
abbrev SheS.sz (z : SheS) : Nat := z.2
def sheGs (E : xE) (ad : Nat → Nat) (z : SheS) : List va_W := [[(ad 41, .inr (3, [.ref (ad 42), .int (nI z.sz)]))], rowW E (ad 42) (ad 43) 32 z.cs]
def sheW (E : xE) (ad : Nat → Nat) (z : SheS) : va_W := (sheGs E ad z).flatten
def SheS.put (z : SheS) (x : Int32) : SheS := if 32 ≤ nI z.sz then z else (rs 32 z.cs (nI z.sz) x, z.sz + 1)
def pwl (k : Nat) : Nat → Nat → SheS → SheS
  | 0, _, z => z
  | n + 1, i, z => pwl k n (i + 1) (z.put ((stB.getD k []).getD i 0))
def SheS.word (z : SheS) (k : Nat) : SheS := pwl k (stL.getD k 0) 0 z
def unt (n : Nat) : Int32 := [0, 1, 10, 100, 1000, 10000, 100000, 1000000, 10000000, 100000000, 1000000000].getD n 0
theorem unt_pos : ∀ n, n < 10 → ¬ unt (n + 1) ≤ 0 := by decide
theorem unt_ne : ∀ n, n < 10 → ¬ unt (n + 1) = 0 := by decide
theorem unt_div : ∀ n, n < 10 → unt (n + 1) / 10 = unt n := by decide
def fig (r : Int32) (n : Nat) : Int32 := -(r / unt n - r / unt n / 10 * 10)
def pnl (r : Int32) : Nat → Bool → SheS → SheS
  | 0, _, z => z
  | n + 1, b, z => if b2i b = 0 then (if fig r (n + 1) = 0 then (if unt (n + 1) = 1 then pnl r n true (z.put (48 + fig r (n + 1))) else pnl r n b z) else pnl r n true (z.put (48 + fig r (n + 1)))) else pnl r n true (z.put (48 + fig r (n + 1)))
def SheS.number (z : SheS) (v : Int32) : SheS := if 0 ≤ v then pnl (-v) 10 false z else pnl v 10 false (z.put 45)
