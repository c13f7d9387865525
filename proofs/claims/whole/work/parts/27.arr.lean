/-! An arrival that is let in keeps the relation. -/
def stp (y : MdS) (k x : Nat) (s : CoS) : CoS := if y.sn x = nI k then (s.1 + 1, (if y.pld x = 0 then s.2.1 + 0 else s.2.1 + 1), (if y.fr x ≤ s.2.2 then s.2.2 else y.fr x)) else s
theorem col_last (y : MdS) (k : Nat) : ∀ n a s, col y k (n + 1) a s = stp y k (a + n) (col y k n a s)
  | 0, _, _ => rfl
  | n + 1, a, s => by
    rw [col, col_last y k n (a + 1), show a + 1 + n = a + (n + 1) by omega]
    rfl
theorem col_cg {y y' : MdS} (k : Nat) : ∀ n a s, (∀ x, a ≤ x → x < a + n → y'.sn x = y.sn x ∧ y'.fr x = y.fr x ∧ y'.pld x = y.pld x) → col y' k n a s = col y k n a s
  | 0, _, _, _ => rfl
  | n + 1, a, s, H => by
    obtain ⟨h1, h2, h3⟩ := H a (by omega) (by omega)
    rw [col, col, h1, h2, h3]
    exact col_cg k n (a + 1) _ (fun x a1 a2 => H x (by omega) (by omega))
theorem col_none {y : MdS} (k : Nat) : ∀ n a s, (∀ x, a ≤ x → x < a + n → ¬ y.sn x = nI k) → col y k n a s = s
  | 0, _, _, _ => rfl
  | n + 1, a, s, H => by
    rw [col, if_neg (H a (by omega) (by omega))]
    exact col_none k n (a + 1) _ (fun x a1 a2 => H x (by omega) (by omega))
set_option maxHeartbeats 2000000 in
theorem Rel.arrived {z : SpcS} {y : MdS} (h : Rel z y) {m tt k sp' : Nat} {hd' ps' tm' mm' cm0 pl0 gr0 rk' : Nat → Int32} (g : SurS) {b : Bool} {pv : Int32} (hm : m < 300) (ht : tt ≤ 30000) (hc : y.ct < 120) (hca : y.ca m = -9) (hsp : y.sp ≤ sp') (hsp2 : sp' ≤ y.ct + 1) (hk : k < sp') (hnew : ∀ j, j < sp' → j < y.sp ∨ j = k)
    (e1 : ∀ j, j < y.sp → hd' j = y.hd j) (e3 : ∀ j, j < y.sp → tm' j = y.tm j)
    (f6 : ∀ k, k < sp' → ∃ h p, h < 300 ∧ p ≤ h ∧ hd' k = nI h ∧ ps' k = nI p) (f6d : ∀ j k, j < sp' → k < sp' → hd' j = hd' k → j = k) (f7 : ∀ k, k < sp' → -11000000 ≤ (tm' k).toInt ∧ (tm' k).toInt ≤ 11000000) (f8 : ∀ k, k < sp' → ∃ w, w < 5 ∧ mm' k = nI w)
    (hh : hd' k ≤ nI m) (hb : ∀ j, j < sp' → cm0 j = (col y j y.ct 0 (0, 0, hd' j)).1 ∧ pl0 j = (col y j y.ct 0 (0, 0, hd' j)).2.1 ∧ gr0 j = (col y j y.ct 0 (0, 0, hd' j)).2.2)
    (hrk : ∀ r, r < sp' → ∃ k, k < sp' ∧ rk' r = nI k ∧ cltN hd' (hd' k) sp' 0 0 = r)
    (hpv : (tm' k < nI tt - 20 * nI m ∧ b = false ∧ pv = -9) ∨ (¬ tm' k < nI tt - 20 * nI m ∧ b = true ∧ pv = 20 * nI m + tm' k)) :
    Rel (z.tp, (z.ar.add (nI m) (nI tt)).settle (nI y.ct) (nI k) pv, SpuS.frame (hd', ps', tm', mm', cm0, pl0, gr0, rk', sp') (nI k) (nI m) b, g, z.ln, z.wi, z.sh, z.mn, z.mk, z.mg, z.jp) (y.sg, y.tp, y.tn, y.mn, y.mk, y.mg, y.jp, y.ct + 1, upd y.fr y.ct (nI m), upd y.wh y.ct (nI tt), upd y.sn y.ct (nI k), upd y.ca m (nI y.ct), sp', hd', ps', tm', mm', g.on, g.ba, g.bg, y.se, y.up, y.by_, y.co, y.po, y.gr, y.tx, y.wr) := by
  have hs := h.sp120
  have hzc := h.ct
  have hcl : (nI k).toNatClampNeg = k := nI_clamp (by omega)
  -- the rows below the new place are as before
  have hsn : ∀ x, x < y.ct → upd y.sn y.ct (nI k) x = y.sn x := fun x hx => pk_un (by omega)
  have hpl : ∀ x, x < y.ct → MdS.pld (y.sg, y.tp, y.tn, y.mn, y.mk, y.mg, y.jp, y.ct + 1, upd y.fr y.ct (nI m), upd y.wh y.ct (nI tt), upd y.sn y.ct (nI k), upd y.ca m (nI y.ct), sp', hd', ps', tm', mm', g.on, g.ba, g.bg, y.se, y.up, y.by_, y.co, y.po, y.gr, y.tx, y.wr) x = y.pld x ∧ MdS.pat (y.sg, y.tp, y.tn, y.mn, y.mk, y.mg, y.jp, y.ct + 1, upd y.fr y.ct (nI m), upd y.wh y.ct (nI tt), upd y.sn y.ct (nI k), upd y.ca m (nI y.ct), sp', hd', ps', tm', mm', g.on, g.ba, g.bg, y.se, y.up, y.by_, y.co, y.po, y.gr, y.tx, y.wr) x = y.pat x := by
    intro x hx
    obtain ⟨j, hj, ej⟩ := h.i4 x hx
    have a1 : upd y.sn y.ct (nI k) x = nI j := by rw [hsn x hx, ej]
    have a2 : upd y.fr y.ct (nI m) x = y.fr x := pk_un (by omega)
    have a3 : upd y.wh y.ct (nI tt) x = y.wh x := pk_un (by omega)
    constructor
    · show (if tm' (upd y.sn y.ct (nI k) x).toNatClampNeg < upd y.wh y.ct (nI tt) x - 20 * upd y.fr y.ct (nI m) x then (0 : Int32) else 1) = if y.tm (y.sn x).toNatClampNeg < y.wh x - 20 * y.fr x then 0 else 1
      rw [a1, a2, a3, ej, nI_clamp (by omega), e3 j hj]
    · show 20 * upd y.fr y.ct (nI m) x + tm' (upd y.sn y.ct (nI k) x).toNatClampNeg = 20 * y.fr x + y.tm (y.sn x).toNatClampNeg
      rw [a1, a2, ej, nI_clamp (by omega), e3 j hj]
  have hpc : MdS.pld (y.sg, y.tp, y.tn, y.mn, y.mk, y.mg, y.jp, y.ct + 1, upd y.fr y.ct (nI m), upd y.wh y.ct (nI tt), upd y.sn y.ct (nI k), upd y.ca m (nI y.ct), sp', hd', ps', tm', mm', g.on, g.ba, g.bg, y.se, y.up, y.by_, y.co, y.po, y.gr, y.tx, y.wr) y.ct = (if tm' k < nI tt - 20 * nI m then 0 else 1) ∧ MdS.pat (y.sg, y.tp, y.tn, y.mn, y.mk, y.mg, y.jp, y.ct + 1, upd y.fr y.ct (nI m), upd y.wh y.ct (nI tt), upd y.sn y.ct (nI k), upd y.ca m (nI y.ct), sp', hd', ps', tm', mm', g.on, g.ba, g.bg, y.se, y.up, y.by_, y.co, y.po, y.gr, y.tx, y.wr) y.ct = 20 * nI m + tm' k := by
    constructor
    · show (if tm' (upd y.sn y.ct (nI k) y.ct).toNatClampNeg < upd y.wh y.ct (nI tt) y.ct - 20 * upd y.fr y.ct (nI m) y.ct then (0 : Int32) else 1) = _
      rw [pk_us, pk_us, pk_us, hcl]
    · show 20 * upd y.fr y.ct (nI m) y.ct + tm' (upd y.sn y.ct (nI k) y.ct).toNatClampNeg = _
      rw [pk_us, pk_us, hcl]
  have hct : ∀ j, MdS.cts (y.sg, y.tp, y.tn, y.mn, y.mk, y.mg, y.jp, y.ct + 1, upd y.fr y.ct (nI m), upd y.wh y.ct (nI tt), upd y.sn y.ct (nI k), upd y.ca m (nI y.ct), sp', hd', ps', tm', mm', g.on, g.ba, g.bg, y.se, y.up, y.by_, y.co, y.po, y.gr, y.tx, y.wr) j = stp (y.sg, y.tp, y.tn, y.mn, y.mk, y.mg, y.jp, y.ct + 1, upd y.fr y.ct (nI m), upd y.wh y.ct (nI tt), upd y.sn y.ct (nI k), upd y.ca m (nI y.ct), sp', hd', ps', tm', mm', g.on, g.ba, g.bg, y.se, y.up, y.by_, y.co, y.po, y.gr, y.tx, y.wr) j y.ct (col y j y.ct 0 (0, 0, hd' j)) := by
    intro j
    show col (y.sg, y.tp, y.tn, y.mn, y.mk, y.mg, y.jp, y.ct + 1, upd y.fr y.ct (nI m), upd y.wh y.ct (nI tt), upd y.sn y.ct (nI k), upd y.ca m (nI y.ct), sp', hd', ps', tm', mm', g.on, g.ba, g.bg, y.se, y.up, y.by_, y.co, y.po, y.gr, y.tx, y.wr) j (y.ct + 1) 0 (0, 0, hd' j) = _
    rw [col_last, Nat.zero_add]
    congr 1
    exact col_cg j _ _ _ (fun x _ hx => ⟨hsn x (by omega), pk_un (by omega), (hpl x (by omega)).1⟩)
  have a0 : ∀ {f : Nat → Int32} {v : Int32}, rs 120 f (nI y.ct) v = upd f y.ct v := fun {f v} => rs_at hc (by decide)
  have ak : ∀ {f : Nat → Int32} {v : Int32}, rs 120 f (nI k) v = upd f k v := fun {f v} => rs_at (by omega) (by decide)
  refine Rel.mk_ h.tpc h.tpn h.tn8 h.mn h.mk h.mg h.jp h.mw h.mkr h.mkp h.mk8 h.mgr h.jpr h.sgs ?_ ?_ ?_ ?_ ?_ ?_ (rfl) (hsp2) (rfl) (rfl) (rfl) (rfl) (rfl) (rfl) (rfl) ?_ ?_ ?_ ?_ ?_ (f6) (f6d) (f7) (f8) ?_ ?_ ?_ ?_ (hrk)
  · show z.ar.ct + 1 = y.ct + 1
    rw [hzc]
  · show y.ct + 1 ≤ 120
    omega
  · show rs 120 z.ar.fr (nI z.ar.ct) (nI m) = _
    rw [hzc, h.fr, a0]
  · show rs 120 z.ar.wh (nI z.ar.ct) (nI tt) = _
    rw [hzc, h.wh, a0]
  · show rs 120 z.ar.sn (nI y.ct) (nI k) = _
    rw [h.sn, a0]
  · intro n hn
    show rs 300 z.ar.pa (nI m) (nI z.ar.ct + 1) n = if upd y.ca m (nI y.ct) n = -9 then 0 else upd y.ca m (nI y.ct) n + 1
    rw [rs_at hm (by decide), hzc]
    by_cases q : n = m
    · subst q
      rw [pk_us, pk_us, if_neg (nI_ne_neg (by omega) (by decide))]
    · rw [pk_un q, pk_un q]
      exact h.pa n hn
  · intro a ha
    have ha : a < y.ct + 1 := ha
    show ∃ m_1, m_1 < 300 ∧ upd y.fr y.ct (nI m) a = nI m_1 ∧ upd y.ca m (nI y.ct) m_1 = nI a
    by_cases q : a = y.ct
    · subst q
      exact ⟨m, hm, pk_us, pk_us⟩
    · obtain ⟨m1, b1, b2, b3⟩ := h.i1 a (by omega)
      refine ⟨m1, b1, by rw [pk_un q]; exact b2, ?_⟩
      rw [pk_un (fun c => ?_)]
      · exact b3
      · subst c
        rw [b3] at hca
        exact nI_ne_neg (by omega) (by decide) hca
  · intro n hn
    show upd y.ca m (nI y.ct) n = -9 ∨ ∃ a, a < y.ct + 1 ∧ upd y.ca m (nI y.ct) n = nI a ∧ upd y.fr y.ct (nI m) a = nI n
    by_cases q : n = m
    · subst q
      exact Or.inr ⟨y.ct, by omega, pk_us, pk_us⟩
    · rw [pk_un q]
      rcases h.i2 n hn with c | ⟨a, b1, b2, b3⟩
      · exact Or.inl c
      · exact Or.inr ⟨a, by omega, b2, by rw [pk_un (by omega)]; exact b3⟩
  · intro a ha
    have ha : a < y.ct + 1 := ha
    show ∃ t, t ≤ 30000 ∧ upd y.wh y.ct (nI tt) a = nI t
    by_cases q : a = y.ct
    · subst q
      exact ⟨tt, ht, pk_us⟩
    · rw [pk_un q]
      exact h.i3 a (by omega)
  · intro a ha
    have ha : a < y.ct + 1 := ha
    show ∃ j, j < sp' ∧ upd y.sn y.ct (nI k) a = nI j
    by_cases q : a = y.ct
    · subst q
      exact ⟨k, hk, pk_us⟩
    · rw [pk_un q]
      obtain ⟨j, b1, b2⟩ := h.i4 a (by omega)
      exact ⟨j, by omega, b2⟩
  · intro a ha
    have ha : a < y.ct + 1 := ha
    show hd' (upd y.sn y.ct (nI k) a).toNatClampNeg ≤ upd y.fr y.ct (nI m) a
    by_cases q : a = y.ct
    · subst q
      rw [pk_us, pk_us, hcl]
      exact hh
    · have b0 := h.i5 a (by omega)
      rw [pk_un q, pk_un q]
      obtain ⟨j, b1, b2⟩ := h.i4 a (by omega)
      rw [b2, nI_clamp (by omega)] at b0 ⊢
      rw [e1 j b1]
      exact b0
  · intro j hj
    have hj : j < sp' := hj
    show ∃ a, a < y.ct + 1 ∧ upd y.sn y.ct (nI k) a = nI j
    by_cases q : j = k
    · subst q
      exact ⟨y.ct, by omega, pk_us⟩
    · rcases hnew j hj with c | c
      · obtain ⟨a, b1, b2⟩ := h.i9 j c
        exact ⟨a, by omega, by rw [pk_un (by omega)]; exact b2⟩
      · exact absurd c q
  · intro c
    have c : y.ct + 1 = 0 := c
    omega
  · intro a ha
    have ha : a < y.ct + 1 := ha
    show rs 120 z.ar.pt (nI y.ct) pv a = _
    rw [a0]
    by_cases q : a = y.ct
    · subst q
      rw [pk_us, hpc.1, hpc.2]
      rcases hpv with ⟨c1, c2, c3⟩ | ⟨c1, c2, c3⟩
      · rw [if_pos c1, if_pos rfl, c3]
      · rw [if_neg c1, if_neg (by decide), c3]
    · rw [pk_un q, (hpl a (by omega)).1, (hpl a (by omega)).2]
      exact h.d1 a (by omega)
  · intro j hj
    have hj : j < sp' := hj
    obtain ⟨b1, b2, b3⟩ := hb j hj
    rw [hct j]
    show rs 120 cm0 (nI k) (rg 120 cm0 (nI k) + 1) j = _ ∧ rs 120 pl0 (nI k) (rg 120 pl0 (nI k) + b2i b) j = _ ∧ rs 120 gr0 (nI k) (imax (rg 120 gr0 (nI k)) (nI m)) j = _
    rw [ak, ak, ak, rg_at (show k < 120 by omega) (by decide), rg_at (show k < 120 by omega) (by decide), rg_at (show k < 120 by omega) (by decide)]
    have es : MdS.sn (y.sg, y.tp, y.tn, y.mn, y.mk, y.mg, y.jp, y.ct + 1, upd y.fr y.ct (nI m), upd y.wh y.ct (nI tt), upd y.sn y.ct (nI k), upd y.ca m (nI y.ct), sp', hd', ps', tm', mm', g.on, g.ba, g.bg, y.se, y.up, y.by_, y.co, y.po, y.gr, y.tx, y.wr) y.ct = nI k := pk_us
    have ef : MdS.fr (y.sg, y.tp, y.tn, y.mn, y.mk, y.mg, y.jp, y.ct + 1, upd y.fr y.ct (nI m), upd y.wh y.ct (nI tt), upd y.sn y.ct (nI k), upd y.ca m (nI y.ct), sp', hd', ps', tm', mm', g.on, g.ba, g.bg, y.se, y.up, y.by_, y.co, y.po, y.gr, y.tx, y.wr) y.ct = nI m := pk_us
    unfold stp
    rw [es, ef, hpc.1]
    by_cases q : j = k
    · subst q
      rw [pk_us, pk_us, pk_us, if_pos rfl, b1, b2, b3]
      refine ⟨rfl, ?_, ?_⟩
      · show _ = (if (if tm' j < nI tt - 20 * nI m then (0 : Int32) else 1) = 0 then _ else _)
        rcases hpv with ⟨c1, c2, c3⟩ | ⟨c1, c2, c3⟩
        · rw [if_pos c1, if_pos rfl, c2]
          rfl
        · rw [if_neg c1, if_neg (by decide), c2]
          rfl
      · show (if (col y j y.ct 0 (0, 0, hd' j)).2.2 < nI m then nI m else (col y j y.ct 0 (0, 0, hd' j)).2.2) = if nI m ≤ (col y j y.ct 0 (0, 0, hd' j)).2.2 then (col y j y.ct 0 (0, 0, hd' j)).2.2 else nI m
        by_cases c : nI m ≤ (col y j y.ct 0 (0, 0, hd' j)).2.2
        · rw [if_pos c, if_neg (fun d => nle_of d c)]
        · rw [if_neg c, if_pos (by rw [ile] at c; rw [ilt]; omega)]
    · rw [pk_un q, pk_un q, pk_un q, if_neg (fun c => q ((nI_eq (by omega) (by omega)).mp c).symm)]
      exact ⟨b1, b2, b3⟩
