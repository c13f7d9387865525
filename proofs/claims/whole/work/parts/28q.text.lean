/-! A spurt's text: the class's sheet against the reference's row. -/
def ShR (s : SheS) (y : MdS) : Prop := s.sz = y.wr ∧ ∀ j, j < y.wr → s.cs j = y.tx j
theorem ShR.put {s : SheS} {y : MdS} (h : ShR s y) (hw : y.wr < 32) (x : Int32) : ShR (s.put x) (y.wrt x) := by
  obtain ⟨h1, h2⟩ := h
  unfold SheS.put
  rw [show (32 : Int32) = nI 32 from rfl, if_neg (nI_ge (by omega) (by decide)), rs_at (by omega) (by decide)]
  refine ⟨?_, ?_⟩
  · show s.sz + 1 = y.wr + 1
    rw [h1]
  · intro j hj
    have hj : j < y.wr + 1 := hj
    show upd s.cs s.sz x j = upd y.tx y.wr x j
    rw [h1]
    by_cases q : j = y.wr
    · rw [q, pk_us, pk_us]
    · rw [pk_un q, pk_un q]
      exact h2 j (by omega)
theorem ShR.cnts {s : SheS} {y : MdS} {k : Nat} (h : ShR s y) : ShR s (y.cnts k) := ⟨h.1, h.2⟩
theorem unt_nI : ∀ n, n < 10 → unt (n + 1) = nI (10 ^ n) := by decide
theorem ten10 : ∀ n, n < 10 → 10 ^ n < 2 ^ 31 := by decide
theorem ten10p : ∀ n, n < 10 → 0 < 10 ^ n := by decide
theorem neg_dv {a d : Nat} (ha : a < 2 ^ 31) (hd : d < 2 ^ 31) : (-nI a / nI d).toInt = -((a / d : Nat) : Int) := by
  have := Nat.div_le_self a d
  rw [Int32.toInt_div, sb_negT ha, nI_toInt hd, Int.neg_tdiv, ← Int.ofNat_tdiv]
  generalize a / d = q at this ⊢
  exact Int.bmod_eq_of_le (by omega) (by omega)
theorem fig_nI {L n : Nat} (hL : L < 10 ^ 8) (hn : n < 10) : fig (-nI L) (n + 1) = nI (L / 10 ^ n % 10) := by
  unfold fig
  rw [unt_nI n hn]
  have t := ten10 n hn
  have l := Nat.div_le_self L (10 ^ n)
  have e1 : (-nI L / nI (10 ^ n)).toInt = -((L / 10 ^ n : Nat) : Int) := neg_dv (by omega) t
  generalize L / 10 ^ n = q at e1 l ⊢
  have e2 : -nI L / nI (10 ^ n) = -nI q := by rw [ine, e1, sb_negT (by omega)]
  rw [e2]
  have e3 : (-nI q / 10).toInt = -((q / 10 : Nat) : Int) := by
    have := neg_dv (a := q) (d := 10) (by omega) (by decide)
    rw [show nI 10 = (10 : Int32) from rfl] at this
    exact this
  have e10 : (10 : Int32).toInt = 10 := by decide
  have e4 : (-nI q / 10 * 10).toInt = -((q / 10 : Nat) : Int) * 10 := by rw [im (by rw [e3, e10]; omega) (by rw [e3, e10]; omega), e3, e10]
  have e5 : (-nI q).toInt = -(q : Int) := sb_negT (by omega)
  have e6 : (-nI q - -nI q / 10 * 10).toInt = -(q : Int) - -((q / 10 : Nat) : Int) * 10 := by rw [is_ (by rw [e4, e5]; omega) (by rw [e4, e5]; omega), e4, e5]
  rw [ine, ing (by rw [e6]; omega), e6, nI_toInt (by omega)]
  omega
theorem pnl_t {L : Nat} (hL : L < 10 ^ 8) : ∀ n s y, n ≤ 10 → ShR s y → y.wr + n ≤ 32 → ShR (pnl (-nI L) n true s) (wnl L n y)
  | 0, s, y, _, h, _ => h
  | n + 1, s, y, hn, h, hw => by
    rw [pnl, if_neg (show ¬ b2i true = 0 by decide), fig_nI hL (by omega), wnl]
    exact pnl_t hL n _ _ (by omega) (h.put (by omega) _) (by rw [wrt_wr]; omega)
theorem dgs_ok {L : Nat} (hL : L < 10 ^ 8) : ∀ n j, j + n = 8 → (∀ i, i < j → 10 ≤ L / 10 ^ i) → L / 10 ^ dgs L n j < 10 ∧ dgs L n j ≤ 8 ∧ ∀ i, i < dgs L n j → 10 ≤ L / 10 ^ i
  | 0, j, hj, h => by
    have e : j = 8 := by omega
    subst e
    rw [dgs]
    refine ⟨?_, Nat.le_refl _, h⟩
    rw [Nat.div_eq_of_lt hL]
    decide
  | n + 1, j, hj, h => by
    rw [dgs]
    by_cases q : L / 10 ^ j < 10
    · rw [if_pos q]
      exact ⟨q, by omega, h⟩
    · rw [if_neg q]
      refine dgs_ok hL n (j + 1) (by omega) (fun i hi => ?_)
      rcases (show i < j ∨ i = j by omega) with c | c
      · exact h i c
      · subst c
        omega
theorem pnl_skip {L d : Nat} (hL : L < 10 ^ 8) (hd : ∀ j, d < j → j < 10 → L / 10 ^ j = 0) (s : SheS) : ∀ n, d + n + 1 ≤ 10 → pnl (-nI L) (d + n + 1) false s = pnl (-nI L) (d + 1) false s
  | 0, _ => rfl
  | n + 1, h => by
    have e : pnl (-nI L) (d + (n + 1) + 1) false s = pnl (-nI L) (d + n + 1) false s := by
      show pnl (-nI L) (d + n + 1 + 1) false s = _
      have hne : ¬ unt (d + n + 1 + 1) = 1 := by
        rw [unt_nI _ (by omega), show (1 : Int32) = nI 1 from rfl, nI_eq (ten10 _ (by omega)) (by decide), Nat.pow_succ]
        have := ten10p (d + n) (by omega)
        omega
      rw [pnl, if_pos (show b2i false = 0 from rfl), fig_nI hL (by omega), hd (d + n + 1) (by omega) (by omega), if_pos (show nI (0 % 10) = 0 by decide), if_neg hne]
    rw [e]
    exact pnl_skip hL hd s n (by omega)
theorem pnl_num {L : Nat} (hL : L < 10 ^ 8) {s : SheS} {y : MdS} (h : ShR s y) (hw : y.wr + 10 ≤ 32) : ShR (pnl (-nI L) 10 false s) (y.num L) := by
  obtain ⟨d1, d2, d3⟩ := dgs_ok hL 8 0 (by omega) (fun i hi => by omega)
  unfold MdS.num
  generalize dgs L 8 0 = d at d1 d2 d3
  have hz : ∀ j, d < j → j < 10 → L / 10 ^ j = 0 := by
    intro j hj _
    rw [show j = d + 1 + (j - d - 1) by omega, Nat.pow_add, ← Nat.div_div_eq_div_mul, Nat.pow_succ, ← Nat.div_div_eq_div_mul, Nat.div_eq_of_lt d1, Nat.zero_div]
  have e := pnl_skip hL hz s (9 - d) (by omega)
  rw [show d + (9 - d) + 1 = 10 by omega] at e
  have e2 : pnl (-nI L) (d + 1) false s = pnl (-nI L) d true (s.put (48 + fig (-nI L) (d + 1))) := by
    rw [pnl, if_pos (show b2i false = 0 from rfl)]
    by_cases q : fig (-nI L) (d + 1) = 0
    · rw [if_pos q]
      have d0 : d = 0 := by
        rcases Nat.eq_zero_or_pos d with c | c
        · exact c
        · exfalso
          rw [fig_nI hL (by omega), show (0 : Int32) = nI 0 from rfl, nI_eq (by omega) (by omega)] at q
          have g := d3 (d - 1) (by omega)
          have g2 : L / 10 ^ d = L / 10 ^ (d - 1) / 10 := by
            rw [Nat.div_div_eq_div_mul, ← Nat.pow_succ, show (d - 1).succ = d by omega]
          omega
      subst d0
      rw [if_pos (show unt (0 + 1) = 1 from rfl)]
    · rw [if_neg q]
  rw [e, e2, fig_nI hL (by omega), wnl]
  exact pnl_t hL d _ _ (by omega) (h.put (by omega) _) (by rw [wrt_wr]; omega)
theorem wwl_rel {z : SpcS} {y0 : MdS} (hR : Rel z y0) {w : Nat} (hw : w < 5) : ∀ n i s y, y.core = y0.core → i + n ≤ stL.getD w 0 → ShR s y → y.wr + n ≤ 32 → ShR (pwl w n i s) (wwl w n i y)
  | 0, i, s, y, _, _, h, _ => h
  | n + 1, i, s, y, hc, hi, h, hb => by
    rw [pwl, wwl, core_sg hc, hR.sgs w hw i (by omega)]
    exact wwl_rel hR hw n (i + 1) _ _ (by rw [wrt_core]; exact hc) (by omega) (h.put (by omega) _) (by rw [wrt_wr]; omega)
theorem wfl_lo : ∀ n i y j, j < y.wr → (wfl n i y).tx j = y.tx j
  | 0, _, _, _, _ => rfl
  | n + 1, i, y, j, h => by
    rw [wfl, wfl_lo n (i + 1) _ j (by rw [wrt_wr]; omega)]
    show upd y.tx y.wr _ j = _
    rw [pk_un (by omega)]
theorem sgn_core {y z : MdS} (h : y.core = z.core) (n : Nat) : y.sgn n = z.sgn n := by
  unfold MdS.sgn
  rw [core_ca h, pld_core h]
theorem wfl_hi {y0 : MdS} : ∀ n i y x, y.core = y0.core → x < n → (wfl n i y).tx (y.wr + x) = y0.sgn (i + x)
  | 0, _, _, _, _, h => by omega
  | n + 1, i, y, x, hc, h => by
    rw [wfl]
    rcases Nat.eq_zero_or_pos x with q | q
    · subst q
      have w := wfl_lo n (i + 1) (y.wrt (y.sgn i)) y.wr (Nat.lt_succ_self _)
      have u : (y.wrt (y.sgn i)).tx y.wr = y.sgn i := pk_us
      exact w.trans (u.trans (sgn_core hc i))
    · have hc' : (y.wrt (y.sgn i)).core = y0.core := (wrt_core y (y.sgn i)).trans hc
      have w := wfl_hi (y0 := y0) n (i + 1) (y.wrt (y.sgn i)) (x - 1) hc' (by omega)
      have e1 : (y.wrt (y.sgn i)).wr + (x - 1) = y.wr + x := by rw [wrt_wr]; omega
      rw [e1, show i + 1 + (x - 1) = i + x by omega] at w
      exact w
theorem sign_rel {z : SpcS} {y : MdS} (h : Rel z y) {n : Nat} (hn : n < 300) : z.sign (nI n) = y.sgn n := by
  have hc := h.ct120
  unfold SpcS.sign MdS.sgn
  rcases h.paat hn with ⟨e1, e2⟩ | ⟨a, h1, h2, h3, h4, h5⟩
  · rw [if_pos e2, if_pos e1]
  · rw [h5, if_neg (nI_ne_neg (by omega) (by decide)), if_neg h4, h2, nI_clamp (by omega), rg_at (by omega) (by decide), h.d1 a h1]
    by_cases q : y.pld a = 0
    · rw [if_pos q, if_pos rfl, if_pos q]
    · have b := h.patI h1 q
      rw [if_neg q, if_neg (show ¬ y.pat a = -9 by rw [ine, show (-9 : Int32).toInt = -9 by decide]; omega), if_neg q]
/-- the sheet against the text as far as the frames' signs -/
theorem sheet_rel {z : SpcS} {y : MdS} (h : Rel z y) {k m w L : Nat} {ng : Bool} (hk : k < y.sp) (hm : m < 300) (eh : y.hd k = nI m) (hw : w < 5) (ew : y.mm k = nI w) (hL : L < 10 ^ 8) (et : y.tm k = if ng = true then -nI L else nI L) (h0 : ng = true → 0 < L) : ShR (z.sheet (nI k)) ((y.txt1 m w).txt2 k ng L) := by
  have hs := h.sp120
  unfold SpcS.sheet
  rw [rg_at (by omega) (by decide), rg_at (by omega) (by decide), rg_at (by omega) (by decide), h.hd, h.mm, h.tm, eh, ew, mOf_nI w hw]
  have s0 : ShR (z.sh.cs, 0) y.wr0 := ⟨rfl, fun j hj => absurd hj (by show ¬ j < 0; omega)⟩
  have s1 := s0.put (by show 0 < 32; omega) 83
  have n1 : SheS.number (SheS.put (z.sh.cs, 0) 83) (nI m) = pnl (-nI m) 10 false (SheS.put (z.sh.cs, 0) 83) := by
    unfold SheS.number
    rw [if_pos (show 0 ≤ nI m by rw [ile, nI_toInt (by omega)]; show (0 : Int) ≤ _; omega)]
  have s2 := pnl_num (L := m) (by omega) s1 (by show 1 + 10 ≤ 32; omega)
  rw [n1]
  have b2 : ((y.wr0.wrt 83).num m).wr ≤ 10 := num_le (y.wr0.wrt 83) m
  have s3 := s2.put (by omega) 32
  have c3 : (((y.wr0.wrt 83).num m).wrt 32).core = y.core := by rw [wrt_core, num_core, wrt_core]; rfl
  have b3 : (((y.wr0.wrt 83).num m).wrt 32).wr ≤ 11 := by rw [wrt_wr]; omega
  have hl := stL_wln w hw
  have w5 := wln_le w
  have s4 := wwl_rel h hw (wln w) 0 _ _ c3 (by omega) s3 (by omega)
  have c4 : (wwl w (wln w) 0 (((y.wr0.wrt 83).num m).wrt 32)).core = y.core := by rw [wwl_core, c3]
  have b4 : (wwl w (wln w) 0 (((y.wr0.wrt 83).num m).wrt 32)).wr ≤ 16 := by rw [wwl_wr]; omega
  have s5 := s4.put (by omega) 32
  have b5 : ((wwl w (wln w) 0 (((y.wr0.wrt 83).num m).wrt 32)).wrt 32).wr ≤ 17 := by rw [wrt_wr]; omega
  have s6 := s5.put (by omega) 80
  have b6 : (y.txt1 m w).wr ≤ 18 := txt1_le y m w
  have s6 : ShR _ (y.txt1 m w) := s6
  unfold SheS.word
  rw [hl]
  have s7 : ∀ s, ShR s (y.txt1 m w) → ShR (SheS.number s (y.tm k)) ((y.txt1 m w).number ng L) := by
    intro s hs
    cases ng with
    | true =>
      have lp := h0 rfl
      have e2 : SheS.number s (-nI L) = pnl (-nI L) 10 false (s.put 45) := by
        unfold SheS.number
        rw [if_neg (nneg (by omega) lp)]
      rw [et.trans (if_pos rfl), e2, show (y.txt1 m w).number true L = ((y.txt1 m w).wrt 45).num L from if_pos rfl]
      exact pnl_num hL (hs.put (by omega) 45) (by rw [wrt_wr]; omega)
    | false =>
      have e2 : SheS.number s (nI L) = pnl (-nI L) 10 false s := by
        unfold SheS.number
        rw [if_pos (show 0 ≤ nI L by rw [ile, nI_toInt (by omega)]; show (0 : Int) ≤ _; omega)]
      rw [et.trans (if_neg (by decide)), e2, show (y.txt1 m w).number false L = (y.txt1 m w).num L from if_neg (by decide)]
      exact pnl_num hL hs (by omega)
  have s8 := s7 _ s6
  have b8 := number_le (y.txt1 m w) ng L
  have s9 := s8.put (by omega) 32
  unfold MdS.txt2
  exact ShR.cnts s9
theorem text_rel {z : SpcS} {y : MdS} (h : Rel z y) {k m w L g : Nat} {ng : Bool} (hk : k < y.sp) (hm : m < 300) (eh : y.hd k = nI m) (hw : w < 5) (ew : y.mm k = nI w) (hL : L < 10 ^ 8) (et : y.tm k = if ng = true then -nI L else nI L) (h0 : ng = true → 0 < L) (eg : (y.cts k).2.2 = nI g) (hg : g < 300) (hmg : m ≤ g) (i : Int32) : (SpcS.text z (nI k) i).1 = MdS.txtA y (MdS.wsp y k m w ng L g) i ∧ Rel (SpcS.text z (nI k) i).2 (MdS.txtZ y (MdS.wsp y k m w ng L g) i) := by
  have hs := h.sp120
  have S := sheet_rel h hk hm eh hw ew hL et h0
  have b1 := txt2_le (y.txt1 m w) k ng L
  have b2 := txt1_le y m w
  have hc : ((y.txt1 m w).txt2 k ng L).core = y.core := by rw [txt2_core, txt1_core]
  have hwr : (MdS.wsp y k m w ng L g).wr = ((y.txt1 m w).txt2 k ng L).wr + (g + 1 - m) := wfl_wr _ _ _
  have hlo : ∀ j, j < ((y.txt1 m w).txt2 k ng L).wr → (MdS.wsp y k m w ng L g).tx j = ((y.txt1 m w).txt2 k ng L).tx j := fun j hj => wfl_lo _ _ _ j hj
  have hhi : ∀ x, x < g + 1 - m → (MdS.wsp y k m w ng L g).tx (((y.txt1 m w).txt2 k ng L).wr + x) = y.sgn (m + x) := fun x hx => wfl_hi _ _ _ x hc hx
  have hco := wsp_core y k m w ng L g
  have hW : ((y.txt1 m w).txt2 k ng L).wr ≤ 29 := by
    generalize ((y.txt1 m w).txt2 k ng L).wr = q1 at b1 ⊢
    generalize (y.txt1 m w).wr = q2 at b1 b2
    omega
  have rop : Rel (z.opening (nI k)) (MdS.wsp y k m w ng L g) := h.core hco rfl rfl rfl rfl rfl rfl rfl rfl
  have hfr : z.frames (nI k) = nI (g + 1 - m) := by
    unfold SpcS.frames
    rw [rg_at (by omega) (by decide), rg_at (by omega) (by decide), (h.d2 k hk).2.2, h.hd, eg, eh, pk_sub hmg, nI_1]
    congr 1
    omega
  have hhd : rg 120 z.sp.hd (nI k) = nI m := by rw [rg_at (by omega) (by decide), h.hd, eh]
  unfold SpcS.text MdS.txtA MdS.txtZ
  rw [h.spc, if_pos ((iout_sp hs).mpr ⟨k, hk, rfl⟩), hfr, hhd]
  generalize MdS.wsp y k m w ng L g = Y at hwr hlo hhi rop ⊢
  obtain ⟨S1, S2⟩ := S
  generalize ((y.txt1 m w).txt2 k ng L).wr = W at S1 S2 hwr hlo hhi hW
  generalize ((y.txt1 m w).txt2 k ng L).tx = T at S2 hlo
  generalize z.sheet (nI k) = s at S1 S2 ⊢
  by_cases q : iout i (-1) 399 = 0
  · rw [if_pos q, if_neg (win_iout.mpr q), if_neg (win_iout.mpr q)]
    rw [iout_toInt, show (-1 : Int32).toInt = -1 by decide, show (399 : Int32).toInt = 399 by decide] at q
    unfold MdS.txr
    by_cases qm : i = -1
    · rw [if_pos qm, if_neg (show ¬ 0 ≤ i by rw [qm]; decide), hwr, S1, nI_add]
      exact ⟨rfl, rop⟩
    · rw [if_neg qm]
      rw [ine, show (-1 : Int32).toInt = -1 by decide] at qm
      obtain ⟨j, hj, ej⟩ : ∃ j, j ≤ 399 ∧ i = nI j := ⟨i.toInt.toNat, by omega, by rw [ine, nI_toInt (by omega)]; omega⟩
      subst ej
      rw [if_pos (show 0 ≤ nI j by rw [ile, nI_toInt (by omega)]; show (0 : Int) ≤ _; omega), hwr, S1, nI_clamp (by omega)]
      rcases Nat.lt_or_ge j W with c | c
      · rw [if_neg (nI_ge c (by omega)), if_neg (nI_ge (by omega) (by omega)), rg_at (by omega) (by decide), S2 j c, hlo j c]
        exact ⟨rfl, rop⟩
      · rw [if_pos (nI_le c (by omega)), pk_sub c]
        rcases Nat.lt_or_ge (j - W) (g + 1 - m) with c2 | c2
        · rw [if_neg (nI_ge c2 (by omega)), if_neg (nI_ge (by omega) (by omega)), nI_add, sign_rel h (by omega), ← hhi (j - W) c2, show W + (j - W) = j by omega]
          exact ⟨rfl, rop⟩
        · rw [if_pos (nI_le c2 (by omega)), if_pos (nI_le (by omega) (by omega))]
          exact ⟨rfl, rop⟩
  · rw [if_neg q, if_pos (iout_win.mpr q), if_pos (iout_win.mpr q)]
    exact ⟨rfl, h⟩
theorem pk_text (l : Launch) (E : xE) (am : Nat → Nat) {z : SpcS} {y : MdS} (hR : Rel z y) (a0 : Int32) (a1 : Int32) : pkI l E am y yX9_text wsX9_text [.int a0, .int a1] (SpcS.text z a0 a1).1 (SpcS.text z a0 a1).2 := by
  have hs := hR.sp120
  by_cases q : win a0 0 (nI y.sp - 1) = 0
  · have e : SpcS.text z a0 a1 = (-1, z) := by
      unfold SpcS.text
      rw [hR.spc, if_neg (iout_win.mp q)]
    rw [e]
    exact ⟨y, 2, 43, by omega, by omega, c_X9_text_out l E am y a0 a1 q, hR⟩
  · obtain ⟨k, hk, e⟩ := (iout_sp hs).mp (win_iout.mp q)
    subst e
    obtain ⟨m, p, hm, hp, eh, ep⟩ := hR.i6 k hk
    obtain ⟨w, hw, ew⟩ := hR.i8 k hk
    have ht := hR.i7 k hk
    obtain ⟨g, hg, hmg, eg⟩ : ∃ g, g < 300 ∧ m ≤ g ∧ (y.cts k).2.2 = nI g := by
      have ge := col_ge y k y.ct 0 (0, 0, y.hd k)
      rcases col_or y k y.ct 0 (0, 0, y.hd k) with c | ⟨x, _, x2, _, x4⟩
      · exact ⟨m, hm, Nat.le_refl _, by rw [← eh]; exact c⟩
      · obtain ⟨f, f1, f2⟩ := hR.hfr x (by omega)
        have x5 : (y.cts k).2.2 = nI f := by rw [← f2]; exact x4
        refine ⟨f, f1, ?_, x5⟩
        have ge : y.hd k ≤ (y.cts k).2.2 := ge
        rw [x5, eh, ile, nI_toInt (by omega), nI_toInt (by omega)] at ge
        omega
    by_cases c : 0 ≤ (y.tm k).toInt
    · have et : y.tm k = nI (y.tm k).toInt.toNat := by rw [ine, nI_toInt (by omega)]; omega
      have r := text_rel hR hk hm eh hw ew (L := (y.tm k).toInt.toNat) (ng := false) (by omega) (by rw [if_neg (by decide)]; exact et) (fun c => by cases c) eg hg hmg a1
      exact ⟨_, 4, 86, by omega, by omega, r.1 ▸ c_X9_text_P l E am y k a1 m w (y.tm k).toInt.toNat g (by omega) hR.ct120 hR.hsn hR.hca hm eh hw ew (by omega) et eg hg hmg q, r.2⟩
    · have et : y.tm k = -nI (-(y.tm k).toInt).toNat := by rw [ine, sb_negT (by omega)]; omega
      have r := text_rel hR hk hm eh hw ew (L := (-(y.tm k).toInt).toNat) (ng := true) (by omega) (by rw [if_pos rfl]; exact et) (fun _ => by omega) eg hg hmg a1
      exact ⟨_, 4, 86, by omega, by omega, r.1 ▸ c_X9_text_M l E am y k a1 m w (-(y.tm k).toInt).toNat g (by omega) hR.ct120 hR.hsn hR.hca hm eh hw ew (by omega) et eg hg hmg (by omega) q, r.2⟩
