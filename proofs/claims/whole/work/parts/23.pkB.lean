theorem add0 (a : Int32) : a + 0 = a := by simp
theorem rg_out {n : Nat} {f : Nat → Int32} {i : Int32} (hn : n < 2 ^ 31) (h : ¬ ∃ j, j < n ∧ i = nI j) : rg n f i = 0 := by
  unfold rg
  by_cases h1 : i < 0
  · rw [if_pos h1]
  · rw [if_neg h1]
    obtain ⟨j, hj, e⟩ := nI_of h1
    subst e
    rw [if_pos (nI_le (Nat.le_of_not_lt fun c => h ⟨j, c, rfl⟩) hj)]
theorem Rel.dlat {z : SpcS} {y : MdS} (h : Rel z y) {a : Nat} (ha : a < 120) : z.ar.dl (nI a) = y.dl a := by
  unfold ArrS.dl MdS.dl
  rw [rg_at ha (by decide), rg_at ha (by decide), h.wh, h.fr]
theorem Rel.paat {z : SpcS} {y : MdS} (h : Rel z y) {m : Nat} (hm : m < 300) : (y.ca m = -9 ∧ rg 300 z.ar.pa (nI m) - 1 = -1) ∨ ∃ a, a < y.ct ∧ y.ca m = nI a ∧ y.fr a = nI m ∧ ¬ y.ca m = -9 ∧ rg 300 z.ar.pa (nI m) - 1 = nI a := by
  have hc := h.ct120
  rw [rg_at hm (by decide), h.pa m hm]
  rcases h.i2 m hm with e | ⟨a, h1, h2, h3⟩
  · left
    rw [if_pos e]
    exact ⟨e, by decide⟩
  · right
    have h4 : ¬ y.ca m = -9 := by rw [h2]; exact nI_ne_neg (by omega) (by decide)
    refine ⟨a, h1, h2, h3, h4, ?_⟩
    rw [if_neg h4, h2, nI_1, nI_pred]
-- anew
theorem rs_zero {pa : Nat → Int32} {v : Int32} {n : Nat} (h : pa n = 0) : rs 300 pa v 0 n = 0 := by
  unfold rs
  split
  · exact h
  · split
    · exact h
    · unfold upd
      split
      · rfl
      · exact h
theorem clr_zero (fr : Nat → Int32) : ∀ (m i : Nat) (pa : Nat → Int32) (n : Nat), pa n = 0 → clr fr m i pa n = 0
  | 0, _, _, _, h => h
  | m + 1, i, pa, n, h => by
    rw [clr]
    exact clr_zero fr m (i + 1) _ n (rs_zero h)
theorem clr_hit (fr : Nat → Int32) {a n : Nat} (hn : n < 300) (ha : a < 120) (e : fr a = nI n) : ∀ (m i : Nat) (pa : Nat → Int32), i ≤ a → a < i + m → clr fr m i pa n = 0
  | 0, i, pa, h1, h2 => by omega
  | m + 1, i, pa, h1, h2 => by
    rw [clr]
    by_cases q : a = i
    · subst q
      refine clr_zero fr m (a + 1) _ n ?_
      rw [rg_at ha (by decide), e, rs_at hn (by decide), upd_at]
    · exact clr_hit fr hn ha e m (i + 1) _ (by omega) (by omega)
theorem cal_all {f : Nat → Int32} {n : Nat} (hn : n < 300) : cal 300 0 f n = -9 := cal_at 300 0 f n (Nat.zero_le n) (by omega)
theorem anew_gen {z : SpcS} {y : MdS} (h : Rel z y) (ca : Nat → Int32) (hca : ∀ n, n < 300 → ca n = -9) : Rel (z.tp, z.ar.clear, z.sp.clear, (false, z.sg.ba, 0), z.ln, z.wi, z.sh, z.mn, z.mk, z.mg, z.jp) (y.sg, y.tp, y.tn, y.mn, y.mk, y.mg, y.jp, 0, y.fr, y.wh, y.sn, ca, 0, y.hd, y.ps, y.tm, y.mm, false, y.ba, 0, y.se, y.up, y.by_, y.co, y.po, y.gr, y.tx, y.wr) := by
  have n0 : ∀ {P : Nat → Prop} (a : Nat), a < 0 → P a := fun a h => absurd h (Nat.not_lt_zero a)
  have hc := h.ct120
  have hpa : ∀ n, n < 300 → clr z.ar.fr z.ar.ct 0 z.ar.pa n = 0 := by
    intro n hn
    rcases h.i2 n hn with e | ⟨a, h1, h2, h3⟩
    · refine clr_zero _ _ _ _ _ ?_
      rw [h.pa n hn, if_pos e]
    · exact clr_hit z.ar.fr hn (show a < 120 by omega) (by rw [h.fr]; exact h3) _ 0 _ (Nat.zero_le a) (by rw [h.ct]; omega)
  refine Rel.mk_ h.tpc h.tpn h.tn8 h.mn h.mk h.mg h.jp h.mw h.mkr h.mkp h.mk8 h.mgr h.jpr h.sgs (rfl) (Nat.zero_le 120) h.fr h.wh h.sn ?_ (rfl) (Nat.le_refl 0) h.hd h.ps h.tm h.mm (rfl) h.ba (rfl) (n0) (fun n hn => Or.inl (hca n hn)) (n0) (n0) (n0) (n0) (fun j k hj => absurd hj (Nat.not_lt_zero j)) (n0) (n0) (n0) (fun _ => rfl) (n0) (n0) (n0)
  intro n hn
  show clr z.ar.fr z.ar.ct 0 z.ar.pa n = if ca n = -9 then 0 else ca n + 1
  rw [if_pos (hca n hn)]
  exact hpa n hn
theorem pk_anew (l : Launch) (E : xE) (am : Nat → Nat) {z : SpcS} {y : MdS} (hR : Rel z y) : pkI l E am y yX9_anew wsX9_anew [] (SpcS.anew z).1 (SpcS.anew z).2 := by
  have e : (SpcS.anew z).1 = (MdS.anew y).1 := by
    show nI z.ar.ct = nI y.ct
    rw [hR.ct]
  refine ⟨(MdS.anew y).2, 0, 0, by omega, by omega, e ▸ c_X9_anew l E am y, ?_⟩
  have := anew_gen hR (cal 300 0 y.ca) (fun n hn => cal_all hn)
  unfold SpcS.anew MdS.anew
  exact this
-- spike
theorem spike_rel {z : SpcS} {y : MdS} (h : Rel z y) (w : Int32) : SpcS.spike z w = MdS.spike y w := by
  unfold SpcS.spike MdS.spike
  rw [h.on, h.ba]
  by_cases q : w = 0
  · subst q
    rw [if_pos rfl, if_neg (show ¬ win 0 0 1 = 0 by decide), if_pos rfl]
  · rw [if_neg q]
    by_cases q1 : w = 1
    · subst q1
      rw [if_pos rfl, if_neg (show ¬ win 1 0 1 = 0 by decide), if_neg q]
    · rw [if_neg q1, if_pos]
      rw [iout_win]
      intro c
      obtain ⟨j, hj, e⟩ := (iout_nI (m := 1) (by decide)).mp c
      subst e
      rcases (show j = 0 ∨ j = 1 by omega) with rfl | rfl
      · exact q rfl
      · exact q1 rfl
theorem pk_spike (l : Launch) (E : xE) (am : Nat → Nat) {z : SpcS} {y : MdS} (hR : Rel z y) (a0 : Int32) : pkI l E am y yX9_spike wsX9_spike [.int a0] (SpcS.spike z a0) z :=
  ⟨y, 1, 22, by omega, by omega, (spike_rel hR a0) ▸ c_X9_spike l E am y a0, hR⟩
-- word
theorem word_rel {z : SpcS} {y : MdS} (h : Rel z y) (i : Int32) : SpcS.word z i = MdS.word y i := by
  obtain ⟨w, hw, e⟩ := h.mw
  unfold SpcS.word MdS.word
  rw [h.mn, e, mOf_nI w hw, wlg_nI w hw, ← stL_wln w hw]
  by_cases q : iout i 0 4 = 0
  · rw [if_pos q, if_neg (win_iout.mpr q)]
    obtain ⟨j, hj, ej⟩ := (iout_nI (m := 4) (by decide)).mp q
    subst ej
    have hL := stL_le w
    by_cases q2 : j < stL.getD w 0
    · rw [if_pos (nI_lt q2 (by omega)), if_neg (nI_ge q2 (by omega)), nI_51, nI_clamp (by omega), nI_clamp (by omega), h.sgs w hw j q2]
    · rw [if_neg (nI_nlt (by omega) (by omega)), if_pos (nI_le (by omega) (by omega))]
  · rw [if_neg q, if_pos (iout_win.mpr q)]
theorem pk_word (l : Launch) (E : xE) (am : Nat → Nat) {z : SpcS} {y : MdS} (hR : Rel z y) (a0 : Int32) : pkI l E am y yX9_word wsX9_word [.int a0] (SpcS.word z a0) z := by
  obtain ⟨w, hw, e⟩ := hR.mw
  exact ⟨y, 1, 22, by omega, by omega, (word_rel hR a0) ▸ c_X9_word l E am y a0 w hw e, hR⟩
-- late, loss, history
theorem cgt_cgm {z : SpcS} {y : MdS} (h : Rel z y) (v : Int32) : ∀ n i a, i + n ≤ 120 → cgt (fun i => z.ar.dl (nI i)) v n i a = cgm y.dl v n i a
  | 0, _, _, _ => rfl
  | n + 1, i, a, hi => by
    rw [cgt, cgm, h.dlat (show i < 120 by omega), cgt_cgm h v n (i + 1) _ (by omega), add0]
theorem late_rel {z : SpcS} {y : MdS} (h : Rel z y) (v : Int32) : SpcS.late z v = MdS.late y v := by
  have hc := h.ct120
  unfold SpcS.late MdS.late ArrS.da ArrS.hs MdS.old
  rw [h.ct]
  by_cases q : iout v (-10000) 40000 = 0
  · rw [if_pos q, if_neg (win_iout.mpr q), show min y.ct 32 = y.ct - (y.ct - 32) by omega, show y.ct - (y.ct - (y.ct - 32)) = y.ct - 32 by omega]
    exact cgt_cgm h v _ _ _ (by omega)
  · rw [if_neg q, if_pos (iout_win.mpr q)]
theorem loss_rel {z : SpcS} {y : MdS} (h : Rel z y) (v : Int32) : SpcS.loss z v = MdS.loss y v := by
  have hc := h.ct120
  unfold SpcS.loss MdS.loss ArrS.da
  rw [h.ct]
  by_cases q : iout v (-10000) 40000 = 0
  · rw [if_pos q, if_neg (win_iout.mpr q), Nat.sub_self]
    exact cgt_cgm h v _ _ _ (by omega)
  · rw [if_neg q, if_pos (iout_win.mpr q)]
theorem history_rel {z : SpcS} {y : MdS} (h : Rel z y) (k : Int32) : SpcS.history z k = MdS.history y k := by
  have hc := h.ct120
  unfold SpcS.history MdS.history ArrS.hs
  rw [h.ct]
  by_cases q : iout k 0 31 = 0
  · rw [if_pos q, if_neg (win_iout.mpr q)]
    obtain ⟨j, hj, e⟩ := (iout_nI (m := 31) (by decide)).mp q
    subst e
    by_cases q2 : y.ct ≤ j
    · rw [if_pos (nI_le (by omega) (by omega)), if_pos (nI_le q2 (by omega))]
    · rw [if_neg (nI_ge (by omega) (by omega)), if_neg (nI_ge (by omega) (by omega)), nI_dec (by omega), pk_sub (by omega), nI_clamp (by omega), h.dlat (by omega)]
  · rw [if_neg q, if_pos (iout_win.mpr q)]
theorem pk_late (l : Launch) (E : xE) (am : Nat → Nat) {z : SpcS} {y : MdS} (hR : Rel z y) (a0 : Int32) : pkI l E am y yX9_late wsX9_late [.int a0] (SpcS.late z a0) z :=
  ⟨y, 1, 22, by omega, by omega, (late_rel hR a0) ▸ c_X9_late l E am y a0 hR.ct120, hR⟩
theorem pk_loss (l : Launch) (E : xE) (am : Nat → Nat) {z : SpcS} {y : MdS} (hR : Rel z y) (a0 : Int32) : pkI l E am y yX9_loss wsX9_loss [.int a0] (SpcS.loss z a0) z :=
  ⟨y, 1, 22, by omega, by omega, (loss_rel hR a0) ▸ c_X9_loss l E am y a0 hR.ct120, hR⟩
theorem pk_history (l : Launch) (E : xE) (am : Nat → Nat) {z : SpcS} {y : MdS} (hR : Rel z y) (a0 : Int32) : pkI l E am y yX9_history wsX9_history [.int a0] (SpcS.history z a0) z :=
  ⟨y, 1, 22, by omega, by omega, (history_rel hR a0) ▸ c_X9_history l E am y a0 hR.ct120, hR⟩
-- ofFrame
theorem ofFrame_rel {z : SpcS} {y : MdS} (h : Rel z y) (n w : Int32) : SpcS.ofFrame z n w = MdS.ofFrame y n w := by
  have hc := h.ct120
  unfold SpcS.ofFrame MdS.ofFrame
  by_cases q : iout n 0 299 = 0
  · rw [if_neg (win_iout.mpr q)]
    obtain ⟨m, hm, e⟩ := (iout_nI (m := 299) (by decide)).mp q
    subst e
    rw [nI_clamp (by omega)]
    rcases h.paat (m := m) (by omega) with ⟨e1, e2⟩ | ⟨a, h1, h2, h3, h4, h5⟩
    · rw [if_pos e2, if_pos e1]
    · rw [h5, if_neg (nI_ne_neg (by omega) (by decide)), if_neg h4, h2, nI_clamp (by omega), rg_at (by omega) (by decide), rg_at (by omega) (by decide), rg_at (by omega) (by decide), h.dlat (by omega), h.wh, h.sn, h.d1 a h1]
      rfl
  · rw [if_pos (iout_win.mpr q), rg_out (by decide), if_pos (by decide)]
    rintro ⟨j, hj, e⟩
    exact q ((iout_nI (m := 299) (by decide)).mpr ⟨j, by omega, e⟩)
theorem pk_ofFrame (l : Launch) (E : xE) (am : Nat → Nat) {z : SpcS} {y : MdS} (hR : Rel z y) (a0 a1 : Int32) : pkI l E am y yX9_ofFrame wsX9_ofFrame [.int a0, .int a1] (SpcS.ofFrame z a0 a1) z := by
  by_cases q : win a0 0 299 = 0
  · exact ⟨y, 1, 22, by omega, by omega, (ofFrame_rel hR a0 a1) ▸ c_X9_ofFrame_out l E am y a0 a1 q, hR⟩
  · obtain ⟨m, hm, e⟩ := win_at (m := 299) (by decide) q
    subst e
    exact ⟨y, 2, 42, by omega, by omega, (ofFrame_rel hR (nI m) a1) ▸ c_X9_ofFrame_in l E am y m a1 q (by omega) hR.ct120 hR.hca hR.hsn, hR⟩
-- ofSpurt
theorem ofSpurt_rel {z : SpcS} {y : MdS} (h : Rel z y) (k w : Int32) : SpcS.ofSpurt z k w = (MdS.ofSpurt y k w).1 := by
  have hs := h.sp120
  unfold SpcS.ofSpurt MdS.ofSpurt
  rw [h.spc]
  by_cases q : iout k 0 (nI y.sp - 1) = 0
  · rw [if_pos q, if_neg (win_iout.mpr q)]
    obtain ⟨j, hj, e⟩ := (iout_sp hs).mp q
    subst e
    obtain ⟨d1, d2, d3⟩ := h.d2 j hj
    unfold SpuS.missing
    rw [rg_at (by omega) (by decide), rg_at (by omega) (by decide), rg_at (by omega) (by decide), rg_at (by omega) (by decide), rg_at (by omega) (by decide), rg_at (by omega) (by decide), rg_at (by omega) (by decide), h.hd, h.ps, h.tm, h.mm, d1, d2, d3]
    show _ = MdS.ofS y (nI j).toNatClampNeg w
    rw [nI_clamp (by omega)]
    rfl
  · rw [if_neg q, if_pos (iout_win.mpr q)]
theorem pk_ofSpurt (l : Launch) (E : xE) (am : Nat → Nat) {z : SpcS} {y : MdS} (hR : Rel z y) (a0 a1 : Int32) : pkI l E am y yX9_ofSpurt wsX9_ofSpurt [.int a0, .int a1] (SpcS.ofSpurt z a0 a1) z := by
  have hs := hR.sp120
  have e := ofSpurt_rel hR a0 a1
  by_cases q : win a0 0 (nI y.sp - 1) = 0
  · refine ⟨(MdS.ofSpurt y a0 a1).2, 2, 43, by omega, by omega, e ▸ c_X9_ofSpurt_out l E am y a0 a1 q, ?_⟩
    unfold MdS.ofSpurt
    rw [if_pos q]
    exact hR
  · obtain ⟨j, hj, ej⟩ := (iout_sp hs).mp (win_iout.mp q)
    subst ej
    refine ⟨(MdS.ofSpurt y (nI j) a1).2, 4, 85, by omega, by omega, e ▸ c_X9_ofSpurt_in l E am y j a1 q (by omega) hR.ct120 hR.hsn, ?_⟩
    unfold MdS.ofSpurt
    rw [if_neg q]
    exact hR.core (cnts_core y _) rfl rfl rfl rfl rfl rfl rfl rfl
-- waiting, playing
theorem Rel.dlI {z : SpcS} {y : MdS} (h : Rel z y) {a : Nat} (ha : a < y.ct) : ∃ m t, m < 300 ∧ t ≤ 30000 ∧ y.fr a = nI m ∧ y.wh a = nI t ∧ (y.dl a).toInt = (t : Int) - 20 * m := by
  obtain ⟨m, hm, e1, _⟩ := h.i1 a ha
  obtain ⟨t, ht, e2⟩ := h.i3 a ha
  refine ⟨m, t, hm, ht, e1, e2, ?_⟩
  unfold MdS.dl
  rw [e1, e2, show (20 : Int32) = nI 20 from rfl, pk_mul, pk_sub_toInt (by omega) (by omega)]
  omega
theorem Rel.patI {z : SpcS} {y : MdS} (h : Rel z y) {a : Nat} (ha : a < y.ct) (hp : ¬ y.pld a = 0) : 0 ≤ (y.pat a).toInt ∧ (y.pat a).toInt ≤ 11005980 := by
  obtain ⟨m, t, hm, ht, e1, e2, e3⟩ := h.dlI ha
  obtain ⟨k, hk, e4⟩ := h.i4 a ha
  have hs := h.sp120
  have b := h.i7 k hk
  unfold MdS.pld at hp
  unfold MdS.pat
  rw [e4, nI_clamp (by omega)] at hp
  rw [e4, nI_clamp (by omega), e1, show (20 : Int32) = nI 20 from rfl, pk_mul]
  have e5 : (nI (20 * m)).toInt = ((20 * m : Nat) : Int) := nI_toInt (by omega)
  by_cases c : y.tm k < y.dl a
  · exact absurd (if_pos c) hp
  · rw [ilt] at c
    rw [ia (by omega) (by omega)]
    omega
theorem wail_wai {z : SpcS} {y : MdS} (h : Rel z y) {t : Int32} (ht : ¬ t < 0) : ∀ n i a, i + n ≤ y.ct → wail z.ar t n i a = wai y t n i a
  | 0, _, _, _ => rfl
  | n + 1, i, a, hi => by
    have hc := h.ct120
    rw [wail, wai, wail_wai h ht n (i + 1) _ (by omega), rg_at (by omega) (by decide), rg_at (by omega) (by decide), h.wh, h.d1 i (by omega), add0]
    by_cases q : y.pld i = 0
    · rw [if_pos q, if_pos q, if_pos (show (-9 : Int32) ≤ t by rw [ile, show (-9 : Int32).toInt = -9 by decide]; rw [ilt, show (0 : Int32).toInt = 0 by decide] at ht; omega)]
    · rw [if_neg q, if_neg q]
theorem waiting_rel {z : SpcS} {y : MdS} (h : Rel z y) (t : Int32) : SpcS.waiting z t = MdS.waiting y t := by
  unfold SpcS.waiting MdS.waiting
  by_cases q : iout t 0 100000 = 0
  · rw [if_pos q, if_neg (win_iout.mpr q), h.ct]
    exact wail_wai h (iout_iff.mp q).1 _ _ _ (by omega)
  · rw [if_neg q, if_pos (iout_win.mpr q)]
theorem plal_pla {z : SpcS} {y : MdS} (h : Rel z y) {t : Int32} (h0 : 0 ≤ t.toInt) (h1 : t.toInt ≤ 100000) : ∀ n i, i + n ≤ y.ct → plal z.ar t n i = pla y t n i
  | 0, _, _ => rfl
  | n + 1, i, hi => by
    have hc := h.ct120
    rw [plal, pla, plal_pla h h0 h1 n (i + 1) (by omega), rg_at (by omega) (by decide), rg_at (by omega) (by decide), h.fr, h.d1 i (by omega)]
    by_cases q : y.pld i = 0
    · rw [if_pos q, if_pos q, if_pos rfl]
    · rw [if_neg q, if_neg q]
      have b := h.patI (a := i) (by omega) q
      rw [if_neg (show ¬ y.pat i = -9 by rw [ine, show (-9 : Int32).toInt = -9 by decide]; omega)]
      by_cases q2 : t < y.pat i
      · rw [if_pos q2, if_pos q2]
      · rw [if_neg q2, if_neg q2]
        have e20 : (20 : Int32).toInt = 20 := by decide
        have e1 : (20 ≤ t - y.pat i) ↔ (y.pat i ≤ t - 20) := by
          rw [ile, ile, is_ (by omega) (by omega), is_ (by omega) (by omega)]
          omega
        by_cases q3 : y.pat i ≤ t - 20
        · rw [if_pos q3, if_pos (e1.mpr q3)]
        · rw [if_neg q3, if_neg (fun c => q3 (e1.mp c))]
theorem playing_rel {z : SpcS} {y : MdS} (h : Rel z y) (t : Int32) : SpcS.playing z t = MdS.playing y t := by
  unfold SpcS.playing MdS.playing
  by_cases q : iout t 0 100000 = 0
  · rw [if_pos q, if_neg (win_iout.mpr q), h.ct]
    have b := iout_toInt.mp q
    exact plal_pla h b.1 b.2 _ _ (by omega)
  · rw [if_neg q, if_pos (iout_win.mpr q)]
theorem pk_waiting (l : Launch) (E : xE) (am : Nat → Nat) {z : SpcS} {y : MdS} (hR : Rel z y) (a0 : Int32) : pkI l E am y yX9_waiting wsX9_waiting [.int a0] (SpcS.waiting z a0) z :=
  ⟨y, 2, 42, by omega, by omega, (waiting_rel hR a0) ▸ c_X9_waiting l E am y a0 hR.ct120 hR.hsn, hR⟩
theorem pk_playing (l : Launch) (E : xE) (am : Nat → Nat) {z : SpcS} {y : MdS} (hR : Rel z y) (a0 : Int32) : pkI l E am y yX9_playing wsX9_playing [.int a0] (SpcS.playing z a0) z :=
  ⟨y, 2, 42, by omega, by omega, (playing_rel hR a0) ▸ c_X9_playing l E am y a0 hR.ct120 hR.hsn, hR⟩
-- many
theorem mal_sum {z : SpcS} {y : MdS} (h : Rel z y) : ∀ n k p q, k + n ≤ y.sp → mal y n k p q = (sumr (fun i => rg 120 z.sp.pl (nI i)) n k p, sumr (fun i => z.sp.missing (nI i)) n k q)
  | 0, _, _, _, _ => rfl
  | n + 1, k, p, q, hk => by
    have hs := h.sp120
    obtain ⟨d1, d2, d3⟩ := h.d2 k (by omega)
    rw [mal, mal_sum h n (k + 1) _ _ (by omega), sumr, sumr]
    have e1 : rg 120 z.sp.pl (nI k) = (y.cts k).2.1 := by rw [rg_at (by omega) (by decide), d2]
    have e2 : z.sp.missing (nI k) = y.miss k := by
      unfold SpuS.missing MdS.miss
      rw [rg_at (by omega) (by decide), rg_at (by omega) (by decide), rg_at (by omega) (by decide), d1, d3, h.hd]
    rw [e1, e2]
theorem manR_core {y y' : MdS} (hy : y'.core = y.core) (w : Int32) (s : Int32 × Int32) : y'.manR w s = y.manR w s := by
  have e1 := core_ct hy
  have e2 := core_sp hy
  have e3 : y'.tn = y.tn := congrArg (fun c : CorS => c.2.2.1) hy
  have e4 : y'.bg = y.bg := congrArg (fun c : CorS => c.2.2.2.2.2.2.2.2.2.2.2.2.2.2.2.2.2.2.2) hy
  unfold MdS.manR MdS.old
  rw [e1, e2, e3, e4]
theorem many_rel {z : SpcS} {y : MdS} (h : Rel z y) (w : Int32) : SpcS.many z w = MdS.manyA y w := by
  have hc := h.ct120
  unfold MdS.manyA
  rw [manR_core (mas_core _ _ _), mal_sum h _ _ _ _ (by omega)]
  unfold SpcS.many MdS.manR SpuS.playedAll SpuS.missingAll ArrS.hs MdS.old
  rw [h.ct, h.spc, h.tpn, h.bg, pk_sub (show y.ct - 32 ≤ y.ct by omega), show y.ct - (y.ct - 32) = min y.ct 32 by omega]
theorem pk_many (l : Launch) (E : xE) (am : Nat → Nat) {z : SpcS} {y : MdS} (hR : Rel z y) (a0 : Int32) : pkI l E am y yX9_many wsX9_many [.int a0] (SpcS.many z a0) z :=
  ⟨mas y.sp 0 y, 4, 85, by omega, by omega, (many_rel hR a0) ▸ c_X9_many l E am y a0 hR.ct120 hR.sp120 hR.hsn, hR.core (mas_core _ _ _) rfl rfl rfl rfl rfl rfl rfl rfl⟩
