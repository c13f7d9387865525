/-! The reference's core: all that later answers rest on; the rest is written anew by each call that reads it. -/
abbrev CorS : Type := (Nat → Int32) × (Nat → Int32) × Nat × Int32 × Int32 × Int32 × Int32 × Nat × (Nat → Int32) × (Nat → Int32) × (Nat → Int32) × (Nat → Int32) × Nat × (Nat → Int32) × (Nat → Int32) × (Nat → Int32) × (Nat → Int32) × Bool × Int32 × Int32
def MdS.core (z : MdS) : CorS := (z.sg, z.tp, z.tn, z.mn, z.mk, z.mg, z.jp, z.ct, z.fr, z.wh, z.sn, z.ca, z.sp, z.hd, z.ps, z.tm, z.mm, z.on, z.ba, z.bg)
section CORE
variable {y z : MdS}
theorem core_sg (h : y.core = z.core) : y.sg = z.sg := congrArg (fun c : CorS => c.1) h
theorem core_ct (h : y.core = z.core) : y.ct = z.ct := congrArg (fun c : CorS => c.2.2.2.2.2.2.2.1) h
theorem core_fr (h : y.core = z.core) : y.fr = z.fr := congrArg (fun c : CorS => c.2.2.2.2.2.2.2.2.1) h
theorem core_wh (h : y.core = z.core) : y.wh = z.wh := congrArg (fun c : CorS => c.2.2.2.2.2.2.2.2.2.1) h
theorem core_sn (h : y.core = z.core) : y.sn = z.sn := congrArg (fun c : CorS => c.2.2.2.2.2.2.2.2.2.2.1) h
theorem core_ca (h : y.core = z.core) : y.ca = z.ca := congrArg (fun c : CorS => c.2.2.2.2.2.2.2.2.2.2.2.1) h
theorem core_sp (h : y.core = z.core) : y.sp = z.sp := congrArg (fun c : CorS => c.2.2.2.2.2.2.2.2.2.2.2.2.1) h
theorem core_hd (h : y.core = z.core) : y.hd = z.hd := congrArg (fun c : CorS => c.2.2.2.2.2.2.2.2.2.2.2.2.2.1) h
theorem core_tm (h : y.core = z.core) : y.tm = z.tm := congrArg (fun c : CorS => c.2.2.2.2.2.2.2.2.2.2.2.2.2.2.2.1) h
theorem core_mm (h : y.core = z.core) : y.mm = z.mm := congrArg (fun c : CorS => c.2.2.2.2.2.2.2.2.2.2.2.2.2.2.2.2.1) h
end CORE
theorem wrt_core (z : MdS) (x : Int32) : (z.wrt x).core = z.core := rfl
theorem wrt_wr (z : MdS) (x : Int32) : (z.wrt x).wr = z.wr + 1 := rfl
theorem wrt_gr (z : MdS) (x : Int32) : (z.wrt x).gr = z.gr := rfl
theorem wnl_core (L : Nat) : ∀ n z, (wnl L n z).core = z.core
  | 0, _ => rfl
  | n + 1, z => by rw [wnl, wnl_core L n, wrt_core]
theorem wnl_wr (L : Nat) : ∀ n z, (wnl L n z).wr = z.wr + n
  | 0, _ => rfl
  | n + 1, z => by rw [wnl, wnl_wr L n, wrt_wr]; omega
theorem dgs_le (L : Nat) : ∀ n j, dgs L n j ≤ j + n
  | 0, _ => Nat.le_refl _
  | n + 1, j => by
    rw [dgs]
    split
    · omega
    · have := dgs_le L n (j + 1); omega
theorem num_core (z : MdS) (L : Nat) : (z.num L).core = z.core := wnl_core _ _ _
theorem num_le (z : MdS) (L : Nat) : (z.num L).wr ≤ z.wr + 9 := by
  unfold MdS.num
  rw [wnl_wr]
  have := dgs_le L 8 0
  generalize dgs L 8 0 = d at this ⊢
  omega
theorem wwl_core (m : Nat) : ∀ n i z, (wwl m n i z).core = z.core
  | 0, _, _ => rfl
  | n + 1, i, z => by rw [wwl, wwl_core m n, wrt_core]
theorem wwl_wr (m : Nat) : ∀ n i z, (wwl m n i z).wr = z.wr + n
  | 0, _, _ => rfl
  | n + 1, i, z => by rw [wwl, wwl_wr m n, wrt_wr]; omega
theorem wfl_core : ∀ n i z, (wfl n i z).core = z.core
  | 0, _, _ => rfl
  | n + 1, i, z => by rw [wfl, wfl_core n, wrt_core]
theorem wfl_wr : ∀ n i z, (wfl n i z).wr = z.wr + n
  | 0, _, _ => rfl
  | n + 1, i, z => by rw [wfl, wfl_wr n, wrt_wr]; omega
theorem cnts_core (z : MdS) (k : Nat) : (z.cnts k).core = z.core := rfl
theorem cnts_wr (z : MdS) (k : Nat) : (z.cnts k).wr = z.wr := rfl
theorem wsh_core (z : MdS) (h : Int32) : (z.wsh h).core = z.core := by
  obtain ⟨u, b, f, e⟩ := wsh_eq z h
  (rw [e] <;> rfl)
theorem fdr_core (z : MdS) : z.fdr.core = z.core := rfl
theorem pld_core {y z : MdS} (h : y.core = z.core) (a : Nat) : y.pld a = z.pld a := by
  unfold MdS.pld MdS.dl
  rw [core_tm h, core_sn h, core_wh h, core_fr h]
theorem col_core {y z : MdS} (h : y.core = z.core) (k : Nat) : ∀ n a s, col y k n a s = col z k n a s
  | 0, _, _ => rfl
  | n + 1, a, s => by rw [col, col, col_core h k n (a + 1), core_sn h, core_fr h, pld_core h]
theorem cts_core {y z : MdS} (h : y.core = z.core) (k : Nat) : y.cts k = z.cts k := by
  unfold MdS.cts
  rw [col_core h, core_ct h, core_hd h]
theorem miss_core {y z : MdS} (h : y.core = z.core) (k : Nat) : y.miss k = z.miss k := by
  unfold MdS.miss
  rw [cts_core h, core_hd h]
def wln (w : Nat) : Nat := if w = 4 then 4 else 5
theorem wln_le (w : Nat) : wln w ≤ 5 := by unfold wln; split <;> omega
theorem wlg_nI : ∀ w, w < 5 → wlg (nI w) = nI (wln w) := by decide
def MdS.wr0 (z : MdS) : MdS := (z.sg, z.tp, z.tn, z.mn, z.mk, z.mg, z.jp, z.ct, z.fr, z.wh, z.sn, z.ca, z.sp, z.hd, z.ps, z.tm, z.mm, z.on, z.ba, z.bg, z.se, z.up, z.by_, z.co, z.po, z.gr, z.tx, 0)
def MdS.txt1 (z : MdS) (m w : Nat) : MdS := ((wwl w (wln w) 0 (((z.wr0.wrt 83).num m).wrt 32)).wrt 32).wrt 80
def MdS.txt2 (z : MdS) (k : Nat) (ng : Bool) (L : Nat) : MdS := ((z.number ng L).wrt 32).cnts k
def MdS.wsp (z : MdS) (k m w : Nat) (ng : Bool) (L g : Nat) : MdS := wfl (g + 1 - m) m ((z.txt1 m w).txt2 k ng L)
def MdS.txr (y : MdS) (i : Int32) : Int32 := if 0 ≤ i then (if nI y.wr ≤ i then -9 else y.tx i.toNatClampNeg) else nI y.wr
def MdS.txtA (z y : MdS) (i : Int32) : Int32 := if win i (-1) 399 = 0 then -2 else y.txr i
def MdS.txtZ (z y : MdS) (i : Int32) : MdS := if win i (-1) 399 = 0 then z else y
theorem number_core (z : MdS) (b : Bool) (L : Nat) : (z.number b L).core = z.core := by
  unfold MdS.number
  split
  · rw [num_core, wrt_core]
  · rw [num_core]
theorem number_le (z : MdS) (b : Bool) (L : Nat) : (z.number b L).wr ≤ z.wr + 10 := by
  unfold MdS.number
  split
  · exact Nat.le_trans (num_le (z.wrt 45) L) (Nat.le_of_eq (by rw [wrt_wr, Nat.add_assoc]))
  · exact Nat.le_trans (num_le z L) (Nat.add_le_add_left (by decide) _)
theorem txt1_core (z : MdS) (m w : Nat) : (z.txt1 m w).core = z.core := by
  unfold MdS.txt1
  rw [wrt_core, wrt_core, wwl_core, wrt_core, num_core, wrt_core]; rfl
theorem txt1_le (z : MdS) (m w : Nat) : (z.txt1 m w).wr ≤ 18 := by
  unfold MdS.txt1
  rw [wrt_wr, wrt_wr, wwl_wr, wrt_wr]
  have h1 := num_le (z.wr0.wrt 83) m
  rw [show (z.wr0.wrt 83).wr = 1 from rfl] at h1
  have h3 := wln_le w
  generalize ((z.wr0.wrt 83).num m).wr = q1 at h1 ⊢
  omega
theorem txt2_core (z : MdS) (k : Nat) (b : Bool) (L : Nat) : (z.txt2 k b L).core = z.core := by
  unfold MdS.txt2
  rw [cnts_core, wrt_core, number_core]
theorem txt2_le (z : MdS) (k : Nat) (b : Bool) (L : Nat) : (z.txt2 k b L).wr ≤ z.wr + 11 := by
  unfold MdS.txt2
  rw [cnts_wr, wrt_wr]
  exact Nat.succ_le_succ (number_le z b L)
theorem wsp_core (z : MdS) (k m w : Nat) (b : Bool) (L g : Nat) : (z.wsp k m w b L g).core = z.core := by
  unfold MdS.wsp
  rw [wfl_core, txt2_core, txt1_core]
theorem txt2_gr (z : MdS) (k : Nat) (b : Bool) (L : Nat) : (z.txt2 k b L).gr = (z.cts k).2.2 := by
  show (MdS.cts ((z.number b L).wrt 32) k).2.2 = _
  rw [cts_core (z := z) (by rw [wrt_core, number_core])]
-- an arrival's steps
theorem m2_ct (z : MdS) (n : Nat) (t : Int32) : (z.m2 n t).ct = z.ct + 1 := by
  unfold MdS.m2
  obtain ⟨o, b, g, e⟩ := spk_eq (z.m1 n t) z.ct
  (rw [e] <;> rfl)
theorem m2_sp (z : MdS) (n : Nat) (t : Int32) : (z.m2 n t).sp = z.sp := by
  unfold MdS.m2
  obtain ⟨o, b, g, e⟩ := spk_eq (z.m1 n t) z.ct
  (rw [e] <;> rfl)
theorem m2_frE (z : MdS) (n : Nat) (t : Int32) : (z.m2 n t).fr = upd z.fr z.ct (nI n) := by
  unfold MdS.m2
  obtain ⟨o, b, g, e⟩ := spk_eq (z.m1 n t) z.ct
  (rw [e] <;> rfl)
theorem m2_fr {z : MdS} {n : Nat} {t : Int32} (hn : n < 300) (hfr : ∀ a, a < z.ct → ∃ m, m < 300 ∧ z.fr a = nI m) : ∀ a, a < (z.m2 n t).ct → ∃ m, m < 300 ∧ (z.m2 n t).fr a = nI m := by
  intro a ha
  rw [m2_ct] at ha
  rw [m2_frE]
  by_cases q : a = z.ct
  · subst q; exact ⟨n, hn, pk_us⟩
  · obtain ⟨m, h1, h2⟩ := hfr a (by omega); exact ⟨m, h1, by rw [pk_un q]; exact h2⟩
theorem m4_ct (y : MdS) (h p : Int32) : (y.m4 h p).ct = y.ct := by
  unfold MdS.m4
  show ((y.m3 h p).wsh h).ct = _
  rw [wsh_ct]; rfl
theorem m4x_sp (y : MdS) (h p : Int32) : ((y.m3 h p).wsh h).sp = y.sp := by rw [wsh_sp]; rfl
def MdS.manyA (z : MdS) (w : Int32) : Int32 := (mas z.sp 0 z).manR w (mal z z.sp 0 0 0)
theorem mas_core : ∀ n k z, (mas n k z).core = z.core
  | 0, _, _ => rfl
  | n + 1, k, z => by rw [mas, mas_core n, cnts_core]
def pw (n : Nat) : Int32 := [0, 1, 10, 100, 1000, 10000, 100000, 1000000, 10000000, 100000000].getD n 0
theorem pw_eq : ∀ n, n < 9 → pw (n + 1) = nI (10 ^ n) := by decide
theorem pw_pos : ∀ n, n < 9 → ¬ pw (n + 1) ≤ 0 := by decide
theorem pw_div : ∀ n, n < 9 → pw (n + 1) / 10 = pw n := by decide
theorem pw_mul : ∀ n, n < 8 → nI (10 ^ n) * 10 = nI (10 ^ (n + 1)) := by decide
theorem ten_lt : ∀ n, n < 9 → 10 ^ n < 2 ^ 31 := by decide
theorem ten_pos : ∀ n, n < 9 → 0 < 10 ^ n := by decide
theorem nneg {L : Nat} (hL : L < 2 ^ 31) (h : 0 < L) : ¬ 0 ≤ -nI L := by
  rw [Int32.le_iff_toInt_le, sb_negT hL]
  simp
  omega
