/-! THE START: the tables' numbers, two new objects, the relation between them. -/
def sg0 : Nat → Int32 := upd (upd (upd (upd (upd (upd (upd (upd (upd (upd (upd (upd (upd (upd (upd (upd (upd (upd (upd (upd (upd (upd (upd (upd (upd (fun _ => 0) 0 102) 1 105) 2 120) 3 101) 4 100) 5 115) 6 104) 7 97) 8 114) 9 101) 10 115) 11 112) 12 105) 13 107) 14 101) 15 100) 16 114) 17 105) 18 102) 19 116) 20 109) 21 101) 22 97) 23 110) 24 0
def ca0 : Nat → Int32 := cal 300 0 (fun _ => 0)
def z0 : SpcS := ((fun _ => 0, 0), (fun _ => 0, fun _ => 0, fun _ => 0, fun _ => 0, fun _ => 0, 0), (fun _ => 0, fun _ => 0, fun _ => 0, fun _ => 0, fun _ => 0, fun _ => 0, fun _ => 0, fun _ => 0, 0), (false, 0, 0), (fun _ => 0, fun _ => 0, 0, 0, 1), (fun _ => 0, 0), (fun _ => 0, 0), 0, 60, 0, 80)
def yOf (ca : Nat → Int32) : MdS := (sg0, fun _ => 0, 0, 0, 60, 0, 80, 0, fun _ => 0, fun _ => 0, fun _ => 0, ca, 0, fun _ => 0, fun _ => 0, fun _ => 0, fun _ => 0, false, 0, 0, fun _ => 0, 0, 0, 0, 0, 0, fun _ => 0, 0)
theorem upd_at (f : Nat → Int32) (i : Nat) (v : Int32) : upd f i v i = v := by unfold upd; rw [if_pos rfl]
theorem upd_ne {f : Nat → Int32} {i j : Nat} {v : Int32} (h : ¬ j = i) : upd f i v j = f j := by unfold upd; rw [if_neg h]
theorem cal_low : ∀ (m i : Nat) (f : Nat → Int32) (n : Nat), n < i → cal m i f n = f n
  | 0, _, _, _, _ => rfl
  | m + 1, i, f, n, h => by
    rw [cal, cal_low m (i + 1) _ n (by omega), upd_ne (by omega)]
theorem cal_at : ∀ (m i : Nat) (f : Nat → Int32) (n : Nat), i ≤ n → n < i + m → cal m i f n = -9
  | 0, i, f, n, h1, h2 => by omega
  | m + 1, i, f, n, h1, h2 => by
    rw [cal]
    by_cases h : n = i
    · subst h
      rw [cal_low m (n + 1) _ n (by omega), upd_at]
    · exact cal_at m (i + 1) _ n (by omega) (by omega)
theorem sg0_ok : ∀ w, w < 5 → ∀ i, i < stL.getD w 0 → sg0 (5 * w + i) = (stB.getD w []).getD i 0 := by decide +kernel
theorem ca0_at {n : Nat} (hn : n < 300) : ca0 n = -9 := by
  unfold ca0
  exact cal_at 300 0 _ n (Nat.zero_le n) (by omega)
theorem rel0 (ca : Nat → Int32) (hca : ∀ n, n < 300 → ca n = -9) : Rel z0 (yOf ca) := by
  have n0 : ∀ {P : Nat → Prop} (a : Nat), a < 0 → P a := fun a h => absurd h (Nat.not_lt_zero a)
  refine Rel.mk_ rfl rfl (Nat.zero_le 8) rfl rfl rfl rfl ⟨0, by decide, rfl⟩ (show -500 ≤ (60 : Int32).toInt ∧ (60 : Int32).toInt ≤ 2000 by decide) (fun h => absurd rfl h) (fun h => absurd h (show ¬ (0 : Int32) = 4 by decide)) (show 0 ≤ (0 : Int32).toInt ∧ (0 : Int32).toInt ≤ 200 by decide) (show 10 ≤ (80 : Int32).toInt ∧ (80 : Int32).toInt ≤ 1000 by decide) sg0_ok rfl (Nat.zero_le 120) rfl rfl rfl ?_ rfl (Nat.le_refl 0) rfl rfl rfl rfl rfl rfl rfl n0 ?_ n0 n0 n0 n0 (fun j k h => absurd h (Nat.not_lt_zero j)) n0 n0 n0 (fun _ => rfl) n0 n0 n0
  · intro n hn
    show (0 : Int32) = if ca n = -9 then 0 else ca n + 1
    rw [if_pos (hca n hn)]
  · intro n hn
    exact Or.inl (hca n hn)
