section
-- ===== PART A: goes FIRST, ahead of the names: the tables' words, and 'selects' of the private methods out of them =====
/-- a private method of a class that the tables say can be made, by its rows of tables_1 -/
def lw_okq (q : MethodName × Nat) : Prop := (q.1.cls ≠ "java/lang/invoke/MethodHandle" ∧ q.1.cls ≠ "java/lang/invoke/VarHandle") ∧ Cond.instantiable q.1.cls q.2 ∈ tables_1 ∧ Cond.privateMethod q.1 ∈ tables_1 ∧ Cond.instanceMethod q.1 ∈ tables_1
theorem lw_p0 : lw_okq (⟨"SpurtClock", "mannerOnTape", "()I"⟩, 11) := ⟨⟨by decide +kernel, by decide +kernel⟩, List.mem_of_getElem? (i := 17) (by decide +kernel), List.mem_of_getElem? (i := 250) (by decide +kernel), List.mem_of_getElem? (i := 251) (by decide +kernel)⟩
theorem lw_p1 : lw_okq (⟨"SpurtClock", "refusalOf", "(IIII)I"⟩, 11) := ⟨⟨by decide +kernel, by decide +kernel⟩, List.mem_of_getElem? (i := 17) (by decide +kernel), List.mem_of_getElem? (i := 337) (by decide +kernel), List.mem_of_getElem? (i := 338) (by decide +kernel)⟩
theorem lw_p2 : lw_okq (⟨"SpurtClock$Spurts", "isInTheWay", "(IIII)Z"⟩, 9) := ⟨⟨by decide +kernel, by decide +kernel⟩, List.mem_of_getElem? (i := 79) (by decide +kernel), List.mem_of_getElem? (i := 355) (by decide +kernel), List.mem_of_getElem? (i := 356) (by decide +kernel)⟩
theorem lw_p3 : lw_okq (⟨"SpurtClock", "openSpurt", "(II)I"⟩, 11) := ⟨⟨by decide +kernel, by decide +kernel⟩, List.mem_of_getElem? (i := 17) (by decide +kernel), List.mem_of_getElem? (i := 380) (by decide +kernel), List.mem_of_getElem? (i := 381) (by decide +kernel)⟩
theorem lw_p4 : lw_okq (⟨"SpurtClock", "wishFor", "(I)I"⟩, 11) := ⟨⟨by decide +kernel, by decide +kernel⟩, List.mem_of_getElem? (i := 17) (by decide +kernel), List.mem_of_getElem? (i := 384) (by decide +kernel), List.mem_of_getElem? (i := 385) (by decide +kernel)⟩
theorem lw_p5 : lw_okq (⟨"SpurtClock$LowestLine", "addCorner", "(II)V"⟩, 5) := ⟨⟨by decide +kernel, by decide +kernel⟩, List.mem_of_getElem? (i := 131) (by decide +kernel), List.mem_of_getElem? (i := 411) (by decide +kernel), List.mem_of_getElem? (i := 412) (by decide +kernel)⟩
theorem lw_p6 : lw_okq (⟨"SpurtClock$LowestLine", "lastIsNotBelow", "(II)Z"⟩, 5) := ⟨⟨by decide +kernel, by decide +kernel⟩, List.mem_of_getElem? (i := 131) (by decide +kernel), List.mem_of_getElem? (i := 415) (by decide +kernel), List.mem_of_getElem? (i := 416) (by decide +kernel)⟩
theorem lw_p7 : lw_okq (⟨"SpurtClock$LowestLine", "takeRiseAtMiddle", "()V"⟩, 5) := ⟨⟨by decide +kernel, by decide +kernel⟩, List.mem_of_getElem? (i := 131) (by decide +kernel), List.mem_of_getElem? (i := 421) (by decide +kernel), List.mem_of_getElem? (i := 422) (by decide +kernel)⟩
theorem lw_p8 : lw_okq (⟨"SpurtClock$LowestLine", "setRise", "(II)V"⟩, 5) := ⟨⟨by decide +kernel, by decide +kernel⟩, List.mem_of_getElem? (i := 131) (by decide +kernel), List.mem_of_getElem? (i := 425) (by decide +kernel), List.mem_of_getElem? (i := 426) (by decide +kernel)⟩
theorem lw_p9 : lw_okq (⟨"SpurtClock$Wishes", "greatestOfLast", "(I)I"⟩, 2) := ⟨⟨by decide +kernel, by decide +kernel⟩, List.mem_of_getElem? (i := 155) (by decide +kernel), List.mem_of_getElem? (i := 465) (by decide +kernel), List.mem_of_getElem? (i := 466) (by decide +kernel)⟩
theorem lw_p10 : lw_okq (⟨"SpurtClock$Wishes", "countAbove", "(I)I"⟩, 2) := ⟨⟨by decide +kernel, by decide +kernel⟩, List.mem_of_getElem? (i := 155) (by decide +kernel), List.mem_of_getElem? (i := 475) (by decide +kernel), List.mem_of_getElem? (i := 476) (by decide +kernel)⟩
theorem lw_p11 : lw_okq (⟨"SpurtClock$Spurts", "headsBelow", "(I)I"⟩, 9) := ⟨⟨by decide +kernel, by decide +kernel⟩, List.mem_of_getElem? (i := 79) (by decide +kernel), List.mem_of_getElem? (i := 489) (by decide +kernel), List.mem_of_getElem? (i := 490) (by decide +kernel)⟩
theorem lw_p12 : lw_okq (⟨"SpurtClock", "settle", "(IIII)V"⟩, 11) := ⟨⟨by decide +kernel, by decide +kernel⟩, List.mem_of_getElem? (i := 17) (by decide +kernel), List.mem_of_getElem? (i := 500) (by decide +kernel), List.mem_of_getElem? (i := 501) (by decide +kernel)⟩
theorem lw_p13 : lw_okq (⟨"SpurtClock", "writeOpening", "(I)V"⟩, 11) := ⟨⟨by decide +kernel, by decide +kernel⟩, List.mem_of_getElem? (i := 17) (by decide +kernel), List.mem_of_getElem? (i := 652) (by decide +kernel), List.mem_of_getElem? (i := 653) (by decide +kernel)⟩
theorem lw_p14 : lw_okq (⟨"SpurtClock", "signOfFrame", "(I)I"⟩, 11) := ⟨⟨by decide +kernel, by decide +kernel⟩, List.mem_of_getElem? (i := 17) (by decide +kernel), List.mem_of_getElem? (i := 686) (by decide +kernel), List.mem_of_getElem? (i := 687) (by decide +kernel)⟩
theorem lw_p15 : lw_okq (⟨"SpurtClockModel", "told", "()I"⟩, 28) := ⟨⟨by decide +kernel, by decide +kernel⟩, List.mem_of_getElem? (i := 714) (by decide +kernel), List.mem_of_getElem? (i := 821) (by decide +kernel), List.mem_of_getElem? (i := 822) (by decide +kernel)⟩
def lw_privs_1 : List (MethodName × Nat) := [(⟨"SpurtClock", "mannerOnTape", "()I"⟩, 11), (⟨"SpurtClock", "refusalOf", "(IIII)I"⟩, 11), (⟨"SpurtClock$Spurts", "isInTheWay", "(IIII)Z"⟩, 9), (⟨"SpurtClock", "openSpurt", "(II)I"⟩, 11), (⟨"SpurtClock", "wishFor", "(I)I"⟩, 11), (⟨"SpurtClock$LowestLine", "addCorner", "(II)V"⟩, 5), (⟨"SpurtClock$LowestLine", "lastIsNotBelow", "(II)Z"⟩, 5), (⟨"SpurtClock$LowestLine", "takeRiseAtMiddle", "()V"⟩, 5), (⟨"SpurtClock$LowestLine", "setRise", "(II)V"⟩, 5), (⟨"SpurtClock$Wishes", "greatestOfLast", "(I)I"⟩, 2), (⟨"SpurtClock$Wishes", "countAbove", "(I)I"⟩, 2), (⟨"SpurtClock$Spurts", "headsBelow", "(I)I"⟩, 9), (⟨"SpurtClock", "settle", "(IIII)V"⟩, 11), (⟨"SpurtClock", "writeOpening", "(I)V"⟩, 11), (⟨"SpurtClock", "signOfFrame", "(I)I"⟩, 11), (⟨"SpurtClockModel", "told", "()I"⟩, 28)]
theorem lw_r1 : ∀ q ∈ lw_privs_1, lw_okq q := List.forall_mem_cons.mpr ⟨lw_p0, List.forall_mem_cons.mpr ⟨lw_p1, List.forall_mem_cons.mpr ⟨lw_p2, List.forall_mem_cons.mpr ⟨lw_p3, List.forall_mem_cons.mpr ⟨lw_p4, List.forall_mem_cons.mpr ⟨lw_p5, List.forall_mem_cons.mpr ⟨lw_p6, List.forall_mem_cons.mpr ⟨lw_p7, List.forall_mem_cons.mpr ⟨lw_p8, List.forall_mem_cons.mpr ⟨lw_p9, List.forall_mem_cons.mpr ⟨lw_p10, List.forall_mem_cons.mpr ⟨lw_p11, List.forall_mem_cons.mpr ⟨lw_p12, List.forall_mem_cons.mpr ⟨lw_p13, List.forall_mem_cons.mpr ⟨lw_p14, List.forall_mem_cons.mpr ⟨lw_p15, fun _ h => absurd h List.not_mem_nil⟩⟩⟩⟩⟩⟩⟩⟩⟩⟩⟩⟩⟩⟩⟩⟩
theorem lw_p16 : lw_okq (⟨"SpurtClockModel", "wordLong", "(I)I"⟩, 28) := ⟨⟨by decide +kernel, by decide +kernel⟩, List.mem_of_getElem? (i := 714) (by decide +kernel), List.mem_of_getElem? (i := 825) (by decide +kernel), List.mem_of_getElem? (i := 826) (by decide +kernel)⟩
theorem lw_p17 : lw_okq (⟨"SpurtClockModel", "isShut", "(IIII)Z"⟩, 28) := ⟨⟨by decide +kernel, by decide +kernel⟩, List.mem_of_getElem? (i := 714) (by decide +kernel), List.mem_of_getElem? (i := 841) (by decide +kernel), List.mem_of_getElem? (i := 842) (by decide +kernel)⟩
theorem lw_p18 : lw_okq (⟨"SpurtClockModel", "spurtBy", "(I)I"⟩, 28) := ⟨⟨by decide +kernel, by decide +kernel⟩, List.mem_of_getElem? (i := 714) (by decide +kernel), List.mem_of_getElem? (i := 845) (by decide +kernel), List.mem_of_getElem? (i := 846) (by decide +kernel)⟩
theorem lw_p19 : lw_okq (⟨"SpurtClockModel", "isInTheWay", "(IIII)Z"⟩, 28) := ⟨⟨by decide +kernel, by decide +kernel⟩, List.mem_of_getElem? (i := 714) (by decide +kernel), List.mem_of_getElem? (i := 849) (by decide +kernel), List.mem_of_getElem? (i := 850) (by decide +kernel)⟩
theorem lw_p20 : lw_okq (⟨"SpurtClockModel", "spikesBy", "(I)V"⟩, 28) := ⟨⟨by decide +kernel, by decide +kernel⟩, List.mem_of_getElem? (i := 714) (by decide +kernel), List.mem_of_getElem? (i := 853) (by decide +kernel), List.mem_of_getElem? (i := 854) (by decide +kernel)⟩
theorem lw_p21 : lw_okq (⟨"SpurtClockModel", "delay", "(I)I"⟩, 28) := ⟨⟨by decide +kernel, by decide +kernel⟩, List.mem_of_getElem? (i := 714) (by decide +kernel), List.mem_of_getElem? (i := 857) (by decide +kernel), List.mem_of_getElem? (i := 858) (by decide +kernel)⟩
theorem lw_p22 : lw_okq (⟨"SpurtClockModel", "timeFor", "(II)I"⟩, 28) := ⟨⟨by decide +kernel, by decide +kernel⟩, List.mem_of_getElem? (i := 714) (by decide +kernel), List.mem_of_getElem? (i := 861) (by decide +kernel), List.mem_of_getElem? (i := 862) (by decide +kernel)⟩
theorem lw_p23 : lw_okq (⟨"SpurtClockModel", "wishFor", "(I)I"⟩, 28) := ⟨⟨by decide +kernel, by decide +kernel⟩, List.mem_of_getElem? (i := 714) (by decide +kernel), List.mem_of_getElem? (i := 865) (by decide +kernel), List.mem_of_getElem? (i := 866) (by decide +kernel)⟩
theorem lw_p24 : lw_okq (⟨"SpurtClockModel", "findDrift", "()V"⟩, 28) := ⟨⟨by decide +kernel, by decide +kernel⟩, List.mem_of_getElem? (i := 714) (by decide +kernel), List.mem_of_getElem? (i := 869) (by decide +kernel), List.mem_of_getElem? (i := 870) (by decide +kernel)⟩
theorem lw_p25 : lw_okq (⟨"SpurtClockModel", "isUnder", "(II)Z"⟩, 28) := ⟨⟨by decide +kernel, by decide +kernel⟩, List.mem_of_getElem? (i := 714) (by decide +kernel), List.mem_of_getElem? (i := 873) (by decide +kernel), List.mem_of_getElem? (i := 874) (by decide +kernel)⟩
theorem lw_p26 : lw_okq (⟨"SpurtClockModel", "oldest", "()I"⟩, 28) := ⟨⟨by decide +kernel, by decide +kernel⟩, List.mem_of_getElem? (i := 714) (by decide +kernel), List.mem_of_getElem? (i := 877) (by decide +kernel), List.mem_of_getElem? (i := 878) (by decide +kernel)⟩
theorem lw_p27 : lw_okq (⟨"SpurtClockModel", "farBy", "(I)J"⟩, 28) := ⟨⟨by decide +kernel, by decide +kernel⟩, List.mem_of_getElem? (i := 714) (by decide +kernel), List.mem_of_getElem? (i := 884) (by decide +kernel), List.mem_of_getElem? (i := 885) (by decide +kernel)⟩
theorem lw_p28 : lw_okq (⟨"SpurtClockModel", "latelyMost", "()J"⟩, 28) := ⟨⟨by decide +kernel, by decide +kernel⟩, List.mem_of_getElem? (i := 714) (by decide +kernel), List.mem_of_getElem? (i := 888) (by decide +kernel), List.mem_of_getElem? (i := 889) (by decide +kernel)⟩
theorem lw_p29 : lw_okq (⟨"SpurtClockModel", "leastBy", "(I)J"⟩, 28) := ⟨⟨by decide +kernel, by decide +kernel⟩, List.mem_of_getElem? (i := 714) (by decide +kernel), List.mem_of_getElem? (i := 892) (by decide +kernel), List.mem_of_getElem? (i := 893) (by decide +kernel)⟩
theorem lw_p30 : lw_okq (⟨"SpurtClockModel", "beside", "(IZ)I"⟩, 28) := ⟨⟨by decide +kernel, by decide +kernel⟩, List.mem_of_getElem? (i := 714) (by decide +kernel), List.mem_of_getElem? (i := 896) (by decide +kernel), List.mem_of_getElem? (i := 897) (by decide +kernel)⟩
theorem lw_p31 : lw_okq (⟨"SpurtClockModel", "isPlayed", "(I)Z"⟩, 28) := ⟨⟨by decide +kernel, by decide +kernel⟩, List.mem_of_getElem? (i := 714) (by decide +kernel), List.mem_of_getElem? (i := 908) (by decide +kernel), List.mem_of_getElem? (i := 909) (by decide +kernel)⟩
def lw_privs_2 : List (MethodName × Nat) := [(⟨"SpurtClockModel", "wordLong", "(I)I"⟩, 28), (⟨"SpurtClockModel", "isShut", "(IIII)Z"⟩, 28), (⟨"SpurtClockModel", "spurtBy", "(I)I"⟩, 28), (⟨"SpurtClockModel", "isInTheWay", "(IIII)Z"⟩, 28), (⟨"SpurtClockModel", "spikesBy", "(I)V"⟩, 28), (⟨"SpurtClockModel", "delay", "(I)I"⟩, 28), (⟨"SpurtClockModel", "timeFor", "(II)I"⟩, 28), (⟨"SpurtClockModel", "wishFor", "(I)I"⟩, 28), (⟨"SpurtClockModel", "findDrift", "()V"⟩, 28), (⟨"SpurtClockModel", "isUnder", "(II)Z"⟩, 28), (⟨"SpurtClockModel", "oldest", "()I"⟩, 28), (⟨"SpurtClockModel", "farBy", "(I)J"⟩, 28), (⟨"SpurtClockModel", "latelyMost", "()J"⟩, 28), (⟨"SpurtClockModel", "leastBy", "(I)J"⟩, 28), (⟨"SpurtClockModel", "beside", "(IZ)I"⟩, 28), (⟨"SpurtClockModel", "isPlayed", "(I)Z"⟩, 28)]
theorem lw_r2 : ∀ q ∈ lw_privs_2, lw_okq q := List.forall_mem_cons.mpr ⟨lw_p16, List.forall_mem_cons.mpr ⟨lw_p17, List.forall_mem_cons.mpr ⟨lw_p18, List.forall_mem_cons.mpr ⟨lw_p19, List.forall_mem_cons.mpr ⟨lw_p20, List.forall_mem_cons.mpr ⟨lw_p21, List.forall_mem_cons.mpr ⟨lw_p22, List.forall_mem_cons.mpr ⟨lw_p23, List.forall_mem_cons.mpr ⟨lw_p24, List.forall_mem_cons.mpr ⟨lw_p25, List.forall_mem_cons.mpr ⟨lw_p26, List.forall_mem_cons.mpr ⟨lw_p27, List.forall_mem_cons.mpr ⟨lw_p28, List.forall_mem_cons.mpr ⟨lw_p29, List.forall_mem_cons.mpr ⟨lw_p30, List.forall_mem_cons.mpr ⟨lw_p31, fun _ h => absurd h List.not_mem_nil⟩⟩⟩⟩⟩⟩⟩⟩⟩⟩⟩⟩⟩⟩⟩⟩
theorem lw_p32 : lw_okq (⟨"SpurtClockModel", "playedAt", "(I)I"⟩, 28) := ⟨⟨by decide +kernel, by decide +kernel⟩, List.mem_of_getElem? (i := 714) (by decide +kernel), List.mem_of_getElem? (i := 912) (by decide +kernel), List.mem_of_getElem? (i := 913) (by decide +kernel)⟩
theorem lw_p33 : lw_okq (⟨"SpurtClockModel", "isSpurt", "(I)Z"⟩, 28) := ⟨⟨by decide +kernel, by decide +kernel⟩, List.mem_of_getElem? (i := 714) (by decide +kernel), List.mem_of_getElem? (i := 920) (by decide +kernel), List.mem_of_getElem? (i := 921) (by decide +kernel)⟩
theorem lw_p34 : lw_okq (⟨"SpurtClockModel", "counts", "(I)V"⟩, 28) := ⟨⟨by decide +kernel, by decide +kernel⟩, List.mem_of_getElem? (i := 714) (by decide +kernel), List.mem_of_getElem? (i := 924) (by decide +kernel), List.mem_of_getElem? (i := 925) (by decide +kernel)⟩
theorem lw_p35 : lw_okq (⟨"SpurtClockModel", "missing", "(I)I"⟩, 28) := ⟨⟨by decide +kernel, by decide +kernel⟩, List.mem_of_getElem? (i := 714) (by decide +kernel), List.mem_of_getElem? (i := 928) (by decide +kernel), List.mem_of_getElem? (i := 929) (by decide +kernel)⟩
theorem lw_p36 : lw_okq (⟨"SpurtClockModel", "writesSpurt", "(I)V"⟩, 28) := ⟨⟨by decide +kernel, by decide +kernel⟩, List.mem_of_getElem? (i := 714) (by decide +kernel), List.mem_of_getElem? (i := 975) (by decide +kernel), List.mem_of_getElem? (i := 976) (by decide +kernel)⟩
theorem lw_p37 : lw_okq (⟨"SpurtClockModel", "writes", "(I)V"⟩, 28) := ⟨⟨by decide +kernel, by decide +kernel⟩, List.mem_of_getElem? (i := 714) (by decide +kernel), List.mem_of_getElem? (i := 979) (by decide +kernel), List.mem_of_getElem? (i := 980) (by decide +kernel)⟩
theorem lw_p38 : lw_okq (⟨"SpurtClockModel", "writesNumber", "(I)V"⟩, 28) := ⟨⟨by decide +kernel, by decide +kernel⟩, List.mem_of_getElem? (i := 714) (by decide +kernel), List.mem_of_getElem? (i := 983) (by decide +kernel), List.mem_of_getElem? (i := 984) (by decide +kernel)⟩
def lw_privs_3 : List (MethodName × Nat) := [(⟨"SpurtClockModel", "playedAt", "(I)I"⟩, 28), (⟨"SpurtClockModel", "isSpurt", "(I)Z"⟩, 28), (⟨"SpurtClockModel", "counts", "(I)V"⟩, 28), (⟨"SpurtClockModel", "missing", "(I)I"⟩, 28), (⟨"SpurtClockModel", "writesSpurt", "(I)V"⟩, 28), (⟨"SpurtClockModel", "writes", "(I)V"⟩, 28), (⟨"SpurtClockModel", "writesNumber", "(I)V"⟩, 28)]
theorem lw_r3 : ∀ q ∈ lw_privs_3, lw_okq q := List.forall_mem_cons.mpr ⟨lw_p32, List.forall_mem_cons.mpr ⟨lw_p33, List.forall_mem_cons.mpr ⟨lw_p34, List.forall_mem_cons.mpr ⟨lw_p35, List.forall_mem_cons.mpr ⟨lw_p36, List.forall_mem_cons.mpr ⟨lw_p37, List.forall_mem_cons.mpr ⟨lw_p38, fun _ h => absurd h List.not_mem_nil⟩⟩⟩⟩⟩⟩⟩
def lw_privs : List (MethodName × Nat) := lw_privs_1 ++ (lw_privs_2 ++ (lw_privs_3))
def lw_tbl : List Cond := k2_sels lw_privs ++ tables_1
theorem lw_privs_ok : ∀ q ∈ lw_privs, lw_okq q := by
  show ∀ q ∈ lw_privs_1 ++ (lw_privs_2 ++ (lw_privs_3)), lw_okq q
  exact List.forall_mem_append.mpr ⟨lw_r1, List.forall_mem_append.mpr ⟨lw_r2, lw_r3⟩⟩
/-! ===== BEGIN words of one list among another's, by their places ===== -/
theorem goodIn_r {big : List Cond} (ws : List Cond) (ps : List Nat) (hp : ws = ps.filterMap (fun i => big[i]?)) (h : ws.all goodWord = true) : GoodIn big ws := by
  intro w hw
  have h1 := List.all_eq_true.mp h w hw
  rw [hp] at hw
  obtain ⟨i, -, hi⟩ := List.mem_filterMap.mp hw
  have hm : w ∈ big := by first | exact List.mem_of_getElem? hi | exact List.getElem?_mem hi
  exact ⟨hm, good_of_word h1⟩
theorem goodIn_app {big a b : List Cond} (ha : GoodIn big a) (hb : GoodIn big b) : GoodIn big (a ++ b) := fun w h => (List.mem_append.mp h).elim (ha w) (hb w)
theorem goodIn_ca {big a b : List Cond} {c : Cond} (ha : GoodIn big (c :: a)) (hb : GoodIn big b) : GoodIn big (c :: (a ++ b)) := fun w h => (List.mem_cons.mp h).elim (fun e => ha w (List.mem_cons.mpr (Or.inl e))) (fun h => (List.mem_append.mp h).elim (fun h => ha w (List.mem_cons.mpr (Or.inr h))) (hb w))
theorem goodIn_sub {big ws : List Cond} (hm : ∀ w ∈ ws, w ∈ big) (h : ws.all goodWord = true) : GoodIn big ws := fun w hw => ⟨hm w hw, good_of_word (List.all_eq_true.mp h w hw)⟩
/-! ===== END ===== -/

/-! ===== BEGIN printed: names, fields, word lists, decode rows ===== -/
def RX0 : String := "SpurtClock$Arrivals"
def TX0 : u_T := fun k => match k with
  | 0 => ("SpurtClock$Arrivals", "placeAfter", "LSpurtClock$Row;", true)
  | 1 => ("SpurtClock$Arrivals", "frames", "LSpurtClock$Row;", true)
  | 2 => ("SpurtClock$Arrivals", "whens", "LSpurtClock$Row;", true)
  | 3 => ("SpurtClock$Arrivals", "spurtNumbers", "LSpurtClock$Row;", true)
  | 4 => ("SpurtClock$Arrivals", "playTimes", "LSpurtClock$Row;", true)
  | _ => ("SpurtClock$Arrivals", "count", "I", false)
def tyX0 : Nat → FieldType := fun k => match k with
  | 0 => .object "SpurtClock$Row"
  | 1 => .object "SpurtClock$Row"
  | 2 => .object "SpurtClock$Row"
  | 3 => .object "SpurtClock$Row"
  | 4 => .object "SpurtClock$Row"
  | _ => .int
abbrev wsX00 : List Cond := u_ws RX0 TX0 6
theorem nmX0 : ∀ a, a < 6 → ∀ b, b < 6 → a ≠ b → (TX0 a).2.1 ≠ (TX0 b).2.1 := by decide +kernel
theorem tyX0_ok : ∀ k, k < 6 → parseFieldDescriptor (TX0 k).2.2.1 = some (tyX0 k) := by decide +kernel
abbrev cX0_init : ByteArray := prog_2_method_1_code
def yX0_init : MethodName := ⟨RX0, "<init>", "()V"⟩
abbrev cX0_count : ByteArray := prog_2_method_2_code
def yX0_count : MethodName := ⟨RX0, "count", "()I"⟩
abbrev cX0_lastPlace : ByteArray := prog_2_method_3_code
def yX0_lastPlace : MethodName := ⟨RX0, "lastPlace", "()I"⟩
abbrev cX0_historySize : ByteArray := prog_2_method_4_code
def yX0_historySize : MethodName := ⟨RX0, "historySize", "()I"⟩
abbrev cX0_placeOf : ByteArray := prog_2_method_5_code
def yX0_placeOf : MethodName := ⟨RX0, "placeOf", "(I)I"⟩
abbrev cX0_frameAt : ByteArray := prog_2_method_6_code
def yX0_frameAt : MethodName := ⟨RX0, "frameAt", "(I)I"⟩
abbrev cX0_whenAt : ByteArray := prog_2_method_7_code
def yX0_whenAt : MethodName := ⟨RX0, "whenAt", "(I)I"⟩
abbrev cX0_spurtAt : ByteArray := prog_2_method_8_code
def yX0_spurtAt : MethodName := ⟨RX0, "spurtAt", "(I)I"⟩
abbrev cX0_playedAt : ByteArray := prog_2_method_9_code
def yX0_playedAt : MethodName := ⟨RX0, "playedAt", "(I)I"⟩
abbrev cX0_delayAt : ByteArray := prog_2_method_10_code
def yX0_delayAt : MethodName := ⟨RX0, "delayAt", "(I)I"⟩
abbrev cX0_latestWhen : ByteArray := prog_2_method_11_code
def yX0_latestWhen : MethodName := ⟨RX0, "latestWhen", "()I"⟩
abbrev cX0_delaysAbove : ByteArray := prog_2_method_12_code
def yX0_delaysAbove : MethodName := ⟨RX0, "delaysAbove", "(II)I"⟩
abbrev cX0_add : ByteArray := prog_2_method_13_code
def yX0_add : MethodName := ⟨RX0, "add", "(II)I"⟩
abbrev cX0_settle : ByteArray := prog_2_method_14_code
def yX0_settle : MethodName := ⟨RX0, "settle", "(III)V"⟩
abbrev cX0_clear : ByteArray := prog_2_method_15_code
def yX0_clear : MethodName := ⟨RX0, "clear", "()V"⟩
def RX1 : String := "SpurtClock$LowestLine"
def TX1 : u_T := fun k => match k with
  | 0 => ("SpurtClock$LowestLine", "cornerFrames", "LSpurtClock$Row;", true)
  | 1 => ("SpurtClock$LowestLine", "cornerDelays", "LSpurtClock$Row;", true)
  | 2 => ("SpurtClock$LowestLine", "corners", "I", false)
  | 3 => ("SpurtClock$LowestLine", "upper", "I", false)
  | _ => ("SpurtClock$LowestLine", "lower", "I", false)
def tyX1 : Nat → FieldType := fun k => match k with
  | 0 => .object "SpurtClock$Row"
  | 1 => .object "SpurtClock$Row"
  | 2 => .int
  | 3 => .int
  | _ => .int
abbrev wsX10 : List Cond := u_ws RX1 TX1 5
theorem nmX1 : ∀ a, a < 5 → ∀ b, b < 5 → a ≠ b → (TX1 a).2.1 ≠ (TX1 b).2.1 := by decide +kernel
theorem tyX1_ok : ∀ k, k < 5 → parseFieldDescriptor (TX1 k).2.2.1 = some (tyX1 k) := by decide +kernel
abbrev cX1_init : ByteArray := prog_3_method_1_code
def yX1_init : MethodName := ⟨RX1, "<init>", "()V"⟩
abbrev cX1_upper : ByteArray := prog_3_method_2_code
def yX1_upper : MethodName := ⟨RX1, "upper", "()I"⟩
abbrev cX1_lower : ByteArray := prog_3_method_3_code
def yX1_lower : MethodName := ⟨RX1, "lower", "()I"⟩
abbrev cX1_fitUnder : ByteArray := prog_3_method_4_code
def yX1_fitUnder : MethodName := ⟨RX1, "fitUnder", "(LSpurtClock$Arrivals;)V"⟩
abbrev cX1_addCorner : ByteArray := prog_3_method_5_code
def yX1_addCorner : MethodName := ⟨RX1, "addCorner", "(II)V"⟩
abbrev cX1_lastIsNotBelow : ByteArray := prog_3_method_6_code
def yX1_lastIsNotBelow : MethodName := ⟨RX1, "lastIsNotBelow", "(II)Z"⟩
abbrev cX1_takeRiseAtMiddle : ByteArray := prog_3_method_7_code
def yX1_takeRiseAtMiddle : MethodName := ⟨RX1, "takeRiseAtMiddle", "()V"⟩
abbrev cX1_setRise : ByteArray := prog_3_method_8_code
def yX1_setRise : MethodName := ⟨RX1, "setRise", "(II)V"⟩
abbrev cX1_greatestDivisor : ByteArray := prog_3_method_9_code
def yX1_greatestDivisor : MethodName := ⟨RX1, "greatestDivisor", "(II)I"⟩
abbrev cX1_riseOver : ByteArray := prog_3_method_10_code
def yX1_riseOver : MethodName := ⟨RX1, "riseOver", "(I)I"⟩
def RX2 : String := "SpurtClock$Row"
def TX2 : u_T := fun k => match k with
  | _ => ("SpurtClock$Row", "cells", "[I", true)
def tyX2 : Nat → FieldType := fun k => match k with
  | _ => .array .int
abbrev wsX20 : List Cond := u_ws RX2 TX2 1
theorem nmX2 : ∀ a, a < 1 → ∀ b, b < 1 → a ≠ b → (TX2 a).2.1 ≠ (TX2 b).2.1 := by decide +kernel
theorem tyX2_ok : ∀ k, k < 1 → parseFieldDescriptor (TX2 k).2.2.1 = some (tyX2 k) := by decide +kernel
abbrev cX2_init : ByteArray := prog_4_method_1_code
def yX2_init : MethodName := ⟨RX2, "<init>", "(I)V"⟩
abbrev cX2_get : ByteArray := prog_4_method_2_code
def yX2_get : MethodName := ⟨RX2, "get", "(I)I"⟩
abbrev cX2_set : ByteArray := prog_4_method_3_code
def yX2_set : MethodName := ⟨RX2, "set", "(II)V"⟩
abbrev cX2_add : ByteArray := prog_4_method_4_code
def yX2_add : MethodName := ⟨RX2, "add", "(II)V"⟩
def RX3 : String := "SpurtClock$Sheet"
def TX3 : u_T := fun k => match k with
  | 0 => ("SpurtClock$Sheet", "codes", "LSpurtClock$Row;", true)
  | _ => ("SpurtClock$Sheet", "size", "I", false)
def tyX3 : Nat → FieldType := fun k => match k with
  | 0 => .object "SpurtClock$Row"
  | _ => .int
abbrev wsX30 : List Cond := u_ws RX3 TX3 2
theorem nmX3 : ∀ a, a < 2 → ∀ b, b < 2 → a ≠ b → (TX3 a).2.1 ≠ (TX3 b).2.1 := by decide +kernel
theorem tyX3_ok : ∀ k, k < 2 → parseFieldDescriptor (TX3 k).2.2.1 = some (tyX3 k) := by decide +kernel
abbrev cX3_init : ByteArray := prog_5_method_1_code
def yX3_init : MethodName := ⟨RX3, "<init>", "()V"⟩
abbrev cX3_size : ByteArray := prog_5_method_2_code
def yX3_size : MethodName := ⟨RX3, "size", "()I"⟩
abbrev cX3_codeAt : ByteArray := prog_5_method_3_code
def yX3_codeAt : MethodName := ⟨RX3, "codeAt", "(I)I"⟩
abbrev cX3_clear : ByteArray := prog_5_method_4_code
def yX3_clear : MethodName := ⟨RX3, "clear", "()V"⟩
abbrev cX3_put : ByteArray := prog_5_method_5_code
def yX3_put : MethodName := ⟨RX3, "put", "(I)V"⟩
abbrev cX3_putWord : ByteArray := prog_5_method_6_code
def yX3_putWord : MethodName := ⟨RX3, "putWord", "(Ljava/lang/String;)V"⟩
abbrev cX3_putNumber : ByteArray := prog_5_method_7_code
def yX3_putNumber : MethodName := ⟨RX3, "putNumber", "(I)V"⟩
def RX4 : String := "SpurtClock$Spurts"
def TX4 : u_T := fun k => match k with
  | 0 => ("SpurtClock$Spurts", "heads", "LSpurtClock$Row;", true)
  | 1 => ("SpurtClock$Spurts", "pauses", "LSpurtClock$Row;", true)
  | 2 => ("SpurtClock$Spurts", "times", "LSpurtClock$Row;", true)
  | 3 => ("SpurtClock$Spurts", "manners", "LSpurtClock$Row;", true)
  | 4 => ("SpurtClock$Spurts", "came", "LSpurtClock$Row;", true)
  | 5 => ("SpurtClock$Spurts", "played", "LSpurtClock$Row;", true)
  | 6 => ("SpurtClock$Spurts", "greatest", "LSpurtClock$Row;", true)
  | 7 => ("SpurtClock$Spurts", "ranked", "LSpurtClock$Row;", true)
  | _ => ("SpurtClock$Spurts", "count", "I", false)
def tyX4 : Nat → FieldType := fun k => match k with
  | 0 => .object "SpurtClock$Row"
  | 1 => .object "SpurtClock$Row"
  | 2 => .object "SpurtClock$Row"
  | 3 => .object "SpurtClock$Row"
  | 4 => .object "SpurtClock$Row"
  | 5 => .object "SpurtClock$Row"
  | 6 => .object "SpurtClock$Row"
  | 7 => .object "SpurtClock$Row"
  | _ => .int
abbrev wsX40 : List Cond := u_ws RX4 TX4 9
theorem nmX4 : ∀ a, a < 9 → ∀ b, b < 9 → a ≠ b → (TX4 a).2.1 ≠ (TX4 b).2.1 := by decide +kernel
theorem tyX4_ok : ∀ k, k < 9 → parseFieldDescriptor (TX4 k).2.2.1 = some (tyX4 k) := by decide +kernel
abbrev cX4_init : ByteArray := prog_6_method_1_code
def yX4_init : MethodName := ⟨RX4, "<init>", "()V"⟩
abbrev cX4_count : ByteArray := prog_6_method_2_code
def yX4_count : MethodName := ⟨RX4, "count", "()I"⟩
abbrev cX4_headOf : ByteArray := prog_6_method_3_code
def yX4_headOf : MethodName := ⟨RX4, "headOf", "(I)I"⟩
abbrev cX4_pauseOf : ByteArray := prog_6_method_4_code
def yX4_pauseOf : MethodName := ⟨RX4, "pauseOf", "(I)I"⟩
abbrev cX4_timeOf : ByteArray := prog_6_method_5_code
def yX4_timeOf : MethodName := ⟨RX4, "timeOf", "(I)I"⟩
abbrev cX4_mannerOf : ByteArray := prog_6_method_6_code
def yX4_mannerOf : MethodName := ⟨RX4, "mannerOf", "(I)I"⟩
abbrev cX4_cameOf : ByteArray := prog_6_method_7_code
def yX4_cameOf : MethodName := ⟨RX4, "cameOf", "(I)I"⟩
abbrev cX4_playedOf : ByteArray := prog_6_method_8_code
def yX4_playedOf : MethodName := ⟨RX4, "playedOf", "(I)I"⟩
abbrev cX4_greatestOf : ByteArray := prog_6_method_9_code
def yX4_greatestOf : MethodName := ⟨RX4, "greatestOf", "(I)I"⟩
abbrev cX4_missingOf : ByteArray := prog_6_method_10_code
def yX4_missingOf : MethodName := ⟨RX4, "missingOf", "(I)I"⟩
abbrev cX4_atRank : ByteArray := prog_6_method_11_code
def yX4_atRank : MethodName := ⟨RX4, "atRank", "(I)I"⟩
abbrev cX4_playedOfAll : ByteArray := prog_6_method_12_code
def yX4_playedOfAll : MethodName := ⟨RX4, "playedOfAll", "()I"⟩
abbrev cX4_missingOfAll : ByteArray := prog_6_method_13_code
def yX4_missingOfAll : MethodName := ⟨RX4, "missingOfAll", "()I"⟩
abbrev cX4_withHead : ByteArray := prog_6_method_14_code
def yX4_withHead : MethodName := ⟨RX4, "withHead", "(I)I"⟩
abbrev cX4_bar : ByteArray := prog_6_method_15_code
def yX4_bar : MethodName := ⟨RX4, "bar", "(III)Z"⟩
abbrev cX4_isInTheWay : ByteArray := prog_6_method_16_code
def yX4_isInTheWay : MethodName := ⟨RX4, "isInTheWay", "(IIII)Z"⟩
abbrev cX4_headsBelow : ByteArray := prog_6_method_17_code
def yX4_headsBelow : MethodName := ⟨RX4, "headsBelow", "(I)I"⟩
abbrev cX4_timeInTurn : ByteArray := prog_6_method_18_code
def yX4_timeInTurn : MethodName := ⟨RX4, "timeInTurn", "(III)I"⟩
abbrev cX4_add : ByteArray := prog_6_method_19_code
def yX4_add : MethodName := ⟨RX4, "add", "(IIII)I"⟩
abbrev cX4_countFrame : ByteArray := prog_6_method_20_code
def yX4_countFrame : MethodName := ⟨RX4, "countFrame", "(IIZ)V"⟩
abbrev cX4_clear : ByteArray := prog_6_method_21_code
def yX4_clear : MethodName := ⟨RX4, "clear", "()V"⟩
def RX5 : String := "SpurtClock$Surge"
def TX5 : u_T := fun k => match k with
  | 0 => ("SpurtClock$Surge", "on", "Z", false)
  | 1 => ("SpurtClock$Surge", "base", "I", false)
  | _ => ("SpurtClock$Surge", "begun", "I", false)
def tyX5 : Nat → FieldType := fun k => match k with
  | 0 => .boolean
  | 1 => .int
  | _ => .int
abbrev wsX50 : List Cond := u_ws RX5 TX5 3
theorem nmX5 : ∀ a, a < 3 → ∀ b, b < 3 → a ≠ b → (TX5 a).2.1 ≠ (TX5 b).2.1 := by decide +kernel
theorem tyX5_ok : ∀ k, k < 3 → parseFieldDescriptor (TX5 k).2.2.1 = some (tyX5 k) := by decide +kernel
abbrev cX5_init : ByteArray := prog_7_method_1_code
def yX5_init : MethodName := ⟨RX5, "<init>", "()V"⟩
abbrev cX5_isOn : ByteArray := prog_7_method_2_code
def yX5_isOn : MethodName := ⟨RX5, "isOn", "()Z"⟩
abbrev cX5_base : ByteArray := prog_7_method_3_code
def yX5_base : MethodName := ⟨RX5, "base", "()I"⟩
abbrev cX5_begun : ByteArray := prog_7_method_4_code
def yX5_begun : MethodName := ⟨RX5, "begun", "()I"⟩
abbrev cX5_follow : ByteArray := prog_7_method_5_code
def yX5_follow : MethodName := ⟨RX5, "follow", "(III)V"⟩
abbrev cX5_clear : ByteArray := prog_7_method_6_code
def yX5_clear : MethodName := ⟨RX5, "clear", "()V"⟩
def RX6 : String := "SpurtClock$Tape"
def TX6 : u_T := fun k => match k with
  | 0 => ("SpurtClock$Tape", "codes", "LSpurtClock$Row;", true)
  | _ => ("SpurtClock$Tape", "size", "I", false)
def tyX6 : Nat → FieldType := fun k => match k with
  | 0 => .object "SpurtClock$Row"
  | _ => .int
abbrev wsX60 : List Cond := u_ws RX6 TX6 2
theorem nmX6 : ∀ a, a < 2 → ∀ b, b < 2 → a ≠ b → (TX6 a).2.1 ≠ (TX6 b).2.1 := by decide +kernel
theorem tyX6_ok : ∀ k, k < 2 → parseFieldDescriptor (TX6 k).2.2.1 = some (tyX6 k) := by decide +kernel
abbrev cX6_init : ByteArray := prog_8_method_1_code
def yX6_init : MethodName := ⟨RX6, "<init>", "()V"⟩
abbrev cX6_size : ByteArray := prog_8_method_2_code
def yX6_size : MethodName := ⟨RX6, "size", "()I"⟩
abbrev cX6_add : ByteArray := prog_8_method_3_code
def yX6_add : MethodName := ⟨RX6, "add", "(I)V"⟩
abbrev cX6_clear : ByteArray := prog_8_method_4_code
def yX6_clear : MethodName := ⟨RX6, "clear", "()V"⟩
abbrev cX6_spells : ByteArray := prog_8_method_5_code
def yX6_spells : MethodName := ⟨RX6, "spells", "(Ljava/lang/String;)Z"⟩
def RX7 : String := "SpurtClock$Wishes"
def TX7 : u_T := fun k => match k with
  | 0 => ("SpurtClock$Wishes", "delays", "LSpurtClock$Row;", true)
  | _ => ("SpurtClock$Wishes", "size", "I", false)
def tyX7 : Nat → FieldType := fun k => match k with
  | 0 => .object "SpurtClock$Row"
  | _ => .int
abbrev wsX70 : List Cond := u_ws RX7 TX7 2
theorem nmX7 : ∀ a, a < 2 → ∀ b, b < 2 → a ≠ b → (TX7 a).2.1 ≠ (TX7 b).2.1 := by decide +kernel
theorem tyX7_ok : ∀ k, k < 2 → parseFieldDescriptor (TX7 k).2.2.1 = some (tyX7 k) := by decide +kernel
abbrev cX7_init : ByteArray := prog_9_method_1_code
def yX7_init : MethodName := ⟨RX7, "<init>", "()V"⟩
abbrev cX7_gather : ByteArray := prog_9_method_2_code
def yX7_gather : MethodName := ⟨RX7, "gather", "(LSpurtClock$Arrivals;)V"⟩
abbrev cX7_carryAlong : ByteArray := prog_9_method_3_code
def yX7_carryAlong : MethodName := ⟨RX7, "carryAlong", "(LSpurtClock$LowestLine;LSpurtClock$Arrivals;I)V"⟩
abbrev cX7_byShare : ByteArray := prog_9_method_4_code
def yX7_byShare : MethodName := ⟨RX7, "byShare", "(I)I"⟩
abbrev cX7_greatestOfLastThree : ByteArray := prog_9_method_5_code
def yX7_greatestOfLastThree : MethodName := ⟨RX7, "greatestOfLastThree", "()I"⟩
abbrev cX7_byMean : ByteArray := prog_9_method_6_code
def yX7_byMean : MethodName := ⟨RX7, "byMean", "(I)I"⟩
abbrev cX7_countAbove : ByteArray := prog_9_method_7_code
def yX7_countAbove : MethodName := ⟨RX7, "countAbove", "(I)I"⟩
abbrev cX7_greatestOfLast : ByteArray := prog_9_method_8_code
def yX7_greatestOfLast : MethodName := ⟨RX7, "greatestOfLast", "(I)I"⟩
def RX8 : String := "SpurtClock"
def TX8 : u_T := fun k => match k with
  | 0 => ("SpurtClock", "tape", "LSpurtClock$Tape;", true)
  | 1 => ("SpurtClock", "arrivals", "LSpurtClock$Arrivals;", true)
  | 2 => ("SpurtClock", "spurts", "LSpurtClock$Spurts;", true)
  | 3 => ("SpurtClock", "surge", "LSpurtClock$Surge;", true)
  | 4 => ("SpurtClock", "line", "LSpurtClock$LowestLine;", true)
  | 5 => ("SpurtClock", "wishes", "LSpurtClock$Wishes;", true)
  | 6 => ("SpurtClock", "sheet", "LSpurtClock$Sheet;", true)
  | 7 => ("SpurtClock", "mannerNow", "I", false)
  | 8 => ("SpurtClock", "mannerNumber", "I", false)
  | 9 => ("SpurtClock", "marginNow", "I", false)
  | _ => ("SpurtClock", "jumpNow", "I", false)
def tyX8 : Nat → FieldType := fun k => match k with
  | 0 => .object "SpurtClock$Tape"
  | 1 => .object "SpurtClock$Arrivals"
  | 2 => .object "SpurtClock$Spurts"
  | 3 => .object "SpurtClock$Surge"
  | 4 => .object "SpurtClock$LowestLine"
  | 5 => .object "SpurtClock$Wishes"
  | 6 => .object "SpurtClock$Sheet"
  | 7 => .int
  | 8 => .int
  | 9 => .int
  | _ => .int
abbrev wsX80 : List Cond := u_ws RX8 TX8 11
theorem nmX8 : ∀ a, a < 11 → ∀ b, b < 11 → a ≠ b → (TX8 a).2.1 ≠ (TX8 b).2.1 := by decide +kernel
theorem tyX8_ok : ∀ k, k < 11 → parseFieldDescriptor (TX8 k).2.2.1 = some (tyX8 k) := by decide +kernel
abbrev cX8_init : ByteArray := prog_1_method_1_code
def yX8_init : MethodName := ⟨RX8, "<init>", "()V"⟩
abbrev cX8_key : ByteArray := prog_1_method_2_code
def yX8_key : MethodName := ⟨RX8, "key", "(I)I"⟩
abbrev cX8_wipe : ByteArray := prog_1_method_3_code
def yX8_wipe : MethodName := ⟨RX8, "wipe", "()I"⟩
abbrev cX8_manner : ByteArray := prog_1_method_4_code
def yX8_manner : MethodName := ⟨RX8, "manner", "(I)I"⟩
abbrev cX8_margin : ByteArray := prog_1_method_5_code
def yX8_margin : MethodName := ⟨RX8, "margin", "(I)I"⟩
abbrev cX8_jump : ByteArray := prog_1_method_6_code
def yX8_jump : MethodName := ⟨RX8, "jump", "(I)I"⟩
abbrev cX8_arrive : ByteArray := prog_1_method_7_code
def yX8_arrive : MethodName := ⟨RX8, "arrive", "(IIII)I"⟩
abbrev cX8_anew : ByteArray := prog_1_method_8_code
def yX8_anew : MethodName := ⟨RX8, "anew", "()I"⟩
abbrev cX8_ofFrame : ByteArray := prog_1_method_9_code
def yX8_ofFrame : MethodName := ⟨RX8, "ofFrame", "(II)I"⟩
abbrev cX8_ofSpurt : ByteArray := prog_1_method_10_code
def yX8_ofSpurt : MethodName := ⟨RX8, "ofSpurt", "(II)I"⟩
abbrev cX8_inOrder : ByteArray := prog_1_method_11_code
def yX8_inOrder : MethodName := ⟨RX8, "inOrder", "(I)I"⟩
abbrev cX8_wish : ByteArray := prog_1_method_12_code
def yX8_wish : MethodName := ⟨RX8, "wish", "(I)I"⟩
abbrev cX8_spike : ByteArray := prog_1_method_13_code
def yX8_spike : MethodName := ⟨RX8, "spike", "(I)I"⟩
abbrev cX8_late : ByteArray := prog_1_method_14_code
def yX8_late : MethodName := ⟨RX8, "late", "(I)I"⟩
abbrev cX8_history : ByteArray := prog_1_method_15_code
def yX8_history : MethodName := ⟨RX8, "history", "(I)I"⟩
abbrev cX8_loss : ByteArray := prog_1_method_16_code
def yX8_loss : MethodName := ⟨RX8, "loss", "(I)I"⟩
abbrev cX8_drift : ByteArray := prog_1_method_17_code
def yX8_drift : MethodName := ⟨RX8, "drift", "(I)J"⟩
abbrev cX8_waiting : ByteArray := prog_1_method_18_code
def yX8_waiting : MethodName := ⟨RX8, "waiting", "(I)I"⟩
abbrev cX8_playing : ByteArray := prog_1_method_19_code
def yX8_playing : MethodName := ⟨RX8, "playing", "(I)I"⟩
abbrev cX8_text : ByteArray := prog_1_method_20_code
def yX8_text : MethodName := ⟨RX8, "text", "(II)I"⟩
abbrev cX8_word : ByteArray := prog_1_method_21_code
def yX8_word : MethodName := ⟨RX8, "word", "(I)I"⟩
abbrev cX8_many : ByteArray := prog_1_method_22_code
def yX8_many : MethodName := ⟨RX8, "many", "(I)I"⟩
abbrev cX8_isOutside : ByteArray := prog_1_method_23_code
def yX8_isOutside : MethodName := ⟨RX8, "isOutside", "(III)Z"⟩
abbrev cX8_wordOf : ByteArray := prog_1_method_24_code
def yX8_wordOf : MethodName := ⟨RX8, "wordOf", "(I)Ljava/lang/String;"⟩
abbrev cX8_leastNumber : ByteArray := prog_1_method_25_code
def yX8_leastNumber : MethodName := ⟨RX8, "leastNumber", "(I)I"⟩
abbrev cX8_greatestNumber : ByteArray := prog_1_method_26_code
def yX8_greatestNumber : MethodName := ⟨RX8, "greatestNumber", "(I)I"⟩
abbrev cX8_mannerOnTape : ByteArray := prog_1_method_27_code
def yX8_mannerOnTape : MethodName := ⟨RX8, "mannerOnTape", "()I"⟩
abbrev cX8_refusalOf : ByteArray := prog_1_method_28_code
def yX8_refusalOf : MethodName := ⟨RX8, "refusalOf", "(IIII)I"⟩
abbrev cX8_wishFor : ByteArray := prog_1_method_29_code
def yX8_wishFor : MethodName := ⟨RX8, "wishFor", "(I)I"⟩
abbrev cX8_openSpurt : ByteArray := prog_1_method_30_code
def yX8_openSpurt : MethodName := ⟨RX8, "openSpurt", "(II)I"⟩
abbrev cX8_settle : ByteArray := prog_1_method_31_code
def yX8_settle : MethodName := ⟨RX8, "settle", "(IIII)V"⟩
abbrev cX8_writeOpening : ByteArray := prog_1_method_32_code
def yX8_writeOpening : MethodName := ⟨RX8, "writeOpening", "(I)V"⟩
abbrev cX8_signOfFrame : ByteArray := prog_1_method_33_code
def yX8_signOfFrame : MethodName := ⟨RX8, "signOfFrame", "(I)I"⟩
def RX9 : String := "SpurtClockModel"
def TX9 : u_T := fun k => match k with
  | 0 => ("SpurtClockModel", "signs", "[I", true)
  | 1 => ("SpurtClockModel", "tape", "[I", true)
  | 2 => ("SpurtClockModel", "taped", "I", false)
  | 3 => ("SpurtClockModel", "manner", "I", false)
  | 4 => ("SpurtClockModel", "number", "I", false)
  | 5 => ("SpurtClockModel", "margin", "I", false)
  | 6 => ("SpurtClockModel", "jump", "I", false)
  | 7 => ("SpurtClockModel", "came", "I", false)
  | 8 => ("SpurtClockModel", "frameOf", "[I", true)
  | 9 => ("SpurtClockModel", "timeOf", "[I", true)
  | 10 => ("SpurtClockModel", "spurtOf", "[I", true)
  | 11 => ("SpurtClockModel", "cameAs", "[I", true)
  | 12 => ("SpurtClockModel", "spurts", "I", false)
  | 13 => ("SpurtClockModel", "headOf", "[I", true)
  | 14 => ("SpurtClockModel", "pauseOf", "[I", true)
  | 15 => ("SpurtClockModel", "timeSet", "[I", true)
  | 16 => ("SpurtClockModel", "mannerOf", "[I", true)
  | 17 => ("SpurtClockModel", "isSpike", "Z", false)
  | 18 => ("SpurtClockModel", "base", "I", false)
  | 19 => ("SpurtClockModel", "spikes", "I", false)
  | 20 => ("SpurtClockModel", "seen", "[J", true)
  | 21 => ("SpurtClockModel", "up", "J", false)
  | 22 => ("SpurtClockModel", "by", "J", false)
  | 23 => ("SpurtClockModel", "cameOf", "I", false)
  | 24 => ("SpurtClockModel", "playedOf", "I", false)
  | 25 => ("SpurtClockModel", "greatest", "I", false)
  | 26 => ("SpurtClockModel", "text", "[I", true)
  | _ => ("SpurtClockModel", "written", "I", false)
def tyX9 : Nat → FieldType := fun k => match k with
  | 0 => .array .int
  | 1 => .array .int
  | 2 => .int
  | 3 => .int
  | 4 => .int
  | 5 => .int
  | 6 => .int
  | 7 => .int
  | 8 => .array .int
  | 9 => .array .int
  | 10 => .array .int
  | 11 => .array .int
  | 12 => .int
  | 13 => .array .int
  | 14 => .array .int
  | 15 => .array .int
  | 16 => .array .int
  | 17 => .boolean
  | 18 => .int
  | 19 => .int
  | 20 => .array .long
  | 21 => .long
  | 22 => .long
  | 23 => .int
  | 24 => .int
  | 25 => .int
  | 26 => .array .int
  | _ => .int
abbrev wsX90 : List Cond := u_ws RX9 TX9 28
theorem nmX9 : ∀ a, a < 28 → ∀ b, b < 28 → a ≠ b → (TX9 a).2.1 ≠ (TX9 b).2.1 := by decide +kernel
theorem tyX9_ok : ∀ k, k < 28 → parseFieldDescriptor (TX9 k).2.2.1 = some (tyX9 k) := by decide +kernel
abbrev cX9_init : ByteArray := prog_11_method_1_code
def yX9_init : MethodName := ⟨RX9, "<init>", "()V"⟩
abbrev cX9_within : ByteArray := prog_11_method_2_code
def yX9_within : MethodName := ⟨RX9, "within", "(III)Z"⟩
abbrev cX9_down : ByteArray := prog_11_method_3_code
def yX9_down : MethodName := ⟨RX9, "down", "(JJ)J"⟩
abbrev cX9_key : ByteArray := prog_11_method_4_code
def yX9_key : MethodName := ⟨RX9, "key", "(I)I"⟩
abbrev cX9_wipe : ByteArray := prog_11_method_5_code
def yX9_wipe : MethodName := ⟨RX9, "wipe", "()I"⟩
abbrev cX9_wordLong : ByteArray := prog_11_method_6_code
def yX9_wordLong : MethodName := ⟨RX9, "wordLong", "(I)I"⟩
abbrev cX9_told : ByteArray := prog_11_method_7_code
def yX9_told : MethodName := ⟨RX9, "told", "()I"⟩
abbrev cX9_manner : ByteArray := prog_11_method_8_code
def yX9_manner : MethodName := ⟨RX9, "manner", "(I)I"⟩
abbrev cX9_margin : ByteArray := prog_11_method_9_code
def yX9_margin : MethodName := ⟨RX9, "margin", "(I)I"⟩
abbrev cX9_jump : ByteArray := prog_11_method_10_code
def yX9_jump : MethodName := ⟨RX9, "jump", "(I)I"⟩
abbrev cX9_delay : ByteArray := prog_11_method_11_code
def yX9_delay : MethodName := ⟨RX9, "delay", "(I)I"⟩
abbrev cX9_spurtBy : ByteArray := prog_11_method_12_code
def yX9_spurtBy : MethodName := ⟨RX9, "spurtBy", "(I)I"⟩
abbrev cX9_isInTheWay : ByteArray := prog_11_method_13_code
def yX9_isInTheWay : MethodName := ⟨RX9, "isInTheWay", "(IIII)Z"⟩
abbrev cX9_isShut : ByteArray := prog_11_method_14_code
def yX9_isShut : MethodName := ⟨RX9, "isShut", "(IIII)Z"⟩
abbrev cX9_arrive : ByteArray := prog_11_method_15_code
def yX9_arrive : MethodName := ⟨RX9, "arrive", "(IIII)I"⟩
abbrev cX9_spikesBy : ByteArray := prog_11_method_16_code
def yX9_spikesBy : MethodName := ⟨RX9, "spikesBy", "(I)V"⟩
abbrev cX9_anew : ByteArray := prog_11_method_17_code
def yX9_anew : MethodName := ⟨RX9, "anew", "()I"⟩
abbrev cX9_oldest : ByteArray := prog_11_method_18_code
def yX9_oldest : MethodName := ⟨RX9, "oldest", "()I"⟩
abbrev cX9_leastBy : ByteArray := prog_11_method_19_code
def yX9_leastBy : MethodName := ⟨RX9, "leastBy", "(I)J"⟩
abbrev cX9_latelyMost : ByteArray := prog_11_method_20_code
def yX9_latelyMost : MethodName := ⟨RX9, "latelyMost", "()J"⟩
abbrev cX9_farBy : ByteArray := prog_11_method_21_code
def yX9_farBy : MethodName := ⟨RX9, "farBy", "(I)J"⟩
abbrev cX9_wishFor : ByteArray := prog_11_method_22_code
def yX9_wishFor : MethodName := ⟨RX9, "wishFor", "(I)I"⟩
abbrev cX9_beside : ByteArray := prog_11_method_23_code
def yX9_beside : MethodName := ⟨RX9, "beside", "(IZ)I"⟩
abbrev cX9_timeFor : ByteArray := prog_11_method_24_code
def yX9_timeFor : MethodName := ⟨RX9, "timeFor", "(II)I"⟩
abbrev cX9_isPlayed : ByteArray := prog_11_method_25_code
def yX9_isPlayed : MethodName := ⟨RX9, "isPlayed", "(I)Z"⟩
abbrev cX9_playedAt : ByteArray := prog_11_method_26_code
def yX9_playedAt : MethodName := ⟨RX9, "playedAt", "(I)I"⟩
abbrev cX9_ofFrame : ByteArray := prog_11_method_27_code
def yX9_ofFrame : MethodName := ⟨RX9, "ofFrame", "(II)I"⟩
abbrev cX9_counts : ByteArray := prog_11_method_28_code
def yX9_counts : MethodName := ⟨RX9, "counts", "(I)V"⟩
abbrev cX9_missing : ByteArray := prog_11_method_29_code
def yX9_missing : MethodName := ⟨RX9, "missing", "(I)I"⟩
abbrev cX9_isSpurt : ByteArray := prog_11_method_30_code
def yX9_isSpurt : MethodName := ⟨RX9, "isSpurt", "(I)Z"⟩
abbrev cX9_ofSpurt : ByteArray := prog_11_method_31_code
def yX9_ofSpurt : MethodName := ⟨RX9, "ofSpurt", "(II)I"⟩
abbrev cX9_inOrder : ByteArray := prog_11_method_32_code
def yX9_inOrder : MethodName := ⟨RX9, "inOrder", "(I)I"⟩
abbrev cX9_wish : ByteArray := prog_11_method_33_code
def yX9_wish : MethodName := ⟨RX9, "wish", "(I)I"⟩
abbrev cX9_spike : ByteArray := prog_11_method_34_code
def yX9_spike : MethodName := ⟨RX9, "spike", "(I)I"⟩
abbrev cX9_late : ByteArray := prog_11_method_35_code
def yX9_late : MethodName := ⟨RX9, "late", "(I)I"⟩
abbrev cX9_history : ByteArray := prog_11_method_36_code
def yX9_history : MethodName := ⟨RX9, "history", "(I)I"⟩
abbrev cX9_loss : ByteArray := prog_11_method_37_code
def yX9_loss : MethodName := ⟨RX9, "loss", "(I)I"⟩
abbrev cX9_isUnder : ByteArray := prog_11_method_38_code
def yX9_isUnder : MethodName := ⟨RX9, "isUnder", "(II)Z"⟩
abbrev cX9_findDrift : ByteArray := prog_11_method_39_code
def yX9_findDrift : MethodName := ⟨RX9, "findDrift", "()V"⟩
abbrev cX9_drift : ByteArray := prog_11_method_40_code
def yX9_drift : MethodName := ⟨RX9, "drift", "(I)J"⟩
abbrev cX9_waiting : ByteArray := prog_11_method_41_code
def yX9_waiting : MethodName := ⟨RX9, "waiting", "(I)I"⟩
abbrev cX9_playing : ByteArray := prog_11_method_42_code
def yX9_playing : MethodName := ⟨RX9, "playing", "(I)I"⟩
abbrev cX9_writes : ByteArray := prog_11_method_43_code
def yX9_writes : MethodName := ⟨RX9, "writes", "(I)V"⟩
abbrev cX9_writesNumber : ByteArray := prog_11_method_44_code
def yX9_writesNumber : MethodName := ⟨RX9, "writesNumber", "(I)V"⟩
abbrev cX9_writesSpurt : ByteArray := prog_11_method_45_code
def yX9_writesSpurt : MethodName := ⟨RX9, "writesSpurt", "(I)V"⟩
abbrev cX9_text : ByteArray := prog_11_method_46_code
def yX9_text : MethodName := ⟨RX9, "text", "(II)I"⟩
abbrev cX9_word : ByteArray := prog_11_method_47_code
def yX9_word : MethodName := ⟨RX9, "word", "(I)I"⟩
abbrev cX9_many : ByteArray := prog_11_method_48_code
def yX9_many : MethodName := ⟨RX9, "many", "(I)I"⟩
def RJ9 : String := "java/lang/Math"
def TJ9 : u_T := fun k => match k with
  | _ => ("", "", "", false)
def tyJ9 : Nat → FieldType := fun k => match k with
  | _ => .int
abbrev wsJ90 : List Cond := u_ws RJ9 TJ9 0
theorem nmJ9 : ∀ a, a < 0 → ∀ b, b < 0 → a ≠ b → (TJ9 a).2.1 ≠ (TJ9 b).2.1 := by decide +kernel
theorem tyJ9_ok : ∀ k, k < 0 → parseFieldDescriptor (TJ9 k).2.2.1 = some (tyJ9 k) := by decide +kernel
abbrev cJ9_floorDiv_7cf53 : ByteArray := prog_12_method_47_code
def yJ9_floorDiv_7cf53 : MethodName := ⟨RJ9, "floorDiv", "(II)I"⟩
abbrev cJ9_abs_0f7a4 : ByteArray := prog_12_method_59_code
def yJ9_abs_0f7a4 : MethodName := ⟨RJ9, "abs", "(I)I"⟩
abbrev cJ9_max_7cf53 : ByteArray := prog_12_method_65_code
def yJ9_max_7cf53 : MethodName := ⟨RJ9, "max", "(II)I"⟩
abbrev cJ9_min_7cf53 : ByteArray := prog_12_method_69_code
def yJ9_min_7cf53 : MethodName := ⟨RJ9, "min", "(II)I"⟩
def RJ0 : String := "java/lang/String"
def TJ0 : u_T := fun k => match k with
  | _ => ("", "", "", false)
def tyJ0 : Nat → FieldType := fun k => match k with
  | _ => .int
abbrev wsJ00 : List Cond := u_ws RJ0 TJ0 0
theorem nmJ0 : ∀ a, a < 0 → ∀ b, b < 0 → a ≠ b → (TJ0 a).2.1 ≠ (TJ0 b).2.1 := by decide +kernel
theorem tyJ0_ok : ∀ k, k < 0 → parseFieldDescriptor (TJ0 k).2.2.1 = some (tyJ0 k) := by decide +kernel
abbrev cJ0_length_8abf5 : ByteArray := prog_13_method_54_code
def yJ0_length_8abf5 : MethodName := ⟨RJ0, "length", "()I"⟩
abbrev cJ0_charAt_5068e : ByteArray := prog_13_method_56_code
def yJ0_charAt_5068e : MethodName := ⟨RJ0, "charAt", "(I)C"⟩
abbrev cJ0_coder_7d493 : ByteArray := prog_13_method_152_code
def yJ0_coder_7d493 : MethodName := ⟨RJ0, "coder", "()B"⟩
abbrev cJ0_isLatin1_aae02 : ByteArray := prog_13_method_154_code
def yJ0_isLatin1_aae02 : MethodName := ⟨RJ0, "isLatin1", "()Z"⟩
abbrev cJ0_checkIndex_df160 : ByteArray := prog_13_method_155_code
def yJ0_checkIndex_df160 : MethodName := ⟨RJ0, "checkIndex", "(II)V"⟩
def RJ1 : String := "java/lang/StringLatin1"
def TJ1 : u_T := fun k => match k with
  | _ => ("", "", "", false)
def tyJ1 : Nat → FieldType := fun k => match k with
  | _ => .int
abbrev wsJ10 : List Cond := u_ws RJ1 TJ1 0
theorem nmJ1 : ∀ a, a < 0 → ∀ b, b < 0 → a ≠ b → (TJ1 a).2.1 ≠ (TJ1 b).2.1 := by decide +kernel
theorem tyJ1_ok : ∀ k, k < 0 → parseFieldDescriptor (TJ1 k).2.2.1 = some (tyJ1 k) := by decide +kernel
abbrev cJ1_charAt_3b067 : ByteArray := prog_14_method_2_code
def yJ1_charAt_3b067 : MethodName := ⟨RJ1, "charAt", "([BI)C"⟩
def RJ2 : String := "java/lang/StringUTF16"
def TJ2 : u_T := fun k => match k with
  | _ => ("", "", "", false)
def tyJ2 : Nat → FieldType := fun k => match k with
  | _ => .int
abbrev wsJ20 : List Cond := u_ws RJ2 TJ2 0
theorem nmJ2 : ∀ a, a < 0 → ∀ b, b < 0 → a ≠ b → (TJ2 a).2.1 ≠ (TJ2 b).2.1 := by decide +kernel
theorem tyJ2_ok : ∀ k, k < 0 → parseFieldDescriptor (TJ2 k).2.2.1 = some (tyJ2 k) := by decide +kernel
abbrev cJ2_getChar_3b067 : ByteArray := prog_15_method_5_code
def yJ2_getChar_3b067 : MethodName := ⟨RJ2, "getChar", "([BI)C"⟩
abbrev cJ2_length_9d52b : ByteArray := prog_15_method_6_code
def yJ2_length_9d52b : MethodName := ⟨RJ2, "length", "([B)I"⟩
abbrev cJ2_charAt_3b067 : ByteArray := prog_15_method_83_code
def yJ2_charAt_3b067 : MethodName := ⟨RJ2, "charAt", "([BI)C"⟩
abbrev cJ2_checkIndex_2214a : ByteArray := prog_15_method_91_code
def yJ2_checkIndex_2214a : MethodName := ⟨RJ2, "checkIndex", "(I[B)V"⟩
def RJ3 : String := "jdk/internal/util/Preconditions"
def TJ3 : u_T := fun k => match k with
  | _ => ("", "", "", false)
def tyJ3 : Nat → FieldType := fun k => match k with
  | _ => .int
abbrev wsJ30 : List Cond := u_ws RJ3 TJ3 0
theorem nmJ3 : ∀ a, a < 0 → ∀ b, b < 0 → a ≠ b → (TJ3 a).2.1 ≠ (TJ3 b).2.1 := by decide +kernel
theorem tyJ3_ok : ∀ k, k < 0 → parseFieldDescriptor (TJ3 k).2.2.1 = some (tyJ3 k) := by decide +kernel
abbrev cJ3_checkIndex_8e157 : ByteArray := prog_16_method_11_code
def yJ3_checkIndex_8e157 : MethodName := ⟨RJ3, "checkIndex", "(IILjava/util/function/BiFunction;)I"⟩
def RL : String := "SpurtClockLaw"
abbrev cL_law : ByteArray := code
def yL_law : MethodName := ⟨RL, "law", "([I)Z"⟩
def wsX2_init : List Cond := .code yX2_init cX2_init 2 none :: ([.methodLink RX2 1 objectInit, .instanceMethod objectInit, .code objectInit ⟨#[0xb1]⟩ 1 none, .methodLink RX2 7 Lib.Math.max.name, .static Lib.Math.max.name, .initialized "java/lang/Math", .code Lib.Math.max.name Lib.Math.max.code 2 (some .int), .arrayClass .int, .fieldLink RX2 13 "SpurtClock$Row" "cells" "[I"] ++ wsX20)
def wsX0_init : List Cond := .code yX0_init cX0_init 1 none :: ([.methodLink RX0 3 objectInit, .instanceMethod objectInit, .code objectInit ⟨#[0xb1]⟩ 1 none, .classLink RX0 9 RX2, .instantiable RX2 1, .initialized RX2, .fieldLink RX0 14 "SpurtClock$Arrivals" "placeAfter" "LSpurtClock$Row;", .fieldLink RX0 20 "SpurtClock$Arrivals" "frames" "LSpurtClock$Row;", .fieldLink RX0 23 "SpurtClock$Arrivals" "whens" "LSpurtClock$Row;", .fieldLink RX0 26 "SpurtClock$Arrivals" "spurtNumbers" "LSpurtClock$Row;", .fieldLink RX0 29 "SpurtClock$Arrivals" "playTimes" "LSpurtClock$Row;", .methodLink RX0 11 yX2_init, .instanceMethod yX2_init, .code yX2_init cX2_init 2 none, .methodLink RX2 1 objectInit, .methodLink RX2 7 Lib.Math.max.name, .static Lib.Math.max.name, .initialized "java/lang/Math", .code Lib.Math.max.name Lib.Math.max.code 2 (some .int), .arrayClass .int, .fieldLink RX2 13 "SpurtClock$Row" "cells" "[I"] ++ wsX20 ++ wsX00)
def wsX0_count : List Cond := .code yX0_count cX0_count 1 (some .int) :: ([.fieldLink RX0 32 "SpurtClock$Arrivals" "count" "I"] ++ wsX00)
def wsX0_lastPlace : List Cond := .code yX0_lastPlace cX0_lastPlace 1 (some .int) :: ([.fieldLink RX0 32 "SpurtClock$Arrivals" "count" "I"] ++ wsX00)
def wsX0_historySize : List Cond := .code yX0_historySize cX0_historySize 1 (some .int) :: ([.fieldLink RX0 32 "SpurtClock$Arrivals" "count" "I", .methodLink RX0 36 Lib.Math.min.name, .static Lib.Math.min.name, .initialized "java/lang/Math", .code Lib.Math.min.name Lib.Math.min.code 2 (some .int)] ++ wsX00)
def wsX2_get : List Cond := .code yX2_get cX2_get 2 (some .int) :: ([.fieldLink RX2 13 "SpurtClock$Row" "cells" "[I"] ++ wsX20)
def wsX0_placeOf : List Cond := .code yX0_placeOf cX0_placeOf 2 (some .int) :: ([.fieldLink RX0 14 "SpurtClock$Arrivals" "placeAfter" "LSpurtClock$Row;", .methodLink RX0 42 yX2_get, .instanceMethod yX2_get, .selects RX2 yX2_get yX2_get, .initialized RX2, .code yX2_get cX2_get 2 (some .int), .fieldLink RX2 13 "SpurtClock$Row" "cells" "[I"] ++ wsX00 ++ wsX20)
def wsX0_frameAt : List Cond := .code yX0_frameAt cX0_frameAt 2 (some .int) :: ([.fieldLink RX0 20 "SpurtClock$Arrivals" "frames" "LSpurtClock$Row;", .methodLink RX0 42 yX2_get, .instanceMethod yX2_get, .selects RX2 yX2_get yX2_get, .initialized RX2, .code yX2_get cX2_get 2 (some .int), .fieldLink RX2 13 "SpurtClock$Row" "cells" "[I"] ++ wsX00 ++ wsX20)
def wsX0_whenAt : List Cond := .code yX0_whenAt cX0_whenAt 2 (some .int) :: ([.fieldLink RX0 23 "SpurtClock$Arrivals" "whens" "LSpurtClock$Row;", .methodLink RX0 42 yX2_get, .instanceMethod yX2_get, .selects RX2 yX2_get yX2_get, .initialized RX2, .code yX2_get cX2_get 2 (some .int), .fieldLink RX2 13 "SpurtClock$Row" "cells" "[I"] ++ wsX00 ++ wsX20)
def wsX0_spurtAt : List Cond := .code yX0_spurtAt cX0_spurtAt 2 (some .int) :: ([.fieldLink RX0 26 "SpurtClock$Arrivals" "spurtNumbers" "LSpurtClock$Row;", .methodLink RX0 42 yX2_get, .instanceMethod yX2_get, .selects RX2 yX2_get yX2_get, .initialized RX2, .code yX2_get cX2_get 2 (some .int), .fieldLink RX2 13 "SpurtClock$Row" "cells" "[I"] ++ wsX00 ++ wsX20)
def wsX0_playedAt : List Cond := .code yX0_playedAt cX0_playedAt 2 (some .int) :: ([.fieldLink RX0 29 "SpurtClock$Arrivals" "playTimes" "LSpurtClock$Row;", .methodLink RX0 42 yX2_get, .instanceMethod yX2_get, .selects RX2 yX2_get yX2_get, .initialized RX2, .code yX2_get cX2_get 2 (some .int), .fieldLink RX2 13 "SpurtClock$Row" "cells" "[I"] ++ wsX00 ++ wsX20)
def wsX0_delayAt : List Cond := .code yX0_delayAt cX0_delayAt 2 (some .int) :: ([.fieldLink RX0 23 "SpurtClock$Arrivals" "whens" "LSpurtClock$Row;", .fieldLink RX0 20 "SpurtClock$Arrivals" "frames" "LSpurtClock$Row;", .methodLink RX0 42 yX2_get, .instanceMethod yX2_get, .selects RX2 yX2_get yX2_get, .initialized RX2, .code yX2_get cX2_get 2 (some .int), .fieldLink RX2 13 "SpurtClock$Row" "cells" "[I"] ++ wsX00 ++ wsX20)
def wsX0_latestWhen : List Cond := .code yX0_latestWhen cX0_latestWhen 1 (some .int) :: ([.fieldLink RX0 32 "SpurtClock$Arrivals" "count" "I", .fieldLink RX0 23 "SpurtClock$Arrivals" "whens" "LSpurtClock$Row;", .methodLink RX0 42 yX2_get, .instanceMethod yX2_get, .selects RX2 yX2_get yX2_get, .initialized RX2, .code yX2_get cX2_get 2 (some .int), .fieldLink RX2 13 "SpurtClock$Row" "cells" "[I"] ++ wsX00 ++ wsX20)
def wsX0_delaysAbove : List Cond := .code yX0_delaysAbove cX0_delaysAbove 5 (some .int) :: ([.fieldLink RX0 32 "SpurtClock$Arrivals" "count" "I", .methodLink RX0 46 yX0_delayAt, .instanceMethod yX0_delayAt, .selects RX0 yX0_delayAt yX0_delayAt, .initialized RX0, .code yX0_delayAt cX0_delayAt 2 (some .int), .fieldLink RX0 23 "SpurtClock$Arrivals" "whens" "LSpurtClock$Row;", .fieldLink RX0 20 "SpurtClock$Arrivals" "frames" "LSpurtClock$Row;", .methodLink RX0 42 yX2_get, .instanceMethod yX2_get, .selects RX2 yX2_get yX2_get, .initialized RX2, .code yX2_get cX2_get 2 (some .int), .fieldLink RX2 13 "SpurtClock$Row" "cells" "[I"] ++ wsX00 ++ wsX20)
def wsX2_set : List Cond := .code yX2_set cX2_set 3 none :: ([.fieldLink RX2 13 "SpurtClock$Row" "cells" "[I"] ++ wsX20)
def wsX0_add : List Cond := .code yX0_add cX0_add 4 (some .int) :: ([.fieldLink RX0 32 "SpurtClock$Arrivals" "count" "I", .fieldLink RX0 20 "SpurtClock$Arrivals" "frames" "LSpurtClock$Row;", .fieldLink RX0 23 "SpurtClock$Arrivals" "whens" "LSpurtClock$Row;", .fieldLink RX0 14 "SpurtClock$Arrivals" "placeAfter" "LSpurtClock$Row;", .methodLink RX0 49 yX2_set, .instanceMethod yX2_set, .selects RX2 yX2_set yX2_set, .initialized RX2, .code yX2_set cX2_set 3 none, .fieldLink RX2 13 "SpurtClock$Row" "cells" "[I"] ++ wsX00 ++ wsX20)
def wsX0_settle : List Cond := .code yX0_settle cX0_settle 4 none :: ([.fieldLink RX0 26 "SpurtClock$Arrivals" "spurtNumbers" "LSpurtClock$Row;", .fieldLink RX0 29 "SpurtClock$Arrivals" "playTimes" "LSpurtClock$Row;", .methodLink RX0 49 yX2_set, .instanceMethod yX2_set, .selects RX2 yX2_set yX2_set, .initialized RX2, .code yX2_set cX2_set 3 none, .fieldLink RX2 13 "SpurtClock$Row" "cells" "[I"] ++ wsX00 ++ wsX20)
def wsX0_clear : List Cond := .code yX0_clear cX0_clear 2 none :: ([.fieldLink RX0 32 "SpurtClock$Arrivals" "count" "I", .fieldLink RX0 14 "SpurtClock$Arrivals" "placeAfter" "LSpurtClock$Row;", .fieldLink RX0 20 "SpurtClock$Arrivals" "frames" "LSpurtClock$Row;", .methodLink RX0 42 yX2_get, .instanceMethod yX2_get, .selects RX2 yX2_get yX2_get, .initialized RX2, .code yX2_get cX2_get 2 (some .int), .fieldLink RX2 13 "SpurtClock$Row" "cells" "[I", .methodLink RX0 49 yX2_set, .instanceMethod yX2_set, .selects RX2 yX2_set yX2_set, .code yX2_set cX2_set 3 none] ++ wsX00 ++ wsX20)
def wsX1_init : List Cond := .code yX1_init cX1_init 1 none :: ([.methodLink RX1 3 objectInit, .instanceMethod objectInit, .code objectInit ⟨#[0xb1]⟩ 1 none, .classLink RX1 9 RX2, .instantiable RX2 1, .initialized RX2, .fieldLink RX1 14 "SpurtClock$LowestLine" "cornerFrames" "LSpurtClock$Row;", .fieldLink RX1 20 "SpurtClock$LowestLine" "cornerDelays" "LSpurtClock$Row;", .fieldLink RX1 23 "SpurtClock$LowestLine" "lower" "I", .methodLink RX1 11 yX2_init, .instanceMethod yX2_init, .code yX2_init cX2_init 2 none, .methodLink RX2 1 objectInit, .methodLink RX2 7 Lib.Math.max.name, .static Lib.Math.max.name, .initialized "java/lang/Math", .code Lib.Math.max.name Lib.Math.max.code 2 (some .int), .arrayClass .int, .fieldLink RX2 13 "SpurtClock$Row" "cells" "[I"] ++ wsX20 ++ wsX10)
def wsX1_upper : List Cond := .code yX1_upper cX1_upper 1 (some .int) :: ([.fieldLink RX1 27 "SpurtClock$LowestLine" "upper" "I"] ++ wsX10)
def wsX1_lower : List Cond := .code yX1_lower cX1_lower 1 (some .int) :: ([.fieldLink RX1 23 "SpurtClock$LowestLine" "lower" "I"] ++ wsX10)
def wsX1_lastIsNotBelow : List Cond := .code yX1_lastIsNotBelow cX1_lastIsNotBelow 7 (some .boolean) :: ([.fieldLink RX1 14 "SpurtClock$LowestLine" "cornerFrames" "LSpurtClock$Row;", .fieldLink RX1 30 "SpurtClock$LowestLine" "corners" "I", .fieldLink RX1 20 "SpurtClock$LowestLine" "cornerDelays" "LSpurtClock$Row;", .methodLink RX1 56 yX2_get, .instanceMethod yX2_get, .selects RX2 yX2_get yX2_get, .initialized RX2, .code yX2_get cX2_get 2 (some .int), .fieldLink RX2 13 "SpurtClock$Row" "cells" "[I"] ++ wsX10 ++ wsX20)
def wsX1_addCorner : List Cond := .code yX1_addCorner cX1_addCorner 3 none :: ([.fieldLink RX1 30 "SpurtClock$LowestLine" "corners" "I", .fieldLink RX1 14 "SpurtClock$LowestLine" "cornerFrames" "LSpurtClock$Row;", .fieldLink RX1 20 "SpurtClock$LowestLine" "cornerDelays" "LSpurtClock$Row;", .methodLink RX1 49 yX1_lastIsNotBelow, .instanceMethod yX1_lastIsNotBelow, .selects RX1 yX1_lastIsNotBelow yX1_lastIsNotBelow, .initialized RX1, .code yX1_lastIsNotBelow cX1_lastIsNotBelow 7 (some .boolean), .methodLink RX1 56 yX2_get, .instanceMethod yX2_get, .selects RX2 yX2_get yX2_get, .initialized RX2, .code yX2_get cX2_get 2 (some .int), .fieldLink RX2 13 "SpurtClock$Row" "cells" "[I", .methodLink RX1 53 yX2_set, .instanceMethod yX2_set, .selects RX2 yX2_set yX2_set, .code yX2_set cX2_set 3 none] ++ wsX10 ++ wsX20)
def wsX1_greatestDivisor : List Cond := .code yX1_greatestDivisor cX1_greatestDivisor 6 (some .int) :: ([])
def wsX1_setRise : List Cond := .code yX1_setRise cX1_setRise 4 none :: ([.methodLink RX1 62 Lib.Math.abs.name, .static Lib.Math.abs.name, .initialized "java/lang/Math", .code Lib.Math.abs.name Lib.Math.abs.code 1 (some .int), .fieldLink RX1 27 "SpurtClock$LowestLine" "upper" "I", .fieldLink RX1 23 "SpurtClock$LowestLine" "lower" "I", .methodLink RX1 67 yX1_greatestDivisor, .static yX1_greatestDivisor, .initialized RX1, .code yX1_greatestDivisor cX1_greatestDivisor 6 (some .int)] ++ wsX10)
def wsX1_takeRiseAtMiddle : List Cond := .code yX1_takeRiseAtMiddle cX1_takeRiseAtMiddle 3 none :: ([.fieldLink RX1 14 "SpurtClock$LowestLine" "cornerFrames" "LSpurtClock$Row;", .fieldLink RX1 30 "SpurtClock$LowestLine" "corners" "I", .fieldLink RX1 20 "SpurtClock$LowestLine" "cornerDelays" "LSpurtClock$Row;", .methodLink RX1 56 yX2_get, .instanceMethod yX2_get, .selects RX2 yX2_get yX2_get, .initialized RX2, .code yX2_get cX2_get 2 (some .int), .fieldLink RX2 13 "SpurtClock$Row" "cells" "[I", .methodLink RX1 59 yX1_setRise, .instanceMethod yX1_setRise, .selects RX1 yX1_setRise yX1_setRise, .initialized RX1, .code yX1_setRise cX1_setRise 4 none, .methodLink RX1 62 Lib.Math.abs.name, .static Lib.Math.abs.name, .initialized "java/lang/Math", .code Lib.Math.abs.name Lib.Math.abs.code 1 (some .int), .fieldLink RX1 27 "SpurtClock$LowestLine" "upper" "I", .fieldLink RX1 23 "SpurtClock$LowestLine" "lower" "I", .methodLink RX1 67 yX1_greatestDivisor, .static yX1_greatestDivisor, .code yX1_greatestDivisor cX1_greatestDivisor 6 (some .int)] ++ wsX10 ++ wsX20)
def wsX1_fitUnder_r1 : List Cond := [Cond.fieldLink RX1 30 "SpurtClock$LowestLine" "corners" "I", Cond.fieldLink RX1 27 "SpurtClock$LowestLine" "upper" "I", Cond.fieldLink RX1 23 "SpurtClock$LowestLine" "lower" "I", Cond.methodLink RX1 33 yX0_placeOf, Cond.instanceMethod yX0_placeOf, Cond.selects RX0 yX0_placeOf yX0_placeOf, Cond.initialized RX0, Cond.code yX0_placeOf cX0_placeOf 2 (some .int), Cond.fieldLink RX0 14 "SpurtClock$Arrivals" "placeAfter" "LSpurtClock$Row;", Cond.methodLink RX0 42 yX2_get, Cond.instanceMethod yX2_get, Cond.selects RX2 yX2_get yX2_get, Cond.initialized RX2, Cond.code yX2_get cX2_get 2 (some .int), Cond.fieldLink RX2 13 "SpurtClock$Row" "cells" "[I", Cond.methodLink RX1 39 yX0_delayAt, Cond.instanceMethod yX0_delayAt, Cond.selects RX0 yX0_delayAt yX0_delayAt, Cond.code yX0_delayAt cX0_delayAt 2 (some .int), Cond.fieldLink RX0 23 "SpurtClock$Arrivals" "whens" "LSpurtClock$Row;", Cond.fieldLink RX0 20 "SpurtClock$Arrivals" "frames" "LSpurtClock$Row;", Cond.methodLink RX1 42 yX1_addCorner, Cond.instanceMethod yX1_addCorner, Cond.selects RX1 yX1_addCorner yX1_addCorner]
def wsX1_fitUnder_r2 : List Cond := [Cond.initialized RX1, Cond.code yX1_addCorner cX1_addCorner 3 none, Cond.fieldLink RX1 14 "SpurtClock$LowestLine" "cornerFrames" "LSpurtClock$Row;", Cond.fieldLink RX1 20 "SpurtClock$LowestLine" "cornerDelays" "LSpurtClock$Row;", Cond.methodLink RX1 49 yX1_lastIsNotBelow, Cond.instanceMethod yX1_lastIsNotBelow, Cond.selects RX1 yX1_lastIsNotBelow yX1_lastIsNotBelow, Cond.code yX1_lastIsNotBelow cX1_lastIsNotBelow 7 (some .boolean), Cond.methodLink RX1 56 yX2_get, Cond.methodLink RX1 53 yX2_set, Cond.instanceMethod yX2_set, Cond.selects RX2 yX2_set yX2_set, Cond.code yX2_set cX2_set 3 none, Cond.methodLink RX1 46 yX1_takeRiseAtMiddle, Cond.instanceMethod yX1_takeRiseAtMiddle, Cond.selects RX1 yX1_takeRiseAtMiddle yX1_takeRiseAtMiddle, Cond.code yX1_takeRiseAtMiddle cX1_takeRiseAtMiddle 3 none, Cond.methodLink RX1 59 yX1_setRise, Cond.instanceMethod yX1_setRise, Cond.selects RX1 yX1_setRise yX1_setRise, Cond.code yX1_setRise cX1_setRise 4 none, Cond.methodLink RX1 62 Lib.Math.abs.name, Cond.static Lib.Math.abs.name, Cond.initialized "java/lang/Math"]
def wsX1_fitUnder_r3 : List Cond := [Cond.code Lib.Math.abs.name Lib.Math.abs.code 1 (some .int), Cond.methodLink RX1 67 yX1_greatestDivisor, Cond.static yX1_greatestDivisor, Cond.code yX1_greatestDivisor cX1_greatestDivisor 6 (some .int)]
def wsX1_fitUnder : List Cond := .code yX1_fitUnder cX1_fitUnder 4 none :: ((wsX1_fitUnder_r1 ++ (wsX1_fitUnder_r2 ++ wsX1_fitUnder_r3)) ++ wsX10 ++ wsX00 ++ wsX20)
def wsJ9_floorDiv_7cf53 : List Cond := .code yJ9_floorDiv_7cf53 cJ9_floorDiv_7cf53 3 (some .int) :: ([])
def wsX1_riseOver : List Cond := .code yX1_riseOver cX1_riseOver 2 (some .int) :: ([.fieldLink RX1 23 "SpurtClock$LowestLine" "lower" "I", .fieldLink RX1 27 "SpurtClock$LowestLine" "upper" "I", .methodLink RX1 71 yJ9_floorDiv_7cf53, .static yJ9_floorDiv_7cf53, .initialized RJ9, .code yJ9_floorDiv_7cf53 cJ9_floorDiv_7cf53 3 (some .int)] ++ wsX10)
def wsX2_add : List Cond := .code yX2_add cX2_add 3 none :: ([.methodLink RX2 19 yX2_get, .instanceMethod yX2_get, .selects RX2 yX2_get yX2_get, .initialized RX2, .code yX2_get cX2_get 2 (some .int), .fieldLink RX2 13 "SpurtClock$Row" "cells" "[I", .methodLink RX2 23 yX2_set, .instanceMethod yX2_set, .selects RX2 yX2_set yX2_set, .code yX2_set cX2_set 3 none] ++ wsX20)
def wsX3_init : List Cond := .code yX3_init cX3_init 1 none :: ([.methodLink RX3 3 objectInit, .instanceMethod objectInit, .code objectInit ⟨#[0xb1]⟩ 1 none, .classLink RX3 9 RX2, .instantiable RX2 1, .initialized RX2, .fieldLink RX3 14 "SpurtClock$Sheet" "codes" "LSpurtClock$Row;", .methodLink RX3 11 yX2_init, .instanceMethod yX2_init, .code yX2_init cX2_init 2 none, .methodLink RX2 1 objectInit, .methodLink RX2 7 Lib.Math.max.name, .static Lib.Math.max.name, .initialized "java/lang/Math", .code Lib.Math.max.name Lib.Math.max.code 2 (some .int), .arrayClass .int, .fieldLink RX2 13 "SpurtClock$Row" "cells" "[I"] ++ wsX20 ++ wsX30)
def wsX3_size : List Cond := .code yX3_size cX3_size 1 (some .int) :: ([.fieldLink RX3 20 "SpurtClock$Sheet" "size" "I"] ++ wsX30)
def wsX3_codeAt : List Cond := .code yX3_codeAt cX3_codeAt 2 (some .int) :: ([.fieldLink RX3 14 "SpurtClock$Sheet" "codes" "LSpurtClock$Row;", .methodLink RX3 24 yX2_get, .instanceMethod yX2_get, .selects RX2 yX2_get yX2_get, .initialized RX2, .code yX2_get cX2_get 2 (some .int), .fieldLink RX2 13 "SpurtClock$Row" "cells" "[I"] ++ wsX30 ++ wsX20)
def wsX3_clear : List Cond := .code yX3_clear cX3_clear 1 none :: ([.fieldLink RX3 20 "SpurtClock$Sheet" "size" "I"] ++ wsX30)
def wsX3_put : List Cond := .code yX3_put cX3_put 2 none :: ([.fieldLink RX3 20 "SpurtClock$Sheet" "size" "I", .fieldLink RX3 14 "SpurtClock$Sheet" "codes" "LSpurtClock$Row;", .methodLink RX3 28 yX2_set, .instanceMethod yX2_set, .selects RX2 yX2_set yX2_set, .initialized RX2, .code yX2_set cX2_set 3 none, .fieldLink RX2 13 "SpurtClock$Row" "cells" "[I"] ++ wsX30 ++ wsX20)
def wsJ0_coder_7d493 : List Cond := .code yJ0_coder_7d493 cJ0_coder_7d493 1 (some .byte) :: ([.fieldLink RJ0 38 "java/lang/String" "COMPACT_STRINGS" "Z", .fieldLink RJ0 15 "java/lang/String" "coder" "B"])
def wsJ0_length_8abf5 : List Cond := .code yJ0_length_8abf5 cJ0_length_8abf5 1 (some .int) :: ([.fieldLink RJ0 9 "java/lang/String" "value" "[B", .methodLink RJ0 335 yJ0_coder_7d493, .instanceMethod yJ0_coder_7d493, .selects RJ0 yJ0_coder_7d493 yJ0_coder_7d493, .initialized RJ0, .code yJ0_coder_7d493 cJ0_coder_7d493 1 (some .byte), .fieldLink RJ0 38 "java/lang/String" "COMPACT_STRINGS" "Z", .fieldLink RJ0 15 "java/lang/String" "coder" "B"])
def wsJ0_isLatin1_aae02 : List Cond := .code yJ0_isLatin1_aae02 cJ0_isLatin1_aae02 1 (some .boolean) :: ([.fieldLink RJ0 38 "java/lang/String" "COMPACT_STRINGS" "Z", .fieldLink RJ0 15 "java/lang/String" "coder" "B"])
def wsJ3_checkIndex_8e157 : List Cond := .code yJ3_checkIndex_8e157 cJ3_checkIndex_8e157 3 (some .int) :: ([])
def wsJ0_checkIndex_df160 : List Cond := .code yJ0_checkIndex_df160 cJ0_checkIndex_df160 2 none :: ([.fieldLink RJ0 1053 "jdk/internal/util/Preconditions" "SIOOBE_FORMATTER" "Ljava/util/function/BiFunction;", .methodLink RJ0 1059 yJ3_checkIndex_8e157, .static yJ3_checkIndex_8e157, .initialized RJ3, .code yJ3_checkIndex_8e157 cJ3_checkIndex_8e157 3 (some .int)])
def wsJ1_charAt_3b067 : List Cond := .code yJ1_charAt_3b067 cJ1_charAt_3b067 2 (some .char) :: ([.methodLink RJ1 9 yJ0_checkIndex_df160, .static yJ0_checkIndex_df160, .initialized RJ0, .code yJ0_checkIndex_df160 cJ0_checkIndex_df160 2 none, .fieldLink RJ0 1053 "jdk/internal/util/Preconditions" "SIOOBE_FORMATTER" "Ljava/util/function/BiFunction;", .methodLink RJ0 1059 yJ3_checkIndex_8e157, .static yJ3_checkIndex_8e157, .initialized RJ3, .code yJ3_checkIndex_8e157 cJ3_checkIndex_8e157 3 (some .int)])
def wsJ2_length_9d52b : List Cond := .code yJ2_length_9d52b cJ2_length_9d52b 1 (some .int) :: ([])
def wsJ2_checkIndex_2214a : List Cond := .code yJ2_checkIndex_2214a cJ2_checkIndex_2214a 2 none :: ([.methodLink RJ2 48 yJ2_length_9d52b, .static yJ2_length_9d52b, .initialized RJ2, .code yJ2_length_9d52b cJ2_length_9d52b 1 (some .int), .methodLink RJ2 414 yJ0_checkIndex_df160, .static yJ0_checkIndex_df160, .initialized RJ0, .code yJ0_checkIndex_df160 cJ0_checkIndex_df160 2 none, .fieldLink RJ0 1053 "jdk/internal/util/Preconditions" "SIOOBE_FORMATTER" "Ljava/util/function/BiFunction;", .methodLink RJ0 1059 yJ3_checkIndex_8e157, .static yJ3_checkIndex_8e157, .initialized RJ3, .code yJ3_checkIndex_8e157 cJ3_checkIndex_8e157 3 (some .int)])
def wsJ2_getChar_3b067 : List Cond := .code yJ2_getChar_3b067 cJ2_getChar_3b067 2 (some .char) :: ([.fieldLink RJ2 44 "java/lang/StringUTF16" "$assertionsDisabled" "Z", .fieldLink RJ2 59 "java/lang/StringUTF16" "HI_BYTE_SHIFT" "I", .fieldLink RJ2 63 "java/lang/StringUTF16" "LO_BYTE_SHIFT" "I", .methodLink RJ2 48 yJ2_length_9d52b, .static yJ2_length_9d52b, .initialized RJ2, .code yJ2_length_9d52b cJ2_length_9d52b 1 (some .int)])
def wsJ2_charAt_3b067 : List Cond := .code yJ2_charAt_3b067 cJ2_charAt_3b067 2 (some .char) :: ([.methodLink RJ2 67 yJ2_checkIndex_2214a, .static yJ2_checkIndex_2214a, .initialized RJ2, .code yJ2_checkIndex_2214a cJ2_checkIndex_2214a 2 none, .methodLink RJ2 48 yJ2_length_9d52b, .static yJ2_length_9d52b, .code yJ2_length_9d52b cJ2_length_9d52b 1 (some .int), .methodLink RJ2 414 yJ0_checkIndex_df160, .static yJ0_checkIndex_df160, .initialized RJ0, .code yJ0_checkIndex_df160 cJ0_checkIndex_df160 2 none, .fieldLink RJ0 1053 "jdk/internal/util/Preconditions" "SIOOBE_FORMATTER" "Ljava/util/function/BiFunction;", .methodLink RJ0 1059 yJ3_checkIndex_8e157, .static yJ3_checkIndex_8e157, .initialized RJ3, .code yJ3_checkIndex_8e157 cJ3_checkIndex_8e157 3 (some .int), .methodLink RJ2 71 yJ2_getChar_3b067, .static yJ2_getChar_3b067, .code yJ2_getChar_3b067 cJ2_getChar_3b067 2 (some .char), .fieldLink RJ2 44 "java/lang/StringUTF16" "$assertionsDisabled" "Z", .fieldLink RJ2 59 "java/lang/StringUTF16" "HI_BYTE_SHIFT" "I", .fieldLink RJ2 63 "java/lang/StringUTF16" "LO_BYTE_SHIFT" "I"])
def wsJ0_charAt_5068e_r1 : List Cond := [Cond.fieldLink RJ0 9 "java/lang/String" "value" "[B", Cond.methodLink RJ0 492 yJ0_isLatin1_aae02, Cond.instanceMethod yJ0_isLatin1_aae02, Cond.selects RJ0 yJ0_isLatin1_aae02 yJ0_isLatin1_aae02, Cond.initialized RJ0, Cond.code yJ0_isLatin1_aae02 cJ0_isLatin1_aae02 1 (some .boolean), Cond.fieldLink RJ0 38 "java/lang/String" "COMPACT_STRINGS" "Z", Cond.fieldLink RJ0 15 "java/lang/String" "coder" "B", Cond.methodLink RJ0 495 yJ1_charAt_3b067, Cond.static yJ1_charAt_3b067, Cond.initialized RJ1, Cond.code yJ1_charAt_3b067 cJ1_charAt_3b067 2 (some .char), Cond.methodLink RJ1 9 yJ0_checkIndex_df160, Cond.static yJ0_checkIndex_df160, Cond.code yJ0_checkIndex_df160 cJ0_checkIndex_df160 2 none, Cond.fieldLink RJ0 1053 "jdk/internal/util/Preconditions" "SIOOBE_FORMATTER" "Ljava/util/function/BiFunction;", Cond.methodLink RJ0 1059 yJ3_checkIndex_8e157, Cond.static yJ3_checkIndex_8e157, Cond.initialized RJ3, Cond.code yJ3_checkIndex_8e157 cJ3_checkIndex_8e157 3 (some .int), Cond.methodLink RJ0 498 yJ2_charAt_3b067, Cond.static yJ2_charAt_3b067, Cond.initialized RJ2, Cond.code yJ2_charAt_3b067 cJ2_charAt_3b067 2 (some .char)]
def wsJ0_charAt_5068e_r2 : List Cond := [Cond.methodLink RJ2 67 yJ2_checkIndex_2214a, Cond.static yJ2_checkIndex_2214a, Cond.code yJ2_checkIndex_2214a cJ2_checkIndex_2214a 2 none, Cond.methodLink RJ2 48 yJ2_length_9d52b, Cond.static yJ2_length_9d52b, Cond.code yJ2_length_9d52b cJ2_length_9d52b 1 (some .int), Cond.methodLink RJ2 414 yJ0_checkIndex_df160, Cond.methodLink RJ2 71 yJ2_getChar_3b067, Cond.static yJ2_getChar_3b067, Cond.code yJ2_getChar_3b067 cJ2_getChar_3b067 2 (some .char), Cond.fieldLink RJ2 44 "java/lang/StringUTF16" "$assertionsDisabled" "Z", Cond.fieldLink RJ2 59 "java/lang/StringUTF16" "HI_BYTE_SHIFT" "I", Cond.fieldLink RJ2 63 "java/lang/StringUTF16" "LO_BYTE_SHIFT" "I"]
def wsJ0_charAt_5068e : List Cond := .code yJ0_charAt_5068e cJ0_charAt_5068e 2 (some .char) :: ((wsJ0_charAt_5068e_r1 ++ wsJ0_charAt_5068e_r2))
def wsX3_putWord_r1 : List Cond := [Cond.methodLink RX3 32 yJ0_length_8abf5, Cond.instanceMethod yJ0_length_8abf5, Cond.selects RJ0 yJ0_length_8abf5 yJ0_length_8abf5, Cond.initialized RJ0, Cond.code yJ0_length_8abf5 cJ0_length_8abf5 1 (some .int), Cond.fieldLink RJ0 9 "java/lang/String" "value" "[B", Cond.methodLink RJ0 335 yJ0_coder_7d493, Cond.instanceMethod yJ0_coder_7d493, Cond.selects RJ0 yJ0_coder_7d493 yJ0_coder_7d493, Cond.code yJ0_coder_7d493 cJ0_coder_7d493 1 (some .byte), Cond.fieldLink RJ0 38 "java/lang/String" "COMPACT_STRINGS" "Z", Cond.fieldLink RJ0 15 "java/lang/String" "coder" "B", Cond.methodLink RX3 38 yJ0_charAt_5068e, Cond.instanceMethod yJ0_charAt_5068e, Cond.selects RJ0 yJ0_charAt_5068e yJ0_charAt_5068e, Cond.code yJ0_charAt_5068e cJ0_charAt_5068e 2 (some .char), Cond.methodLink RJ0 492 yJ0_isLatin1_aae02, Cond.instanceMethod yJ0_isLatin1_aae02, Cond.selects RJ0 yJ0_isLatin1_aae02 yJ0_isLatin1_aae02, Cond.code yJ0_isLatin1_aae02 cJ0_isLatin1_aae02 1 (some .boolean), Cond.methodLink RJ0 495 yJ1_charAt_3b067, Cond.static yJ1_charAt_3b067, Cond.initialized RJ1, Cond.code yJ1_charAt_3b067 cJ1_charAt_3b067 2 (some .char)]
def wsX3_putWord_r2 : List Cond := [Cond.methodLink RJ1 9 yJ0_checkIndex_df160, Cond.static yJ0_checkIndex_df160, Cond.code yJ0_checkIndex_df160 cJ0_checkIndex_df160 2 none, Cond.fieldLink RJ0 1053 "jdk/internal/util/Preconditions" "SIOOBE_FORMATTER" "Ljava/util/function/BiFunction;", Cond.methodLink RJ0 1059 yJ3_checkIndex_8e157, Cond.static yJ3_checkIndex_8e157, Cond.initialized RJ3, Cond.code yJ3_checkIndex_8e157 cJ3_checkIndex_8e157 3 (some .int), Cond.methodLink RJ0 498 yJ2_charAt_3b067, Cond.static yJ2_charAt_3b067, Cond.initialized RJ2, Cond.code yJ2_charAt_3b067 cJ2_charAt_3b067 2 (some .char), Cond.methodLink RJ2 67 yJ2_checkIndex_2214a, Cond.static yJ2_checkIndex_2214a, Cond.code yJ2_checkIndex_2214a cJ2_checkIndex_2214a 2 none, Cond.methodLink RJ2 48 yJ2_length_9d52b, Cond.static yJ2_length_9d52b, Cond.code yJ2_length_9d52b cJ2_length_9d52b 1 (some .int), Cond.methodLink RJ2 414 yJ0_checkIndex_df160, Cond.methodLink RJ2 71 yJ2_getChar_3b067, Cond.static yJ2_getChar_3b067, Cond.code yJ2_getChar_3b067 cJ2_getChar_3b067 2 (some .char), Cond.fieldLink RJ2 44 "java/lang/StringUTF16" "$assertionsDisabled" "Z", Cond.fieldLink RJ2 59 "java/lang/StringUTF16" "HI_BYTE_SHIFT" "I"]
def wsX3_putWord_r3 : List Cond := [Cond.fieldLink RJ2 63 "java/lang/StringUTF16" "LO_BYTE_SHIFT" "I", Cond.methodLink RX3 42 yX3_put, Cond.instanceMethod yX3_put, Cond.selects RX3 yX3_put yX3_put, Cond.initialized RX3, Cond.code yX3_put cX3_put 2 none, Cond.fieldLink RX3 20 "SpurtClock$Sheet" "size" "I", Cond.fieldLink RX3 14 "SpurtClock$Sheet" "codes" "LSpurtClock$Row;", Cond.methodLink RX3 28 yX2_set, Cond.instanceMethod yX2_set, Cond.selects RX2 yX2_set yX2_set, Cond.initialized RX2, Cond.code yX2_set cX2_set 3 none, Cond.fieldLink RX2 13 "SpurtClock$Row" "cells" "[I"]
def wsX3_putWord : List Cond := .code yX3_putWord cX3_putWord 3 none :: ((wsX3_putWord_r1 ++ (wsX3_putWord_r2 ++ wsX3_putWord_r3)) ++ wsX30 ++ wsX20)
def wsX3_putNumber : List Cond := .code yX3_putNumber cX3_putNumber 6 none :: ([.constant RX3 45 (1000000000), .methodLink RX3 42 yX3_put, .instanceMethod yX3_put, .selects RX3 yX3_put yX3_put, .initialized RX3, .code yX3_put cX3_put 2 none, .fieldLink RX3 20 "SpurtClock$Sheet" "size" "I", .fieldLink RX3 14 "SpurtClock$Sheet" "codes" "LSpurtClock$Row;", .methodLink RX3 28 yX2_set, .instanceMethod yX2_set, .selects RX2 yX2_set yX2_set, .initialized RX2, .code yX2_set cX2_set 3 none, .fieldLink RX2 13 "SpurtClock$Row" "cells" "[I"] ++ wsX30 ++ wsX20)
def wsX4_init : List Cond := .code yX4_init cX4_init 1 none :: ([.methodLink RX4 3 objectInit, .instanceMethod objectInit, .code objectInit ⟨#[0xb1]⟩ 1 none, .classLink RX4 9 RX2, .instantiable RX2 1, .initialized RX2, .fieldLink RX4 14 "SpurtClock$Spurts" "heads" "LSpurtClock$Row;", .fieldLink RX4 20 "SpurtClock$Spurts" "pauses" "LSpurtClock$Row;", .fieldLink RX4 23 "SpurtClock$Spurts" "times" "LSpurtClock$Row;", .fieldLink RX4 26 "SpurtClock$Spurts" "manners" "LSpurtClock$Row;", .fieldLink RX4 29 "SpurtClock$Spurts" "came" "LSpurtClock$Row;", .fieldLink RX4 32 "SpurtClock$Spurts" "played" "LSpurtClock$Row;", .fieldLink RX4 35 "SpurtClock$Spurts" "greatest" "LSpurtClock$Row;", .fieldLink RX4 38 "SpurtClock$Spurts" "ranked" "LSpurtClock$Row;", .methodLink RX4 11 yX2_init, .instanceMethod yX2_init, .code yX2_init cX2_init 2 none, .methodLink RX2 1 objectInit, .methodLink RX2 7 Lib.Math.max.name, .static Lib.Math.max.name, .initialized "java/lang/Math", .code Lib.Math.max.name Lib.Math.max.code 2 (some .int), .arrayClass .int, .fieldLink RX2 13 "SpurtClock$Row" "cells" "[I"] ++ wsX20 ++ wsX40)
def wsX4_count : List Cond := .code yX4_count cX4_count 1 (some .int) :: ([.fieldLink RX4 41 "SpurtClock$Spurts" "count" "I"] ++ wsX40)
def wsX4_headOf : List Cond := .code yX4_headOf cX4_headOf 2 (some .int) :: ([.fieldLink RX4 14 "SpurtClock$Spurts" "heads" "LSpurtClock$Row;", .methodLink RX4 45 yX2_get, .instanceMethod yX2_get, .selects RX2 yX2_get yX2_get, .initialized RX2, .code yX2_get cX2_get 2 (some .int), .fieldLink RX2 13 "SpurtClock$Row" "cells" "[I"] ++ wsX40 ++ wsX20)
def wsX4_pauseOf : List Cond := .code yX4_pauseOf cX4_pauseOf 2 (some .int) :: ([.fieldLink RX4 20 "SpurtClock$Spurts" "pauses" "LSpurtClock$Row;", .methodLink RX4 45 yX2_get, .instanceMethod yX2_get, .selects RX2 yX2_get yX2_get, .initialized RX2, .code yX2_get cX2_get 2 (some .int), .fieldLink RX2 13 "SpurtClock$Row" "cells" "[I"] ++ wsX40 ++ wsX20)
def wsX4_timeOf : List Cond := .code yX4_timeOf cX4_timeOf 2 (some .int) :: ([.fieldLink RX4 23 "SpurtClock$Spurts" "times" "LSpurtClock$Row;", .methodLink RX4 45 yX2_get, .instanceMethod yX2_get, .selects RX2 yX2_get yX2_get, .initialized RX2, .code yX2_get cX2_get 2 (some .int), .fieldLink RX2 13 "SpurtClock$Row" "cells" "[I"] ++ wsX40 ++ wsX20)
def wsX4_mannerOf : List Cond := .code yX4_mannerOf cX4_mannerOf 2 (some .int) :: ([.fieldLink RX4 26 "SpurtClock$Spurts" "manners" "LSpurtClock$Row;", .methodLink RX4 45 yX2_get, .instanceMethod yX2_get, .selects RX2 yX2_get yX2_get, .initialized RX2, .code yX2_get cX2_get 2 (some .int), .fieldLink RX2 13 "SpurtClock$Row" "cells" "[I"] ++ wsX40 ++ wsX20)
def wsX4_cameOf : List Cond := .code yX4_cameOf cX4_cameOf 2 (some .int) :: ([.fieldLink RX4 29 "SpurtClock$Spurts" "came" "LSpurtClock$Row;", .methodLink RX4 45 yX2_get, .instanceMethod yX2_get, .selects RX2 yX2_get yX2_get, .initialized RX2, .code yX2_get cX2_get 2 (some .int), .fieldLink RX2 13 "SpurtClock$Row" "cells" "[I"] ++ wsX40 ++ wsX20)
def wsX4_playedOf : List Cond := .code yX4_playedOf cX4_playedOf 2 (some .int) :: ([.fieldLink RX4 32 "SpurtClock$Spurts" "played" "LSpurtClock$Row;", .methodLink RX4 45 yX2_get, .instanceMethod yX2_get, .selects RX2 yX2_get yX2_get, .initialized RX2, .code yX2_get cX2_get 2 (some .int), .fieldLink RX2 13 "SpurtClock$Row" "cells" "[I"] ++ wsX40 ++ wsX20)
def wsX4_greatestOf : List Cond := .code yX4_greatestOf cX4_greatestOf 2 (some .int) :: ([.fieldLink RX4 35 "SpurtClock$Spurts" "greatest" "LSpurtClock$Row;", .methodLink RX4 45 yX2_get, .instanceMethod yX2_get, .selects RX2 yX2_get yX2_get, .initialized RX2, .code yX2_get cX2_get 2 (some .int), .fieldLink RX2 13 "SpurtClock$Row" "cells" "[I"] ++ wsX40 ++ wsX20)
def wsX4_missingOf : List Cond := .code yX4_missingOf cX4_missingOf 2 (some .int) :: ([.fieldLink RX4 35 "SpurtClock$Spurts" "greatest" "LSpurtClock$Row;", .fieldLink RX4 14 "SpurtClock$Spurts" "heads" "LSpurtClock$Row;", .fieldLink RX4 29 "SpurtClock$Spurts" "came" "LSpurtClock$Row;", .methodLink RX4 45 yX2_get, .instanceMethod yX2_get, .selects RX2 yX2_get yX2_get, .initialized RX2, .code yX2_get cX2_get 2 (some .int), .fieldLink RX2 13 "SpurtClock$Row" "cells" "[I"] ++ wsX40 ++ wsX20)
def wsX4_atRank : List Cond := .code yX4_atRank cX4_atRank 2 (some .int) :: ([.fieldLink RX4 38 "SpurtClock$Spurts" "ranked" "LSpurtClock$Row;", .methodLink RX4 45 yX2_get, .instanceMethod yX2_get, .selects RX2 yX2_get yX2_get, .initialized RX2, .code yX2_get cX2_get 2 (some .int), .fieldLink RX2 13 "SpurtClock$Row" "cells" "[I"] ++ wsX40 ++ wsX20)
def wsX4_playedOfAll : List Cond := .code yX4_playedOfAll cX4_playedOfAll 3 (some .int) :: ([.fieldLink RX4 41 "SpurtClock$Spurts" "count" "I", .methodLink RX4 49 yX4_playedOf, .instanceMethod yX4_playedOf, .selects RX4 yX4_playedOf yX4_playedOf, .initialized RX4, .code yX4_playedOf cX4_playedOf 2 (some .int), .fieldLink RX4 32 "SpurtClock$Spurts" "played" "LSpurtClock$Row;", .methodLink RX4 45 yX2_get, .instanceMethod yX2_get, .selects RX2 yX2_get yX2_get, .initialized RX2, .code yX2_get cX2_get 2 (some .int), .fieldLink RX2 13 "SpurtClock$Row" "cells" "[I"] ++ wsX40 ++ wsX20)
def wsX4_missingOfAll : List Cond := .code yX4_missingOfAll cX4_missingOfAll 3 (some .int) :: ([.fieldLink RX4 41 "SpurtClock$Spurts" "count" "I", .methodLink RX4 52 yX4_missingOf, .instanceMethod yX4_missingOf, .selects RX4 yX4_missingOf yX4_missingOf, .initialized RX4, .code yX4_missingOf cX4_missingOf 2 (some .int), .fieldLink RX4 35 "SpurtClock$Spurts" "greatest" "LSpurtClock$Row;", .fieldLink RX4 14 "SpurtClock$Spurts" "heads" "LSpurtClock$Row;", .fieldLink RX4 29 "SpurtClock$Spurts" "came" "LSpurtClock$Row;", .methodLink RX4 45 yX2_get, .instanceMethod yX2_get, .selects RX2 yX2_get yX2_get, .initialized RX2, .code yX2_get cX2_get 2 (some .int), .fieldLink RX2 13 "SpurtClock$Row" "cells" "[I"] ++ wsX40 ++ wsX20)
def wsX4_withHead : List Cond := .code yX4_withHead cX4_withHead 3 (some .int) :: ([.fieldLink RX4 41 "SpurtClock$Spurts" "count" "I", .fieldLink RX4 14 "SpurtClock$Spurts" "heads" "LSpurtClock$Row;", .methodLink RX4 45 yX2_get, .instanceMethod yX2_get, .selects RX2 yX2_get yX2_get, .initialized RX2, .code yX2_get cX2_get 2 (some .int), .fieldLink RX2 13 "SpurtClock$Row" "cells" "[I"] ++ wsX40 ++ wsX20)
def wsX4_isInTheWay : List Cond := .code yX4_isInTheWay cX4_isInTheWay 6 (some .boolean) :: ([.fieldLink RX4 14 "SpurtClock$Spurts" "heads" "LSpurtClock$Row;", .fieldLink RX4 35 "SpurtClock$Spurts" "greatest" "LSpurtClock$Row;", .fieldLink RX4 20 "SpurtClock$Spurts" "pauses" "LSpurtClock$Row;", .methodLink RX4 45 yX2_get, .instanceMethod yX2_get, .selects RX2 yX2_get yX2_get, .initialized RX2, .code yX2_get cX2_get 2 (some .int), .fieldLink RX2 13 "SpurtClock$Row" "cells" "[I"] ++ wsX40 ++ wsX20)
def wsX4_bar : List Cond := .code yX4_bar cX4_bar 6 (some .boolean) :: ([.fieldLink RX4 41 "SpurtClock$Spurts" "count" "I", .fieldLink RX4 14 "SpurtClock$Spurts" "heads" "LSpurtClock$Row;", .fieldLink RX4 20 "SpurtClock$Spurts" "pauses" "LSpurtClock$Row;", .methodLink RX4 45 yX2_get, .instanceMethod yX2_get, .selects RX2 yX2_get yX2_get, .initialized RX2, .code yX2_get cX2_get 2 (some .int), .fieldLink RX2 13 "SpurtClock$Row" "cells" "[I", .methodLink RX4 55 yX4_isInTheWay, .instanceMethod yX4_isInTheWay, .selects RX4 yX4_isInTheWay yX4_isInTheWay, .initialized RX4, .code yX4_isInTheWay cX4_isInTheWay 6 (some .boolean), .fieldLink RX4 35 "SpurtClock$Spurts" "greatest" "LSpurtClock$Row;"] ++ wsX40 ++ wsX20)
def wsX4_headsBelow : List Cond := .code yX4_headsBelow cX4_headsBelow 4 (some .int) :: ([.fieldLink RX4 41 "SpurtClock$Spurts" "count" "I", .fieldLink RX4 14 "SpurtClock$Spurts" "heads" "LSpurtClock$Row;", .methodLink RX4 45 yX2_get, .instanceMethod yX2_get, .selects RX2 yX2_get yX2_get, .initialized RX2, .code yX2_get cX2_get 2 (some .int), .fieldLink RX2 13 "SpurtClock$Row" "cells" "[I"] ++ wsX40 ++ wsX20)
def wsX4_timeInTurn : List Cond := .code yX4_timeInTurn cX4_timeInTurn 7 (some .int) :: ([.fieldLink RX4 38 "SpurtClock$Spurts" "ranked" "LSpurtClock$Row;", .fieldLink RX4 23 "SpurtClock$Spurts" "times" "LSpurtClock$Row;", .methodLink RX4 62 Lib.Math.max.name, .static Lib.Math.max.name, .initialized "java/lang/Math", .code Lib.Math.max.name Lib.Math.max.code 2 (some .int), .fieldLink RX4 41 "SpurtClock$Spurts" "count" "I", .fieldLink RX4 20 "SpurtClock$Spurts" "pauses" "LSpurtClock$Row;", .methodLink RX4 68 Lib.Math.min.name, .static Lib.Math.min.name, .code Lib.Math.min.name Lib.Math.min.code 2 (some .int), .methodLink RX4 59 yX4_headsBelow, .instanceMethod yX4_headsBelow, .selects RX4 yX4_headsBelow yX4_headsBelow, .initialized RX4, .code yX4_headsBelow cX4_headsBelow 4 (some .int), .fieldLink RX4 14 "SpurtClock$Spurts" "heads" "LSpurtClock$Row;", .methodLink RX4 45 yX2_get, .instanceMethod yX2_get, .selects RX2 yX2_get yX2_get, .initialized RX2, .code yX2_get cX2_get 2 (some .int), .fieldLink RX2 13 "SpurtClock$Row" "cells" "[I"] ++ wsX40 ++ wsX20)
def wsX4_add : List Cond := .code yX4_add cX4_add 8 (some .int) :: ([.fieldLink RX4 41 "SpurtClock$Spurts" "count" "I", .fieldLink RX4 38 "SpurtClock$Spurts" "ranked" "LSpurtClock$Row;", .fieldLink RX4 14 "SpurtClock$Spurts" "heads" "LSpurtClock$Row;", .fieldLink RX4 20 "SpurtClock$Spurts" "pauses" "LSpurtClock$Row;", .fieldLink RX4 23 "SpurtClock$Spurts" "times" "LSpurtClock$Row;", .fieldLink RX4 26 "SpurtClock$Spurts" "manners" "LSpurtClock$Row;", .fieldLink RX4 29 "SpurtClock$Spurts" "came" "LSpurtClock$Row;", .fieldLink RX4 32 "SpurtClock$Spurts" "played" "LSpurtClock$Row;", .fieldLink RX4 35 "SpurtClock$Spurts" "greatest" "LSpurtClock$Row;", .methodLink RX4 59 yX4_headsBelow, .instanceMethod yX4_headsBelow, .selects RX4 yX4_headsBelow yX4_headsBelow, .initialized RX4, .code yX4_headsBelow cX4_headsBelow 4 (some .int), .methodLink RX4 45 yX2_get, .instanceMethod yX2_get, .selects RX2 yX2_get yX2_get, .initialized RX2, .code yX2_get cX2_get 2 (some .int), .fieldLink RX2 13 "SpurtClock$Row" "cells" "[I", .methodLink RX4 71 yX2_set, .instanceMethod yX2_set, .selects RX2 yX2_set yX2_set, .code yX2_set cX2_set 3 none] ++ wsX40 ++ wsX20)
def wsX4_countFrame : List Cond := .code yX4_countFrame cX4_countFrame 4 none :: ([.fieldLink RX4 29 "SpurtClock$Spurts" "came" "LSpurtClock$Row;", .fieldLink RX4 32 "SpurtClock$Spurts" "played" "LSpurtClock$Row;", .fieldLink RX4 35 "SpurtClock$Spurts" "greatest" "LSpurtClock$Row;", .methodLink RX4 62 Lib.Math.max.name, .static Lib.Math.max.name, .initialized "java/lang/Math", .code Lib.Math.max.name Lib.Math.max.code 2 (some .int), .methodLink RX4 75 yX2_add, .instanceMethod yX2_add, .selects RX2 yX2_add yX2_add, .initialized RX2, .code yX2_add cX2_add 3 none, .methodLink RX2 19 yX2_get, .instanceMethod yX2_get, .selects RX2 yX2_get yX2_get, .code yX2_get cX2_get 2 (some .int), .fieldLink RX2 13 "SpurtClock$Row" "cells" "[I", .methodLink RX2 23 yX2_set, .instanceMethod yX2_set, .selects RX2 yX2_set yX2_set, .code yX2_set cX2_set 3 none, .methodLink RX4 45 yX2_get, .methodLink RX4 71 yX2_set] ++ wsX40 ++ wsX20)
def wsX4_clear : List Cond := .code yX4_clear cX4_clear 1 none :: ([.fieldLink RX4 41 "SpurtClock$Spurts" "count" "I"] ++ wsX40)
def wsX5_init : List Cond := .code yX5_init cX5_init 1 none :: ([.methodLink RX5 1 objectInit, .instanceMethod objectInit, .code objectInit ⟨#[0xb1]⟩ 1 none])
def wsX5_isOn : List Cond := .code yX5_isOn cX5_isOn 1 (some .boolean) :: ([.fieldLink RX5 7 "SpurtClock$Surge" "on" "Z"] ++ wsX50)
def wsX5_base : List Cond := .code yX5_base cX5_base 1 (some .int) :: ([.fieldLink RX5 13 "SpurtClock$Surge" "base" "I"] ++ wsX50)
def wsX5_begun : List Cond := .code yX5_begun cX5_begun 1 (some .int) :: ([.fieldLink RX5 17 "SpurtClock$Surge" "begun" "I"] ++ wsX50)
def wsX5_follow : List Cond := .code yX5_follow cX5_follow 4 none :: ([.fieldLink RX5 7 "SpurtClock$Surge" "on" "Z", .fieldLink RX5 13 "SpurtClock$Surge" "base" "I", .fieldLink RX5 17 "SpurtClock$Surge" "begun" "I"] ++ wsX50)
def wsX5_clear : List Cond := .code yX5_clear cX5_clear 1 none :: ([.fieldLink RX5 7 "SpurtClock$Surge" "on" "Z", .fieldLink RX5 17 "SpurtClock$Surge" "begun" "I"] ++ wsX50)
def wsX6_init : List Cond := .code yX6_init cX6_init 1 none :: ([.methodLink RX6 3 objectInit, .instanceMethod objectInit, .code objectInit ⟨#[0xb1]⟩ 1 none, .classLink RX6 9 RX2, .instantiable RX2 1, .initialized RX2, .fieldLink RX6 14 "SpurtClock$Tape" "codes" "LSpurtClock$Row;", .methodLink RX6 11 yX2_init, .instanceMethod yX2_init, .code yX2_init cX2_init 2 none, .methodLink RX2 1 objectInit, .methodLink RX2 7 Lib.Math.max.name, .static Lib.Math.max.name, .initialized "java/lang/Math", .code Lib.Math.max.name Lib.Math.max.code 2 (some .int), .arrayClass .int, .fieldLink RX2 13 "SpurtClock$Row" "cells" "[I"] ++ wsX20 ++ wsX60)
def wsX6_size : List Cond := .code yX6_size cX6_size 1 (some .int) :: ([.fieldLink RX6 20 "SpurtClock$Tape" "size" "I"] ++ wsX60)
def wsX6_add : List Cond := .code yX6_add cX6_add 2 none :: ([.fieldLink RX6 20 "SpurtClock$Tape" "size" "I", .fieldLink RX6 14 "SpurtClock$Tape" "codes" "LSpurtClock$Row;", .methodLink RX6 24 yX2_set, .instanceMethod yX2_set, .selects RX2 yX2_set yX2_set, .initialized RX2, .code yX2_set cX2_set 3 none, .fieldLink RX2 13 "SpurtClock$Row" "cells" "[I"] ++ wsX60 ++ wsX20)
def wsX6_clear : List Cond := .code yX6_clear cX6_clear 1 none :: ([.fieldLink RX6 20 "SpurtClock$Tape" "size" "I"] ++ wsX60)
def wsX6_spells_r1 : List Cond := [Cond.fieldLink RX6 20 "SpurtClock$Tape" "size" "I", Cond.fieldLink RX6 14 "SpurtClock$Tape" "codes" "LSpurtClock$Row;", Cond.methodLink RX6 28 yJ0_length_8abf5, Cond.instanceMethod yJ0_length_8abf5, Cond.selects RJ0 yJ0_length_8abf5 yJ0_length_8abf5, Cond.initialized RJ0, Cond.code yJ0_length_8abf5 cJ0_length_8abf5 1 (some .int), Cond.fieldLink RJ0 9 "java/lang/String" "value" "[B", Cond.methodLink RJ0 335 yJ0_coder_7d493, Cond.instanceMethod yJ0_coder_7d493, Cond.selects RJ0 yJ0_coder_7d493 yJ0_coder_7d493, Cond.code yJ0_coder_7d493 cJ0_coder_7d493 1 (some .byte), Cond.fieldLink RJ0 38 "java/lang/String" "COMPACT_STRINGS" "Z", Cond.fieldLink RJ0 15 "java/lang/String" "coder" "B", Cond.methodLink RX6 34 yJ0_charAt_5068e, Cond.instanceMethod yJ0_charAt_5068e, Cond.selects RJ0 yJ0_charAt_5068e yJ0_charAt_5068e, Cond.code yJ0_charAt_5068e cJ0_charAt_5068e 2 (some .char), Cond.methodLink RJ0 492 yJ0_isLatin1_aae02, Cond.instanceMethod yJ0_isLatin1_aae02, Cond.selects RJ0 yJ0_isLatin1_aae02 yJ0_isLatin1_aae02, Cond.code yJ0_isLatin1_aae02 cJ0_isLatin1_aae02 1 (some .boolean), Cond.methodLink RJ0 495 yJ1_charAt_3b067, Cond.static yJ1_charAt_3b067]
def wsX6_spells_r2 : List Cond := [Cond.initialized RJ1, Cond.code yJ1_charAt_3b067 cJ1_charAt_3b067 2 (some .char), Cond.methodLink RJ1 9 yJ0_checkIndex_df160, Cond.static yJ0_checkIndex_df160, Cond.code yJ0_checkIndex_df160 cJ0_checkIndex_df160 2 none, Cond.fieldLink RJ0 1053 "jdk/internal/util/Preconditions" "SIOOBE_FORMATTER" "Ljava/util/function/BiFunction;", Cond.methodLink RJ0 1059 yJ3_checkIndex_8e157, Cond.static yJ3_checkIndex_8e157, Cond.initialized RJ3, Cond.code yJ3_checkIndex_8e157 cJ3_checkIndex_8e157 3 (some .int), Cond.methodLink RJ0 498 yJ2_charAt_3b067, Cond.static yJ2_charAt_3b067, Cond.initialized RJ2, Cond.code yJ2_charAt_3b067 cJ2_charAt_3b067 2 (some .char), Cond.methodLink RJ2 67 yJ2_checkIndex_2214a, Cond.static yJ2_checkIndex_2214a, Cond.code yJ2_checkIndex_2214a cJ2_checkIndex_2214a 2 none, Cond.methodLink RJ2 48 yJ2_length_9d52b, Cond.static yJ2_length_9d52b, Cond.code yJ2_length_9d52b cJ2_length_9d52b 1 (some .int), Cond.methodLink RJ2 414 yJ0_checkIndex_df160, Cond.methodLink RJ2 71 yJ2_getChar_3b067, Cond.static yJ2_getChar_3b067, Cond.code yJ2_getChar_3b067 cJ2_getChar_3b067 2 (some .char)]
def wsX6_spells_r3 : List Cond := [Cond.fieldLink RJ2 44 "java/lang/StringUTF16" "$assertionsDisabled" "Z", Cond.fieldLink RJ2 59 "java/lang/StringUTF16" "HI_BYTE_SHIFT" "I", Cond.fieldLink RJ2 63 "java/lang/StringUTF16" "LO_BYTE_SHIFT" "I", Cond.methodLink RX6 38 yX2_get, Cond.instanceMethod yX2_get, Cond.selects RX2 yX2_get yX2_get, Cond.initialized RX2, Cond.code yX2_get cX2_get 2 (some .int), Cond.fieldLink RX2 13 "SpurtClock$Row" "cells" "[I"]
def wsX6_spells : List Cond := .code yX6_spells cX6_spells 3 (some .boolean) :: ((wsX6_spells_r1 ++ (wsX6_spells_r2 ++ wsX6_spells_r3)) ++ wsX60 ++ wsX20)
def wsX7_init : List Cond := .code yX7_init cX7_init 1 none :: ([.methodLink RX7 3 objectInit, .instanceMethod objectInit, .code objectInit ⟨#[0xb1]⟩ 1 none, .classLink RX7 9 RX2, .instantiable RX2 1, .initialized RX2, .fieldLink RX7 14 "SpurtClock$Wishes" "delays" "LSpurtClock$Row;", .methodLink RX7 11 yX2_init, .instanceMethod yX2_init, .code yX2_init cX2_init 2 none, .methodLink RX2 1 objectInit, .methodLink RX2 7 Lib.Math.max.name, .static Lib.Math.max.name, .initialized "java/lang/Math", .code Lib.Math.max.name Lib.Math.max.code 2 (some .int), .arrayClass .int, .fieldLink RX2 13 "SpurtClock$Row" "cells" "[I"] ++ wsX20 ++ wsX70)
def wsX7_gather_r1 : List Cond := [Cond.fieldLink RX7 26 "SpurtClock$Wishes" "size" "I", Cond.fieldLink RX7 14 "SpurtClock$Wishes" "delays" "LSpurtClock$Row;", Cond.methodLink RX7 20 yX0_historySize, Cond.instanceMethod yX0_historySize, Cond.selects RX0 yX0_historySize yX0_historySize, Cond.initialized RX0, Cond.code yX0_historySize cX0_historySize 1 (some .int), Cond.fieldLink RX0 32 "SpurtClock$Arrivals" "count" "I", Cond.methodLink RX0 36 Lib.Math.min.name, Cond.static Lib.Math.min.name, Cond.initialized "java/lang/Math", Cond.code Lib.Math.min.name Lib.Math.min.code 2 (some .int), Cond.methodLink RX7 30 yX0_lastPlace, Cond.instanceMethod yX0_lastPlace, Cond.selects RX0 yX0_lastPlace yX0_lastPlace, Cond.code yX0_lastPlace cX0_lastPlace 1 (some .int), Cond.methodLink RX7 33 yX0_delayAt, Cond.instanceMethod yX0_delayAt, Cond.selects RX0 yX0_delayAt yX0_delayAt, Cond.code yX0_delayAt cX0_delayAt 2 (some .int), Cond.fieldLink RX0 23 "SpurtClock$Arrivals" "whens" "LSpurtClock$Row;", Cond.fieldLink RX0 20 "SpurtClock$Arrivals" "frames" "LSpurtClock$Row;", Cond.methodLink RX0 42 yX2_get, Cond.instanceMethod yX2_get]
def wsX7_gather_r2 : List Cond := [Cond.selects RX2 yX2_get yX2_get, Cond.initialized RX2, Cond.code yX2_get cX2_get 2 (some .int), Cond.fieldLink RX2 13 "SpurtClock$Row" "cells" "[I", Cond.methodLink RX7 37 yX2_set, Cond.instanceMethod yX2_set, Cond.selects RX2 yX2_set yX2_set, Cond.code yX2_set cX2_set 3 none]
def wsX7_gather : List Cond := .code yX7_gather cX7_gather 3 none :: ((wsX7_gather_r1 ++ wsX7_gather_r2) ++ wsX70 ++ wsX00 ++ wsX20)
def wsX7_carryAlong_r1 : List Cond := [Cond.fieldLink RX7 26 "SpurtClock$Wishes" "size" "I", Cond.fieldLink RX7 14 "SpurtClock$Wishes" "delays" "LSpurtClock$Row;", Cond.methodLink RX7 30 yX0_lastPlace, Cond.instanceMethod yX0_lastPlace, Cond.selects RX0 yX0_lastPlace yX0_lastPlace, Cond.initialized RX0, Cond.code yX0_lastPlace cX0_lastPlace 1 (some .int), Cond.fieldLink RX0 32 "SpurtClock$Arrivals" "count" "I", Cond.methodLink RX7 41 yX0_frameAt, Cond.instanceMethod yX0_frameAt, Cond.selects RX0 yX0_frameAt yX0_frameAt, Cond.code yX0_frameAt cX0_frameAt 2 (some .int), Cond.fieldLink RX0 20 "SpurtClock$Arrivals" "frames" "LSpurtClock$Row;", Cond.methodLink RX0 42 yX2_get, Cond.instanceMethod yX2_get, Cond.selects RX2 yX2_get yX2_get, Cond.initialized RX2, Cond.code yX2_get cX2_get 2 (some .int), Cond.fieldLink RX2 13 "SpurtClock$Row" "cells" "[I", Cond.methodLink RX7 44 yX1_riseOver, Cond.instanceMethod yX1_riseOver, Cond.selects RX1 yX1_riseOver yX1_riseOver, Cond.initialized RX1, Cond.code yX1_riseOver cX1_riseOver 2 (some .int)]
def wsX7_carryAlong_r2 : List Cond := [Cond.fieldLink RX1 23 "SpurtClock$LowestLine" "lower" "I", Cond.fieldLink RX1 27 "SpurtClock$LowestLine" "upper" "I", Cond.methodLink RX1 71 yJ9_floorDiv_7cf53, Cond.static yJ9_floorDiv_7cf53, Cond.initialized RJ9, Cond.code yJ9_floorDiv_7cf53 cJ9_floorDiv_7cf53 3 (some .int), Cond.methodLink RX7 49 yX2_add, Cond.instanceMethod yX2_add, Cond.selects RX2 yX2_add yX2_add, Cond.code yX2_add cX2_add 3 none, Cond.methodLink RX2 19 yX2_get, Cond.methodLink RX2 23 yX2_set, Cond.instanceMethod yX2_set, Cond.selects RX2 yX2_set yX2_set, Cond.code yX2_set cX2_set 3 none]
def wsX7_carryAlong : List Cond := .code yX7_carryAlong cX7_carryAlong 6 none :: ((wsX7_carryAlong_r1 ++ wsX7_carryAlong_r2) ++ wsX70 ++ wsX00 ++ wsX20 ++ wsX10)
def wsX7_greatestOfLast : List Cond := .code yX7_greatestOfLast cX7_greatestOfLast 4 (some .int) :: ([.fieldLink RX7 14 "SpurtClock$Wishes" "delays" "LSpurtClock$Row;", .methodLink RX7 73 Lib.Math.max.name, .static Lib.Math.max.name, .initialized "java/lang/Math", .code Lib.Math.max.name Lib.Math.max.code 2 (some .int), .methodLink RX7 55 yX2_get, .instanceMethod yX2_get, .selects RX2 yX2_get yX2_get, .initialized RX2, .code yX2_get cX2_get 2 (some .int), .fieldLink RX2 13 "SpurtClock$Row" "cells" "[I"] ++ wsX70 ++ wsX20)
def wsX7_countAbove : List Cond := .code yX7_countAbove cX7_countAbove 4 (some .int) :: ([.fieldLink RX7 26 "SpurtClock$Wishes" "size" "I", .fieldLink RX7 14 "SpurtClock$Wishes" "delays" "LSpurtClock$Row;", .methodLink RX7 55 yX2_get, .instanceMethod yX2_get, .selects RX2 yX2_get yX2_get, .initialized RX2, .code yX2_get cX2_get 2 (some .int), .fieldLink RX2 13 "SpurtClock$Row" "cells" "[I"] ++ wsX70 ++ wsX20)
def wsX7_byShare : List Cond := .code yX7_byShare cX7_byShare 5 (some .int) :: ([.fieldLink RX7 26 "SpurtClock$Wishes" "size" "I", .fieldLink RX7 14 "SpurtClock$Wishes" "delays" "LSpurtClock$Row;", .methodLink RX7 52 yX7_greatestOfLast, .instanceMethod yX7_greatestOfLast, .selects RX7 yX7_greatestOfLast yX7_greatestOfLast, .initialized RX7, .code yX7_greatestOfLast cX7_greatestOfLast 4 (some .int), .methodLink RX7 73 Lib.Math.max.name, .static Lib.Math.max.name, .initialized "java/lang/Math", .code Lib.Math.max.name Lib.Math.max.code 2 (some .int), .methodLink RX7 55 yX2_get, .instanceMethod yX2_get, .selects RX2 yX2_get yX2_get, .initialized RX2, .code yX2_get cX2_get 2 (some .int), .fieldLink RX2 13 "SpurtClock$Row" "cells" "[I", .methodLink RX7 58 yX7_countAbove, .instanceMethod yX7_countAbove, .selects RX7 yX7_countAbove yX7_countAbove, .code yX7_countAbove cX7_countAbove 4 (some .int)] ++ wsX70 ++ wsX20)
def wsX7_greatestOfLastThree : List Cond := .code yX7_greatestOfLastThree cX7_greatestOfLastThree 1 (some .int) :: ([.fieldLink RX7 26 "SpurtClock$Wishes" "size" "I", .methodLink RX7 61 Lib.Math.min.name, .static Lib.Math.min.name, .initialized "java/lang/Math", .code Lib.Math.min.name Lib.Math.min.code 2 (some .int), .methodLink RX7 52 yX7_greatestOfLast, .instanceMethod yX7_greatestOfLast, .selects RX7 yX7_greatestOfLast yX7_greatestOfLast, .initialized RX7, .code yX7_greatestOfLast cX7_greatestOfLast 4 (some .int), .fieldLink RX7 14 "SpurtClock$Wishes" "delays" "LSpurtClock$Row;", .methodLink RX7 73 Lib.Math.max.name, .static Lib.Math.max.name, .code Lib.Math.max.name Lib.Math.max.code 2 (some .int), .methodLink RX7 55 yX2_get, .instanceMethod yX2_get, .selects RX2 yX2_get yX2_get, .initialized RX2, .code yX2_get cX2_get 2 (some .int), .fieldLink RX2 13 "SpurtClock$Row" "cells" "[I"] ++ wsX70 ++ wsX20)
def wsX7_byMean : List Cond := .code yX7_byMean cX7_byMean 6 (some .int) :: ([.fieldLink RX7 26 "SpurtClock$Wishes" "size" "I", .fieldLink RX7 14 "SpurtClock$Wishes" "delays" "LSpurtClock$Row;", .methodLink RX7 70 Lib.Math.abs.name, .static Lib.Math.abs.name, .initialized "java/lang/Math", .code Lib.Math.abs.name Lib.Math.abs.code 1 (some .int), .methodLink RX7 55 yX2_get, .instanceMethod yX2_get, .selects RX2 yX2_get yX2_get, .initialized RX2, .code yX2_get cX2_get 2 (some .int), .fieldLink RX2 13 "SpurtClock$Row" "cells" "[I", .methodLink RX7 67 yJ9_floorDiv_7cf53, .static yJ9_floorDiv_7cf53, .initialized RJ9, .code yJ9_floorDiv_7cf53 cJ9_floorDiv_7cf53 3 (some .int)] ++ wsX70 ++ wsX20)
def wsX8_init_r1 : List Cond := [Cond.methodLink RX8 3 objectInit, Cond.instanceMethod objectInit, Cond.code objectInit ⟨#[0xb1]⟩ 1 none, Cond.classLink RX8 9 RX6, Cond.instantiable RX6 2, Cond.initialized RX6, Cond.fieldLink RX8 12 "SpurtClock" "tape" "LSpurtClock$Tape;", Cond.classLink RX8 18 RX0, Cond.instantiable RX0 6, Cond.initialized RX0, Cond.fieldLink RX8 21 "SpurtClock" "arrivals" "LSpurtClock$Arrivals;", Cond.classLink RX8 25 RX4, Cond.instantiable RX4 9, Cond.initialized RX4, Cond.fieldLink RX8 28 "SpurtClock" "spurts" "LSpurtClock$Spurts;", Cond.classLink RX8 32 RX5, Cond.instantiable RX5 3, Cond.initialized RX5, Cond.fieldLink RX8 35 "SpurtClock" "surge" "LSpurtClock$Surge;", Cond.classLink RX8 39 RX1, Cond.instantiable RX1 5, Cond.initialized RX1, Cond.fieldLink RX8 42 "SpurtClock" "line" "LSpurtClock$LowestLine;", Cond.classLink RX8 46 RX7]
def wsX8_init_r2 : List Cond := [Cond.instantiable RX7 2, Cond.initialized RX7, Cond.fieldLink RX8 49 "SpurtClock" "wishes" "LSpurtClock$Wishes;", Cond.classLink RX8 53 RX3, Cond.instantiable RX3 2, Cond.initialized RX3, Cond.fieldLink RX8 56 "SpurtClock" "sheet" "LSpurtClock$Sheet;", Cond.fieldLink RX8 60 "SpurtClock" "mannerNow" "I", Cond.fieldLink RX8 64 "SpurtClock" "mannerNumber" "I", Cond.fieldLink RX8 67 "SpurtClock" "marginNow" "I", Cond.fieldLink RX8 70 "SpurtClock" "jumpNow" "I", Cond.instanceMethod yX6_init, Cond.code yX6_init cX6_init 1 none, Cond.methodLink RX6 3 objectInit, Cond.classLink RX6 9 RX2, Cond.instantiable RX2 1, Cond.initialized RX2, Cond.fieldLink RX6 14 "SpurtClock$Tape" "codes" "LSpurtClock$Row;", Cond.methodLink RX6 11 yX2_init, Cond.instanceMethod yX2_init, Cond.code yX2_init cX2_init 2 none, Cond.methodLink RX2 1 objectInit, Cond.methodLink RX2 7 Lib.Math.max.name, Cond.static Lib.Math.max.name]
def wsX8_init_r3 : List Cond := [Cond.initialized "java/lang/Math", Cond.code Lib.Math.max.name Lib.Math.max.code 2 (some .int), Cond.arrayClass .int, Cond.fieldLink RX2 13 "SpurtClock$Row" "cells" "[I", Cond.instanceMethod yX0_init, Cond.code yX0_init cX0_init 1 none, Cond.methodLink RX0 3 objectInit, Cond.classLink RX0 9 RX2, Cond.fieldLink RX0 14 "SpurtClock$Arrivals" "placeAfter" "LSpurtClock$Row;", Cond.fieldLink RX0 20 "SpurtClock$Arrivals" "frames" "LSpurtClock$Row;", Cond.fieldLink RX0 23 "SpurtClock$Arrivals" "whens" "LSpurtClock$Row;", Cond.fieldLink RX0 26 "SpurtClock$Arrivals" "spurtNumbers" "LSpurtClock$Row;", Cond.fieldLink RX0 29 "SpurtClock$Arrivals" "playTimes" "LSpurtClock$Row;", Cond.methodLink RX0 11 yX2_init, Cond.instanceMethod yX4_init, Cond.code yX4_init cX4_init 1 none, Cond.methodLink RX4 3 objectInit, Cond.classLink RX4 9 RX2, Cond.fieldLink RX4 14 "SpurtClock$Spurts" "heads" "LSpurtClock$Row;", Cond.fieldLink RX4 20 "SpurtClock$Spurts" "pauses" "LSpurtClock$Row;", Cond.fieldLink RX4 23 "SpurtClock$Spurts" "times" "LSpurtClock$Row;", Cond.fieldLink RX4 26 "SpurtClock$Spurts" "manners" "LSpurtClock$Row;", Cond.fieldLink RX4 29 "SpurtClock$Spurts" "came" "LSpurtClock$Row;", Cond.fieldLink RX4 32 "SpurtClock$Spurts" "played" "LSpurtClock$Row;"]
def wsX8_init_r4 : List Cond := [Cond.fieldLink RX4 35 "SpurtClock$Spurts" "greatest" "LSpurtClock$Row;", Cond.fieldLink RX4 38 "SpurtClock$Spurts" "ranked" "LSpurtClock$Row;", Cond.methodLink RX4 11 yX2_init, Cond.instanceMethod yX5_init, Cond.code yX5_init cX5_init 1 none, Cond.methodLink RX5 1 objectInit, Cond.instanceMethod yX1_init, Cond.code yX1_init cX1_init 1 none, Cond.methodLink RX1 3 objectInit, Cond.classLink RX1 9 RX2, Cond.fieldLink RX1 14 "SpurtClock$LowestLine" "cornerFrames" "LSpurtClock$Row;", Cond.fieldLink RX1 20 "SpurtClock$LowestLine" "cornerDelays" "LSpurtClock$Row;", Cond.fieldLink RX1 23 "SpurtClock$LowestLine" "lower" "I", Cond.methodLink RX1 11 yX2_init, Cond.instanceMethod yX7_init, Cond.code yX7_init cX7_init 1 none, Cond.methodLink RX7 3 objectInit, Cond.classLink RX7 9 RX2, Cond.fieldLink RX7 14 "SpurtClock$Wishes" "delays" "LSpurtClock$Row;", Cond.methodLink RX7 11 yX2_init, Cond.instanceMethod yX3_init, Cond.code yX3_init cX3_init 1 none, Cond.methodLink RX3 3 objectInit, Cond.classLink RX3 9 RX2]
def wsX8_init_r5 : List Cond := [Cond.fieldLink RX3 14 "SpurtClock$Sheet" "codes" "LSpurtClock$Row;", Cond.methodLink RX3 11 yX2_init]
def wsX8_init : List Cond := .code yX8_init cX8_init 1 none :: ((wsX8_init_r1 ++ (wsX8_init_r2 ++ (wsX8_init_r3 ++ (wsX8_init_r4 ++ wsX8_init_r5)))) ++ wsX60 ++ wsX80 ++ wsX00 ++ wsX40 ++ wsX50 ++ wsX10 ++ wsX70 ++ wsX30 ++ wsX20)
def wsX8_isOutside : List Cond := .code yX8_isOutside cX8_isOutside 3 (some .boolean) :: ([])
def wsX8_key : List Cond := .code yX8_key cX8_key 2 (some .int) :: ([.fieldLink RX8 12 "SpurtClock" "tape" "LSpurtClock$Tape;", .methodLink RX8 73 yX8_isOutside, .static yX8_isOutside, .initialized RX8, .code yX8_isOutside cX8_isOutside 3 (some .boolean), .methodLink RX8 77 yX6_size, .instanceMethod yX6_size, .selects RX6 yX6_size yX6_size, .initialized RX6, .code yX6_size cX6_size 1 (some .int), .fieldLink RX6 20 "SpurtClock$Tape" "size" "I", .methodLink RX8 81 yX6_add, .instanceMethod yX6_add, .selects RX6 yX6_add yX6_add, .code yX6_add cX6_add 2 none, .fieldLink RX6 14 "SpurtClock$Tape" "codes" "LSpurtClock$Row;", .methodLink RX6 24 yX2_set, .instanceMethod yX2_set, .selects RX2 yX2_set yX2_set, .initialized RX2, .code yX2_set cX2_set 3 none, .fieldLink RX2 13 "SpurtClock$Row" "cells" "[I"] ++ wsX80 ++ wsX60 ++ wsX20)
def wsX8_wipe : List Cond := .code yX8_wipe cX8_wipe 2 (some .int) :: ([.fieldLink RX8 12 "SpurtClock" "tape" "LSpurtClock$Tape;", .methodLink RX8 77 yX6_size, .instanceMethod yX6_size, .selects RX6 yX6_size yX6_size, .initialized RX6, .code yX6_size cX6_size 1 (some .int), .fieldLink RX6 20 "SpurtClock$Tape" "size" "I", .methodLink RX8 85 yX6_clear, .instanceMethod yX6_clear, .selects RX6 yX6_clear yX6_clear, .code yX6_clear cX6_clear 1 none] ++ wsX80 ++ wsX60)
def wsX8_wordOf : List Cond := .code yX8_wordOf cX8_wordOf 1 (some (.object "java/lang/String")) :: ([])
def wsX8_mannerOnTape_r1 : List Cond := [Cond.fieldLink RX8 12 "SpurtClock" "tape" "LSpurtClock$Tape;", Cond.methodLink RX8 214 yX8_wordOf, Cond.static yX8_wordOf, Cond.initialized RX8, Cond.code yX8_wordOf cX8_wordOf 1 (some (.object "java/lang/String")), Cond.methodLink RX8 246 yX6_spells, Cond.instanceMethod yX6_spells, Cond.selects RX6 yX6_spells yX6_spells, Cond.initialized RX6, Cond.code yX6_spells cX6_spells 3 (some .boolean), Cond.fieldLink RX6 20 "SpurtClock$Tape" "size" "I", Cond.fieldLink RX6 14 "SpurtClock$Tape" "codes" "LSpurtClock$Row;", Cond.methodLink RX6 28 yJ0_length_8abf5, Cond.instanceMethod yJ0_length_8abf5, Cond.selects RJ0 yJ0_length_8abf5 yJ0_length_8abf5, Cond.initialized RJ0, Cond.code yJ0_length_8abf5 cJ0_length_8abf5 1 (some .int), Cond.fieldLink RJ0 9 "java/lang/String" "value" "[B", Cond.methodLink RJ0 335 yJ0_coder_7d493, Cond.instanceMethod yJ0_coder_7d493, Cond.selects RJ0 yJ0_coder_7d493 yJ0_coder_7d493, Cond.code yJ0_coder_7d493 cJ0_coder_7d493 1 (some .byte), Cond.fieldLink RJ0 38 "java/lang/String" "COMPACT_STRINGS" "Z", Cond.fieldLink RJ0 15 "java/lang/String" "coder" "B"]
def wsX8_mannerOnTape_r2 : List Cond := [Cond.methodLink RX6 34 yJ0_charAt_5068e, Cond.instanceMethod yJ0_charAt_5068e, Cond.selects RJ0 yJ0_charAt_5068e yJ0_charAt_5068e, Cond.code yJ0_charAt_5068e cJ0_charAt_5068e 2 (some .char), Cond.methodLink RJ0 492 yJ0_isLatin1_aae02, Cond.instanceMethod yJ0_isLatin1_aae02, Cond.selects RJ0 yJ0_isLatin1_aae02 yJ0_isLatin1_aae02, Cond.code yJ0_isLatin1_aae02 cJ0_isLatin1_aae02 1 (some .boolean), Cond.methodLink RJ0 495 yJ1_charAt_3b067, Cond.static yJ1_charAt_3b067, Cond.initialized RJ1, Cond.code yJ1_charAt_3b067 cJ1_charAt_3b067 2 (some .char), Cond.methodLink RJ1 9 yJ0_checkIndex_df160, Cond.static yJ0_checkIndex_df160, Cond.code yJ0_checkIndex_df160 cJ0_checkIndex_df160 2 none, Cond.fieldLink RJ0 1053 "jdk/internal/util/Preconditions" "SIOOBE_FORMATTER" "Ljava/util/function/BiFunction;", Cond.methodLink RJ0 1059 yJ3_checkIndex_8e157, Cond.static yJ3_checkIndex_8e157, Cond.initialized RJ3, Cond.code yJ3_checkIndex_8e157 cJ3_checkIndex_8e157 3 (some .int), Cond.methodLink RJ0 498 yJ2_charAt_3b067, Cond.static yJ2_charAt_3b067, Cond.initialized RJ2, Cond.code yJ2_charAt_3b067 cJ2_charAt_3b067 2 (some .char)]
def wsX8_mannerOnTape_r3 : List Cond := [Cond.methodLink RJ2 67 yJ2_checkIndex_2214a, Cond.static yJ2_checkIndex_2214a, Cond.code yJ2_checkIndex_2214a cJ2_checkIndex_2214a 2 none, Cond.methodLink RJ2 48 yJ2_length_9d52b, Cond.static yJ2_length_9d52b, Cond.code yJ2_length_9d52b cJ2_length_9d52b 1 (some .int), Cond.methodLink RJ2 414 yJ0_checkIndex_df160, Cond.methodLink RJ2 71 yJ2_getChar_3b067, Cond.static yJ2_getChar_3b067, Cond.code yJ2_getChar_3b067 cJ2_getChar_3b067 2 (some .char), Cond.fieldLink RJ2 44 "java/lang/StringUTF16" "$assertionsDisabled" "Z", Cond.fieldLink RJ2 59 "java/lang/StringUTF16" "HI_BYTE_SHIFT" "I", Cond.fieldLink RJ2 63 "java/lang/StringUTF16" "LO_BYTE_SHIFT" "I", Cond.methodLink RX6 38 yX2_get, Cond.instanceMethod yX2_get, Cond.selects RX2 yX2_get yX2_get, Cond.initialized RX2, Cond.code yX2_get cX2_get 2 (some .int), Cond.fieldLink RX2 13 "SpurtClock$Row" "cells" "[I"]
def wsX8_mannerOnTape : List Cond := .code yX8_mannerOnTape cX8_mannerOnTape 2 (some .int) :: ((wsX8_mannerOnTape_r1 ++ (wsX8_mannerOnTape_r2 ++ wsX8_mannerOnTape_r3)) ++ wsX80 ++ wsX60 ++ wsX20)
def wsX8_leastNumber : List Cond := .code yX8_leastNumber cX8_leastNumber 1 (some .int) :: ([])
def wsX8_greatestNumber : List Cond := .code yX8_greatestNumber cX8_greatestNumber 1 (some .int) :: ([])
def wsX8_manner_r1 : List Cond := [Cond.fieldLink RX8 60 "SpurtClock" "mannerNow" "I", Cond.fieldLink RX8 64 "SpurtClock" "mannerNumber" "I", Cond.fieldLink RX8 12 "SpurtClock" "tape" "LSpurtClock$Tape;", Cond.methodLink RX8 88 yX8_mannerOnTape, Cond.instanceMethod yX8_mannerOnTape, Cond.selects RX8 yX8_mannerOnTape yX8_mannerOnTape, Cond.initialized RX8, Cond.code yX8_mannerOnTape cX8_mannerOnTape 2 (some .int), Cond.methodLink RX8 214 yX8_wordOf, Cond.static yX8_wordOf, Cond.code yX8_wordOf cX8_wordOf 1 (some (.object "java/lang/String")), Cond.methodLink RX8 246 yX6_spells, Cond.instanceMethod yX6_spells, Cond.selects RX6 yX6_spells yX6_spells, Cond.initialized RX6, Cond.code yX6_spells cX6_spells 3 (some .boolean), Cond.fieldLink RX6 20 "SpurtClock$Tape" "size" "I", Cond.fieldLink RX6 14 "SpurtClock$Tape" "codes" "LSpurtClock$Row;", Cond.methodLink RX6 28 yJ0_length_8abf5, Cond.instanceMethod yJ0_length_8abf5, Cond.selects RJ0 yJ0_length_8abf5 yJ0_length_8abf5, Cond.initialized RJ0, Cond.code yJ0_length_8abf5 cJ0_length_8abf5 1 (some .int), Cond.fieldLink RJ0 9 "java/lang/String" "value" "[B"]
def wsX8_manner_r2 : List Cond := [Cond.methodLink RJ0 335 yJ0_coder_7d493, Cond.instanceMethod yJ0_coder_7d493, Cond.selects RJ0 yJ0_coder_7d493 yJ0_coder_7d493, Cond.code yJ0_coder_7d493 cJ0_coder_7d493 1 (some .byte), Cond.fieldLink RJ0 38 "java/lang/String" "COMPACT_STRINGS" "Z", Cond.fieldLink RJ0 15 "java/lang/String" "coder" "B", Cond.methodLink RX6 34 yJ0_charAt_5068e, Cond.instanceMethod yJ0_charAt_5068e, Cond.selects RJ0 yJ0_charAt_5068e yJ0_charAt_5068e, Cond.code yJ0_charAt_5068e cJ0_charAt_5068e 2 (some .char), Cond.methodLink RJ0 492 yJ0_isLatin1_aae02, Cond.instanceMethod yJ0_isLatin1_aae02, Cond.selects RJ0 yJ0_isLatin1_aae02 yJ0_isLatin1_aae02, Cond.code yJ0_isLatin1_aae02 cJ0_isLatin1_aae02 1 (some .boolean), Cond.methodLink RJ0 495 yJ1_charAt_3b067, Cond.static yJ1_charAt_3b067, Cond.initialized RJ1, Cond.code yJ1_charAt_3b067 cJ1_charAt_3b067 2 (some .char), Cond.methodLink RJ1 9 yJ0_checkIndex_df160, Cond.static yJ0_checkIndex_df160, Cond.code yJ0_checkIndex_df160 cJ0_checkIndex_df160 2 none, Cond.fieldLink RJ0 1053 "jdk/internal/util/Preconditions" "SIOOBE_FORMATTER" "Ljava/util/function/BiFunction;", Cond.methodLink RJ0 1059 yJ3_checkIndex_8e157, Cond.static yJ3_checkIndex_8e157]
def wsX8_manner_r3 : List Cond := [Cond.initialized RJ3, Cond.code yJ3_checkIndex_8e157 cJ3_checkIndex_8e157 3 (some .int), Cond.methodLink RJ0 498 yJ2_charAt_3b067, Cond.static yJ2_charAt_3b067, Cond.initialized RJ2, Cond.code yJ2_charAt_3b067 cJ2_charAt_3b067 2 (some .char), Cond.methodLink RJ2 67 yJ2_checkIndex_2214a, Cond.static yJ2_checkIndex_2214a, Cond.code yJ2_checkIndex_2214a cJ2_checkIndex_2214a 2 none, Cond.methodLink RJ2 48 yJ2_length_9d52b, Cond.static yJ2_length_9d52b, Cond.code yJ2_length_9d52b cJ2_length_9d52b 1 (some .int), Cond.methodLink RJ2 414 yJ0_checkIndex_df160, Cond.methodLink RJ2 71 yJ2_getChar_3b067, Cond.static yJ2_getChar_3b067, Cond.code yJ2_getChar_3b067 cJ2_getChar_3b067 2 (some .char), Cond.fieldLink RJ2 44 "java/lang/StringUTF16" "$assertionsDisabled" "Z", Cond.fieldLink RJ2 59 "java/lang/StringUTF16" "HI_BYTE_SHIFT" "I", Cond.fieldLink RJ2 63 "java/lang/StringUTF16" "LO_BYTE_SHIFT" "I", Cond.methodLink RX6 38 yX2_get, Cond.instanceMethod yX2_get, Cond.selects RX2 yX2_get yX2_get, Cond.initialized RX2, Cond.code yX2_get cX2_get 2 (some .int)]
def wsX8_manner_r4 : List Cond := [Cond.fieldLink RX2 13 "SpurtClock$Row" "cells" "[I", Cond.methodLink RX8 91 yX8_leastNumber, Cond.static yX8_leastNumber, Cond.code yX8_leastNumber cX8_leastNumber 1 (some .int), Cond.methodLink RX8 95 yX8_greatestNumber, Cond.static yX8_greatestNumber, Cond.code yX8_greatestNumber cX8_greatestNumber 1 (some .int), Cond.methodLink RX8 73 yX8_isOutside, Cond.static yX8_isOutside, Cond.code yX8_isOutside cX8_isOutside 3 (some .boolean), Cond.methodLink RX8 85 yX6_clear, Cond.instanceMethod yX6_clear, Cond.selects RX6 yX6_clear yX6_clear, Cond.code yX6_clear cX6_clear 1 none]
def wsX8_manner : List Cond := .code yX8_manner cX8_manner 3 (some .int) :: ((wsX8_manner_r1 ++ (wsX8_manner_r2 ++ (wsX8_manner_r3 ++ wsX8_manner_r4))) ++ wsX80 ++ wsX60 ++ wsX20)
def wsX8_margin : List Cond := .code yX8_margin cX8_margin 3 (some .int) :: ([.fieldLink RX8 67 "SpurtClock" "marginNow" "I", .methodLink RX8 73 yX8_isOutside, .static yX8_isOutside, .initialized RX8, .code yX8_isOutside cX8_isOutside 3 (some .boolean)] ++ wsX80)
def wsX8_jump : List Cond := .code yX8_jump cX8_jump 3 (some .int) :: ([.fieldLink RX8 70 "SpurtClock" "jumpNow" "I", .methodLink RX8 73 yX8_isOutside, .static yX8_isOutside, .initialized RX8, .code yX8_isOutside cX8_isOutside 3 (some .boolean)] ++ wsX80)
def wsX8_refusalOf_r1 : List Cond := [Cond.fieldLink RX8 21 "SpurtClock" "arrivals" "LSpurtClock$Arrivals;", Cond.fieldLink RX8 28 "SpurtClock" "spurts" "LSpurtClock$Spurts;", Cond.methodLink RX8 73 yX8_isOutside, Cond.static yX8_isOutside, Cond.initialized RX8, Cond.code yX8_isOutside cX8_isOutside 3 (some .boolean), Cond.methodLink RX8 250 yX0_latestWhen, Cond.instanceMethod yX0_latestWhen, Cond.selects RX0 yX0_latestWhen yX0_latestWhen, Cond.initialized RX0, Cond.code yX0_latestWhen cX0_latestWhen 1 (some .int), Cond.fieldLink RX0 32 "SpurtClock$Arrivals" "count" "I", Cond.fieldLink RX0 23 "SpurtClock$Arrivals" "whens" "LSpurtClock$Row;", Cond.methodLink RX0 42 yX2_get, Cond.instanceMethod yX2_get, Cond.selects RX2 yX2_get yX2_get, Cond.initialized RX2, Cond.code yX2_get cX2_get 2 (some .int), Cond.fieldLink RX2 13 "SpurtClock$Row" "cells" "[I", Cond.methodLink RX8 128 yX0_placeOf, Cond.instanceMethod yX0_placeOf, Cond.selects RX0 yX0_placeOf yX0_placeOf, Cond.code yX0_placeOf cX0_placeOf 2 (some .int), Cond.fieldLink RX0 14 "SpurtClock$Arrivals" "placeAfter" "LSpurtClock$Row;"]
def wsX8_refusalOf_r2 : List Cond := [Cond.methodLink RX8 253 yX4_bar, Cond.instanceMethod yX4_bar, Cond.selects RX4 yX4_bar yX4_bar, Cond.initialized RX4, Cond.code yX4_bar cX4_bar 6 (some .boolean), Cond.fieldLink RX4 41 "SpurtClock$Spurts" "count" "I", Cond.fieldLink RX4 14 "SpurtClock$Spurts" "heads" "LSpurtClock$Row;", Cond.fieldLink RX4 20 "SpurtClock$Spurts" "pauses" "LSpurtClock$Row;", Cond.methodLink RX4 45 yX2_get, Cond.methodLink RX4 55 yX4_isInTheWay, Cond.instanceMethod yX4_isInTheWay, Cond.selects RX4 yX4_isInTheWay yX4_isInTheWay, Cond.code yX4_isInTheWay cX4_isInTheWay 6 (some .boolean), Cond.fieldLink RX4 35 "SpurtClock$Spurts" "greatest" "LSpurtClock$Row;", Cond.methodLink RX8 122 yX0_count, Cond.instanceMethod yX0_count, Cond.selects RX0 yX0_count yX0_count, Cond.code yX0_count cX0_count 1 (some .int)]
def wsX8_refusalOf : List Cond := .code yX8_refusalOf cX8_refusalOf 5 (some .int) :: ((wsX8_refusalOf_r1 ++ wsX8_refusalOf_r2) ++ wsX80 ++ wsX00 ++ wsX20 ++ wsX40)
def wsX8_wishFor_r1 : List Cond := [Cond.fieldLink RX8 49 "SpurtClock" "wishes" "LSpurtClock$Wishes;", Cond.fieldLink RX8 21 "SpurtClock" "arrivals" "LSpurtClock$Arrivals;", Cond.fieldLink RX8 60 "SpurtClock" "mannerNow" "I", Cond.fieldLink RX8 42 "SpurtClock" "line" "LSpurtClock$LowestLine;", Cond.fieldLink RX8 64 "SpurtClock" "mannerNumber" "I", Cond.fieldLink RX8 35 "SpurtClock" "surge" "LSpurtClock$Surge;", Cond.methodLink RX8 256 yX7_gather, Cond.instanceMethod yX7_gather, Cond.selects RX7 yX7_gather yX7_gather, Cond.initialized RX7, Cond.code yX7_gather cX7_gather 3 none, Cond.fieldLink RX7 26 "SpurtClock$Wishes" "size" "I", Cond.fieldLink RX7 14 "SpurtClock$Wishes" "delays" "LSpurtClock$Row;", Cond.methodLink RX7 20 yX0_historySize, Cond.instanceMethod yX0_historySize, Cond.selects RX0 yX0_historySize yX0_historySize, Cond.initialized RX0, Cond.code yX0_historySize cX0_historySize 1 (some .int), Cond.fieldLink RX0 32 "SpurtClock$Arrivals" "count" "I", Cond.methodLink RX0 36 Lib.Math.min.name, Cond.static Lib.Math.min.name, Cond.initialized "java/lang/Math", Cond.code Lib.Math.min.name Lib.Math.min.code 2 (some .int), Cond.methodLink RX7 30 yX0_lastPlace]
def wsX8_wishFor_r2 : List Cond := [Cond.instanceMethod yX0_lastPlace, Cond.selects RX0 yX0_lastPlace yX0_lastPlace, Cond.code yX0_lastPlace cX0_lastPlace 1 (some .int), Cond.methodLink RX7 33 yX0_delayAt, Cond.instanceMethod yX0_delayAt, Cond.selects RX0 yX0_delayAt yX0_delayAt, Cond.code yX0_delayAt cX0_delayAt 2 (some .int), Cond.fieldLink RX0 23 "SpurtClock$Arrivals" "whens" "LSpurtClock$Row;", Cond.fieldLink RX0 20 "SpurtClock$Arrivals" "frames" "LSpurtClock$Row;", Cond.methodLink RX0 42 yX2_get, Cond.instanceMethod yX2_get, Cond.selects RX2 yX2_get yX2_get, Cond.initialized RX2, Cond.code yX2_get cX2_get 2 (some .int), Cond.fieldLink RX2 13 "SpurtClock$Row" "cells" "[I", Cond.methodLink RX7 37 yX2_set, Cond.instanceMethod yX2_set, Cond.selects RX2 yX2_set yX2_set, Cond.code yX2_set cX2_set 3 none, Cond.methodLink RX8 188 yX1_fitUnder, Cond.instanceMethod yX1_fitUnder, Cond.selects RX1 yX1_fitUnder yX1_fitUnder, Cond.initialized RX1, Cond.code yX1_fitUnder cX1_fitUnder 4 none]
def wsX8_wishFor_r3 : List Cond := [Cond.fieldLink RX1 30 "SpurtClock$LowestLine" "corners" "I", Cond.fieldLink RX1 27 "SpurtClock$LowestLine" "upper" "I", Cond.fieldLink RX1 23 "SpurtClock$LowestLine" "lower" "I", Cond.methodLink RX1 33 yX0_placeOf, Cond.instanceMethod yX0_placeOf, Cond.selects RX0 yX0_placeOf yX0_placeOf, Cond.code yX0_placeOf cX0_placeOf 2 (some .int), Cond.fieldLink RX0 14 "SpurtClock$Arrivals" "placeAfter" "LSpurtClock$Row;", Cond.methodLink RX1 39 yX0_delayAt, Cond.methodLink RX1 42 yX1_addCorner, Cond.instanceMethod yX1_addCorner, Cond.selects RX1 yX1_addCorner yX1_addCorner, Cond.code yX1_addCorner cX1_addCorner 3 none, Cond.fieldLink RX1 14 "SpurtClock$LowestLine" "cornerFrames" "LSpurtClock$Row;", Cond.fieldLink RX1 20 "SpurtClock$LowestLine" "cornerDelays" "LSpurtClock$Row;", Cond.methodLink RX1 49 yX1_lastIsNotBelow, Cond.instanceMethod yX1_lastIsNotBelow, Cond.selects RX1 yX1_lastIsNotBelow yX1_lastIsNotBelow, Cond.code yX1_lastIsNotBelow cX1_lastIsNotBelow 7 (some .boolean), Cond.methodLink RX1 56 yX2_get, Cond.methodLink RX1 53 yX2_set, Cond.methodLink RX1 46 yX1_takeRiseAtMiddle, Cond.instanceMethod yX1_takeRiseAtMiddle, Cond.selects RX1 yX1_takeRiseAtMiddle yX1_takeRiseAtMiddle]
def wsX8_wishFor_r4 : List Cond := [Cond.code yX1_takeRiseAtMiddle cX1_takeRiseAtMiddle 3 none, Cond.methodLink RX1 59 yX1_setRise, Cond.instanceMethod yX1_setRise, Cond.selects RX1 yX1_setRise yX1_setRise, Cond.code yX1_setRise cX1_setRise 4 none, Cond.methodLink RX1 62 Lib.Math.abs.name, Cond.static Lib.Math.abs.name, Cond.code Lib.Math.abs.name Lib.Math.abs.code 1 (some .int), Cond.methodLink RX1 67 yX1_greatestDivisor, Cond.static yX1_greatestDivisor, Cond.code yX1_greatestDivisor cX1_greatestDivisor 6 (some .int), Cond.methodLink RX8 259 yX7_carryAlong, Cond.instanceMethod yX7_carryAlong, Cond.selects RX7 yX7_carryAlong yX7_carryAlong, Cond.code yX7_carryAlong cX7_carryAlong 6 none, Cond.methodLink RX7 41 yX0_frameAt, Cond.instanceMethod yX0_frameAt, Cond.selects RX0 yX0_frameAt yX0_frameAt, Cond.code yX0_frameAt cX0_frameAt 2 (some .int), Cond.methodLink RX7 44 yX1_riseOver, Cond.instanceMethod yX1_riseOver, Cond.selects RX1 yX1_riseOver yX1_riseOver, Cond.code yX1_riseOver cX1_riseOver 2 (some .int), Cond.methodLink RX1 71 yJ9_floorDiv_7cf53]
def wsX8_wishFor_r5 : List Cond := [Cond.static yJ9_floorDiv_7cf53, Cond.initialized RJ9, Cond.code yJ9_floorDiv_7cf53 cJ9_floorDiv_7cf53 3 (some .int), Cond.methodLink RX7 49 yX2_add, Cond.instanceMethod yX2_add, Cond.selects RX2 yX2_add yX2_add, Cond.code yX2_add cX2_add 3 none, Cond.methodLink RX2 19 yX2_get, Cond.methodLink RX2 23 yX2_set, Cond.methodLink RX8 171 yX5_isOn, Cond.instanceMethod yX5_isOn, Cond.selects RX5 yX5_isOn yX5_isOn, Cond.initialized RX5, Cond.code yX5_isOn cX5_isOn 1 (some .boolean), Cond.fieldLink RX5 7 "SpurtClock$Surge" "on" "Z", Cond.methodLink RX8 263 yX7_greatestOfLastThree, Cond.instanceMethod yX7_greatestOfLastThree, Cond.selects RX7 yX7_greatestOfLastThree yX7_greatestOfLastThree, Cond.code yX7_greatestOfLastThree cX7_greatestOfLastThree 1 (some .int), Cond.methodLink RX7 61 Lib.Math.min.name, Cond.methodLink RX7 52 yX7_greatestOfLast, Cond.instanceMethod yX7_greatestOfLast, Cond.selects RX7 yX7_greatestOfLast yX7_greatestOfLast, Cond.code yX7_greatestOfLast cX7_greatestOfLast 4 (some .int)]
def wsX8_wishFor_r6 : List Cond := [Cond.methodLink RX7 73 Lib.Math.max.name, Cond.static Lib.Math.max.name, Cond.code Lib.Math.max.name Lib.Math.max.code 2 (some .int), Cond.methodLink RX7 55 yX2_get, Cond.methodLink RX8 266 yX7_byShare, Cond.instanceMethod yX7_byShare, Cond.selects RX7 yX7_byShare yX7_byShare, Cond.code yX7_byShare cX7_byShare 5 (some .int), Cond.methodLink RX7 58 yX7_countAbove, Cond.instanceMethod yX7_countAbove, Cond.selects RX7 yX7_countAbove yX7_countAbove, Cond.code yX7_countAbove cX7_countAbove 4 (some .int), Cond.methodLink RX8 269 yX7_byMean, Cond.instanceMethod yX7_byMean, Cond.selects RX7 yX7_byMean yX7_byMean, Cond.code yX7_byMean cX7_byMean 6 (some .int), Cond.methodLink RX7 70 Lib.Math.abs.name, Cond.methodLink RX7 67 yJ9_floorDiv_7cf53]
def wsX8_wishFor : List Cond := .code yX8_wishFor cX8_wishFor 2 (some .int) :: ((wsX8_wishFor_r1 ++ (wsX8_wishFor_r2 ++ (wsX8_wishFor_r3 ++ (wsX8_wishFor_r4 ++ (wsX8_wishFor_r5 ++ wsX8_wishFor_r6))))) ++ wsX80 ++ wsX70 ++ wsX00 ++ wsX20 ++ wsX10 ++ wsX50)
def wsX8_openSpurt_r1 : List Cond := [Cond.fieldLink RX8 28 "SpurtClock" "spurts" "LSpurtClock$Spurts;", Cond.fieldLink RX8 67 "SpurtClock" "marginNow" "I", Cond.fieldLink RX8 60 "SpurtClock" "mannerNow" "I", Cond.methodLink RX8 168 yX8_wishFor, Cond.instanceMethod yX8_wishFor, Cond.selects RX8 yX8_wishFor yX8_wishFor, Cond.initialized RX8, Cond.code yX8_wishFor cX8_wishFor 2 (some .int), Cond.fieldLink RX8 49 "SpurtClock" "wishes" "LSpurtClock$Wishes;", Cond.fieldLink RX8 21 "SpurtClock" "arrivals" "LSpurtClock$Arrivals;", Cond.fieldLink RX8 42 "SpurtClock" "line" "LSpurtClock$LowestLine;", Cond.fieldLink RX8 64 "SpurtClock" "mannerNumber" "I", Cond.fieldLink RX8 35 "SpurtClock" "surge" "LSpurtClock$Surge;", Cond.methodLink RX8 256 yX7_gather, Cond.instanceMethod yX7_gather, Cond.selects RX7 yX7_gather yX7_gather, Cond.initialized RX7, Cond.code yX7_gather cX7_gather 3 none, Cond.fieldLink RX7 26 "SpurtClock$Wishes" "size" "I", Cond.fieldLink RX7 14 "SpurtClock$Wishes" "delays" "LSpurtClock$Row;", Cond.methodLink RX7 20 yX0_historySize, Cond.instanceMethod yX0_historySize, Cond.selects RX0 yX0_historySize yX0_historySize, Cond.initialized RX0]
def wsX8_openSpurt_r2 : List Cond := [Cond.code yX0_historySize cX0_historySize 1 (some .int), Cond.fieldLink RX0 32 "SpurtClock$Arrivals" "count" "I", Cond.methodLink RX0 36 Lib.Math.min.name, Cond.static Lib.Math.min.name, Cond.initialized "java/lang/Math", Cond.code Lib.Math.min.name Lib.Math.min.code 2 (some .int), Cond.methodLink RX7 30 yX0_lastPlace, Cond.instanceMethod yX0_lastPlace, Cond.selects RX0 yX0_lastPlace yX0_lastPlace, Cond.code yX0_lastPlace cX0_lastPlace 1 (some .int), Cond.methodLink RX7 33 yX0_delayAt, Cond.instanceMethod yX0_delayAt, Cond.selects RX0 yX0_delayAt yX0_delayAt, Cond.code yX0_delayAt cX0_delayAt 2 (some .int), Cond.fieldLink RX0 23 "SpurtClock$Arrivals" "whens" "LSpurtClock$Row;", Cond.fieldLink RX0 20 "SpurtClock$Arrivals" "frames" "LSpurtClock$Row;", Cond.methodLink RX0 42 yX2_get, Cond.instanceMethod yX2_get, Cond.selects RX2 yX2_get yX2_get, Cond.initialized RX2, Cond.code yX2_get cX2_get 2 (some .int), Cond.fieldLink RX2 13 "SpurtClock$Row" "cells" "[I", Cond.methodLink RX7 37 yX2_set, Cond.instanceMethod yX2_set]
def wsX8_openSpurt_r3 : List Cond := [Cond.selects RX2 yX2_set yX2_set, Cond.code yX2_set cX2_set 3 none, Cond.methodLink RX8 188 yX1_fitUnder, Cond.instanceMethod yX1_fitUnder, Cond.selects RX1 yX1_fitUnder yX1_fitUnder, Cond.initialized RX1, Cond.code yX1_fitUnder cX1_fitUnder 4 none, Cond.fieldLink RX1 30 "SpurtClock$LowestLine" "corners" "I", Cond.fieldLink RX1 27 "SpurtClock$LowestLine" "upper" "I", Cond.fieldLink RX1 23 "SpurtClock$LowestLine" "lower" "I", Cond.methodLink RX1 33 yX0_placeOf, Cond.instanceMethod yX0_placeOf, Cond.selects RX0 yX0_placeOf yX0_placeOf, Cond.code yX0_placeOf cX0_placeOf 2 (some .int), Cond.fieldLink RX0 14 "SpurtClock$Arrivals" "placeAfter" "LSpurtClock$Row;", Cond.methodLink RX1 39 yX0_delayAt, Cond.methodLink RX1 42 yX1_addCorner, Cond.instanceMethod yX1_addCorner, Cond.selects RX1 yX1_addCorner yX1_addCorner, Cond.code yX1_addCorner cX1_addCorner 3 none, Cond.fieldLink RX1 14 "SpurtClock$LowestLine" "cornerFrames" "LSpurtClock$Row;", Cond.fieldLink RX1 20 "SpurtClock$LowestLine" "cornerDelays" "LSpurtClock$Row;", Cond.methodLink RX1 49 yX1_lastIsNotBelow, Cond.instanceMethod yX1_lastIsNotBelow]
def wsX8_openSpurt_r4 : List Cond := [Cond.selects RX1 yX1_lastIsNotBelow yX1_lastIsNotBelow, Cond.code yX1_lastIsNotBelow cX1_lastIsNotBelow 7 (some .boolean), Cond.methodLink RX1 56 yX2_get, Cond.methodLink RX1 53 yX2_set, Cond.methodLink RX1 46 yX1_takeRiseAtMiddle, Cond.instanceMethod yX1_takeRiseAtMiddle, Cond.selects RX1 yX1_takeRiseAtMiddle yX1_takeRiseAtMiddle, Cond.code yX1_takeRiseAtMiddle cX1_takeRiseAtMiddle 3 none, Cond.methodLink RX1 59 yX1_setRise, Cond.instanceMethod yX1_setRise, Cond.selects RX1 yX1_setRise yX1_setRise, Cond.code yX1_setRise cX1_setRise 4 none, Cond.methodLink RX1 62 Lib.Math.abs.name, Cond.static Lib.Math.abs.name, Cond.code Lib.Math.abs.name Lib.Math.abs.code 1 (some .int), Cond.methodLink RX1 67 yX1_greatestDivisor, Cond.static yX1_greatestDivisor, Cond.code yX1_greatestDivisor cX1_greatestDivisor 6 (some .int), Cond.methodLink RX8 259 yX7_carryAlong, Cond.instanceMethod yX7_carryAlong, Cond.selects RX7 yX7_carryAlong yX7_carryAlong, Cond.code yX7_carryAlong cX7_carryAlong 6 none, Cond.methodLink RX7 41 yX0_frameAt, Cond.instanceMethod yX0_frameAt]
def wsX8_openSpurt_r5 : List Cond := [Cond.selects RX0 yX0_frameAt yX0_frameAt, Cond.code yX0_frameAt cX0_frameAt 2 (some .int), Cond.methodLink RX7 44 yX1_riseOver, Cond.instanceMethod yX1_riseOver, Cond.selects RX1 yX1_riseOver yX1_riseOver, Cond.code yX1_riseOver cX1_riseOver 2 (some .int), Cond.methodLink RX1 71 yJ9_floorDiv_7cf53, Cond.static yJ9_floorDiv_7cf53, Cond.initialized RJ9, Cond.code yJ9_floorDiv_7cf53 cJ9_floorDiv_7cf53 3 (some .int), Cond.methodLink RX7 49 yX2_add, Cond.instanceMethod yX2_add, Cond.selects RX2 yX2_add yX2_add, Cond.code yX2_add cX2_add 3 none, Cond.methodLink RX2 19 yX2_get, Cond.methodLink RX2 23 yX2_set, Cond.methodLink RX8 171 yX5_isOn, Cond.instanceMethod yX5_isOn, Cond.selects RX5 yX5_isOn yX5_isOn, Cond.initialized RX5, Cond.code yX5_isOn cX5_isOn 1 (some .boolean), Cond.fieldLink RX5 7 "SpurtClock$Surge" "on" "Z", Cond.methodLink RX8 263 yX7_greatestOfLastThree, Cond.instanceMethod yX7_greatestOfLastThree]
def wsX8_openSpurt_r6 : List Cond := [Cond.selects RX7 yX7_greatestOfLastThree yX7_greatestOfLastThree, Cond.code yX7_greatestOfLastThree cX7_greatestOfLastThree 1 (some .int), Cond.methodLink RX7 61 Lib.Math.min.name, Cond.methodLink RX7 52 yX7_greatestOfLast, Cond.instanceMethod yX7_greatestOfLast, Cond.selects RX7 yX7_greatestOfLast yX7_greatestOfLast, Cond.code yX7_greatestOfLast cX7_greatestOfLast 4 (some .int), Cond.methodLink RX7 73 Lib.Math.max.name, Cond.static Lib.Math.max.name, Cond.code Lib.Math.max.name Lib.Math.max.code 2 (some .int), Cond.methodLink RX7 55 yX2_get, Cond.methodLink RX8 266 yX7_byShare, Cond.instanceMethod yX7_byShare, Cond.selects RX7 yX7_byShare yX7_byShare, Cond.code yX7_byShare cX7_byShare 5 (some .int), Cond.methodLink RX7 58 yX7_countAbove, Cond.instanceMethod yX7_countAbove, Cond.selects RX7 yX7_countAbove yX7_countAbove, Cond.code yX7_countAbove cX7_countAbove 4 (some .int), Cond.methodLink RX8 269 yX7_byMean, Cond.instanceMethod yX7_byMean, Cond.selects RX7 yX7_byMean yX7_byMean, Cond.code yX7_byMean cX7_byMean 6 (some .int), Cond.methodLink RX7 70 Lib.Math.abs.name]
def wsX8_openSpurt_r7 : List Cond := [Cond.methodLink RX7 67 yJ9_floorDiv_7cf53, Cond.methodLink RX8 272 yX4_timeInTurn, Cond.instanceMethod yX4_timeInTurn, Cond.selects RX4 yX4_timeInTurn yX4_timeInTurn, Cond.initialized RX4, Cond.code yX4_timeInTurn cX4_timeInTurn 7 (some .int), Cond.fieldLink RX4 38 "SpurtClock$Spurts" "ranked" "LSpurtClock$Row;", Cond.fieldLink RX4 23 "SpurtClock$Spurts" "times" "LSpurtClock$Row;", Cond.methodLink RX4 62 Lib.Math.max.name, Cond.fieldLink RX4 41 "SpurtClock$Spurts" "count" "I", Cond.fieldLink RX4 20 "SpurtClock$Spurts" "pauses" "LSpurtClock$Row;", Cond.methodLink RX4 68 Lib.Math.min.name, Cond.methodLink RX4 59 yX4_headsBelow, Cond.instanceMethod yX4_headsBelow, Cond.selects RX4 yX4_headsBelow yX4_headsBelow, Cond.code yX4_headsBelow cX4_headsBelow 4 (some .int), Cond.fieldLink RX4 14 "SpurtClock$Spurts" "heads" "LSpurtClock$Row;", Cond.methodLink RX4 45 yX2_get, Cond.methodLink RX8 276 yX4_add, Cond.instanceMethod yX4_add, Cond.selects RX4 yX4_add yX4_add, Cond.code yX4_add cX4_add 8 (some .int), Cond.fieldLink RX4 26 "SpurtClock$Spurts" "manners" "LSpurtClock$Row;", Cond.fieldLink RX4 29 "SpurtClock$Spurts" "came" "LSpurtClock$Row;"]
def wsX8_openSpurt_r8 : List Cond := [Cond.fieldLink RX4 32 "SpurtClock$Spurts" "played" "LSpurtClock$Row;", Cond.fieldLink RX4 35 "SpurtClock$Spurts" "greatest" "LSpurtClock$Row;", Cond.methodLink RX4 71 yX2_set]
def wsX8_openSpurt : List Cond := .code yX8_openSpurt cX8_openSpurt 4 (some .int) :: ((wsX8_openSpurt_r1 ++ (wsX8_openSpurt_r2 ++ (wsX8_openSpurt_r3 ++ (wsX8_openSpurt_r4 ++ (wsX8_openSpurt_r5 ++ (wsX8_openSpurt_r6 ++ (wsX8_openSpurt_r7 ++ wsX8_openSpurt_r8))))))) ++ wsX80 ++ wsX70 ++ wsX00 ++ wsX20 ++ wsX10 ++ wsX50 ++ wsX40)
def wsX8_settle_r1 : List Cond := [Cond.fieldLink RX8 28 "SpurtClock" "spurts" "LSpurtClock$Spurts;", Cond.fieldLink RX8 21 "SpurtClock" "arrivals" "LSpurtClock$Arrivals;", Cond.methodLink RX8 147 yX4_timeOf, Cond.instanceMethod yX4_timeOf, Cond.selects RX4 yX4_timeOf yX4_timeOf, Cond.initialized RX4, Cond.code yX4_timeOf cX4_timeOf 2 (some .int), Cond.fieldLink RX4 23 "SpurtClock$Spurts" "times" "LSpurtClock$Row;", Cond.methodLink RX4 45 yX2_get, Cond.instanceMethod yX2_get, Cond.selects RX2 yX2_get yX2_get, Cond.initialized RX2, Cond.code yX2_get cX2_get 2 (some .int), Cond.fieldLink RX2 13 "SpurtClock$Row" "cells" "[I", Cond.methodLink RX8 278 yX0_settle, Cond.instanceMethod yX0_settle, Cond.selects RX0 yX0_settle yX0_settle, Cond.initialized RX0, Cond.code yX0_settle cX0_settle 4 none, Cond.fieldLink RX0 26 "SpurtClock$Arrivals" "spurtNumbers" "LSpurtClock$Row;", Cond.fieldLink RX0 29 "SpurtClock$Arrivals" "playTimes" "LSpurtClock$Row;", Cond.methodLink RX0 49 yX2_set, Cond.instanceMethod yX2_set, Cond.selects RX2 yX2_set yX2_set]
def wsX8_settle_r2 : List Cond := [Cond.code yX2_set cX2_set 3 none, Cond.methodLink RX8 280 yX4_countFrame, Cond.instanceMethod yX4_countFrame, Cond.selects RX4 yX4_countFrame yX4_countFrame, Cond.code yX4_countFrame cX4_countFrame 4 none, Cond.fieldLink RX4 29 "SpurtClock$Spurts" "came" "LSpurtClock$Row;", Cond.fieldLink RX4 32 "SpurtClock$Spurts" "played" "LSpurtClock$Row;", Cond.fieldLink RX4 35 "SpurtClock$Spurts" "greatest" "LSpurtClock$Row;", Cond.methodLink RX4 62 Lib.Math.max.name, Cond.static Lib.Math.max.name, Cond.initialized "java/lang/Math", Cond.code Lib.Math.max.name Lib.Math.max.code 2 (some .int), Cond.methodLink RX4 75 yX2_add, Cond.instanceMethod yX2_add, Cond.selects RX2 yX2_add yX2_add, Cond.code yX2_add cX2_add 3 none, Cond.methodLink RX2 19 yX2_get, Cond.methodLink RX2 23 yX2_set, Cond.methodLink RX4 71 yX2_set]
def wsX8_settle : List Cond := .code yX8_settle cX8_settle 7 none :: ((wsX8_settle_r1 ++ wsX8_settle_r2) ++ wsX80 ++ wsX40 ++ wsX20 ++ wsX00)
def wsX8_arrive_r1 : List Cond := [Cond.fieldLink RX8 21 "SpurtClock" "arrivals" "LSpurtClock$Arrivals;", Cond.fieldLink RX8 35 "SpurtClock" "surge" "LSpurtClock$Surge;", Cond.fieldLink RX8 70 "SpurtClock" "jumpNow" "I", Cond.fieldLink RX8 28 "SpurtClock" "spurts" "LSpurtClock$Spurts;", Cond.methodLink RX8 98 yX8_refusalOf, Cond.instanceMethod yX8_refusalOf, Cond.selects RX8 yX8_refusalOf yX8_refusalOf, Cond.initialized RX8, Cond.code yX8_refusalOf cX8_refusalOf 5 (some .int), Cond.methodLink RX8 73 yX8_isOutside, Cond.static yX8_isOutside, Cond.code yX8_isOutside cX8_isOutside 3 (some .boolean), Cond.methodLink RX8 250 yX0_latestWhen, Cond.instanceMethod yX0_latestWhen, Cond.selects RX0 yX0_latestWhen yX0_latestWhen, Cond.initialized RX0, Cond.code yX0_latestWhen cX0_latestWhen 1 (some .int), Cond.fieldLink RX0 32 "SpurtClock$Arrivals" "count" "I", Cond.fieldLink RX0 23 "SpurtClock$Arrivals" "whens" "LSpurtClock$Row;", Cond.methodLink RX0 42 yX2_get, Cond.instanceMethod yX2_get, Cond.selects RX2 yX2_get yX2_get, Cond.initialized RX2, Cond.code yX2_get cX2_get 2 (some .int)]
def wsX8_arrive_r2 : List Cond := [Cond.fieldLink RX2 13 "SpurtClock$Row" "cells" "[I", Cond.methodLink RX8 128 yX0_placeOf, Cond.instanceMethod yX0_placeOf, Cond.selects RX0 yX0_placeOf yX0_placeOf, Cond.code yX0_placeOf cX0_placeOf 2 (some .int), Cond.fieldLink RX0 14 "SpurtClock$Arrivals" "placeAfter" "LSpurtClock$Row;", Cond.methodLink RX8 253 yX4_bar, Cond.instanceMethod yX4_bar, Cond.selects RX4 yX4_bar yX4_bar, Cond.initialized RX4, Cond.code yX4_bar cX4_bar 6 (some .boolean), Cond.fieldLink RX4 41 "SpurtClock$Spurts" "count" "I", Cond.fieldLink RX4 14 "SpurtClock$Spurts" "heads" "LSpurtClock$Row;", Cond.fieldLink RX4 20 "SpurtClock$Spurts" "pauses" "LSpurtClock$Row;", Cond.methodLink RX4 45 yX2_get, Cond.methodLink RX4 55 yX4_isInTheWay, Cond.instanceMethod yX4_isInTheWay, Cond.selects RX4 yX4_isInTheWay yX4_isInTheWay, Cond.code yX4_isInTheWay cX4_isInTheWay 6 (some .boolean), Cond.fieldLink RX4 35 "SpurtClock$Spurts" "greatest" "LSpurtClock$Row;", Cond.methodLink RX8 122 yX0_count, Cond.instanceMethod yX0_count, Cond.selects RX0 yX0_count yX0_count, Cond.code yX0_count cX0_count 1 (some .int)]
def wsX8_arrive_r3 : List Cond := [Cond.methodLink RX8 102 yX0_add, Cond.instanceMethod yX0_add, Cond.selects RX0 yX0_add yX0_add, Cond.code yX0_add cX0_add 4 (some .int), Cond.fieldLink RX0 20 "SpurtClock$Arrivals" "frames" "LSpurtClock$Row;", Cond.methodLink RX0 49 yX2_set, Cond.instanceMethod yX2_set, Cond.selects RX2 yX2_set yX2_set, Cond.code yX2_set cX2_set 3 none, Cond.methodLink RX8 105 yX0_delayAt, Cond.instanceMethod yX0_delayAt, Cond.selects RX0 yX0_delayAt yX0_delayAt, Cond.code yX0_delayAt cX0_delayAt 2 (some .int), Cond.methodLink RX8 108 yX5_follow, Cond.instanceMethod yX5_follow, Cond.selects RX5 yX5_follow yX5_follow, Cond.initialized RX5, Cond.code yX5_follow cX5_follow 4 none, Cond.fieldLink RX5 7 "SpurtClock$Surge" "on" "Z", Cond.fieldLink RX5 13 "SpurtClock$Surge" "base" "I", Cond.fieldLink RX5 17 "SpurtClock$Surge" "begun" "I", Cond.methodLink RX8 112 yX4_withHead, Cond.instanceMethod yX4_withHead, Cond.selects RX4 yX4_withHead yX4_withHead]
def wsX8_arrive_r4 : List Cond := [Cond.code yX4_withHead cX4_withHead 3 (some .int), Cond.methodLink RX8 115 yX8_openSpurt, Cond.instanceMethod yX8_openSpurt, Cond.selects RX8 yX8_openSpurt yX8_openSpurt, Cond.code yX8_openSpurt cX8_openSpurt 4 (some .int), Cond.fieldLink RX8 67 "SpurtClock" "marginNow" "I", Cond.fieldLink RX8 60 "SpurtClock" "mannerNow" "I", Cond.methodLink RX8 168 yX8_wishFor, Cond.instanceMethod yX8_wishFor, Cond.selects RX8 yX8_wishFor yX8_wishFor, Cond.code yX8_wishFor cX8_wishFor 2 (some .int), Cond.fieldLink RX8 49 "SpurtClock" "wishes" "LSpurtClock$Wishes;", Cond.fieldLink RX8 42 "SpurtClock" "line" "LSpurtClock$LowestLine;", Cond.fieldLink RX8 64 "SpurtClock" "mannerNumber" "I", Cond.methodLink RX8 256 yX7_gather, Cond.instanceMethod yX7_gather, Cond.selects RX7 yX7_gather yX7_gather, Cond.initialized RX7, Cond.code yX7_gather cX7_gather 3 none, Cond.fieldLink RX7 26 "SpurtClock$Wishes" "size" "I", Cond.fieldLink RX7 14 "SpurtClock$Wishes" "delays" "LSpurtClock$Row;", Cond.methodLink RX7 20 yX0_historySize, Cond.instanceMethod yX0_historySize, Cond.selects RX0 yX0_historySize yX0_historySize]
def wsX8_arrive_r5 : List Cond := [Cond.code yX0_historySize cX0_historySize 1 (some .int), Cond.methodLink RX0 36 Lib.Math.min.name, Cond.static Lib.Math.min.name, Cond.initialized "java/lang/Math", Cond.code Lib.Math.min.name Lib.Math.min.code 2 (some .int), Cond.methodLink RX7 30 yX0_lastPlace, Cond.instanceMethod yX0_lastPlace, Cond.selects RX0 yX0_lastPlace yX0_lastPlace, Cond.code yX0_lastPlace cX0_lastPlace 1 (some .int), Cond.methodLink RX7 33 yX0_delayAt, Cond.methodLink RX7 37 yX2_set, Cond.methodLink RX8 188 yX1_fitUnder, Cond.instanceMethod yX1_fitUnder, Cond.selects RX1 yX1_fitUnder yX1_fitUnder, Cond.initialized RX1, Cond.code yX1_fitUnder cX1_fitUnder 4 none, Cond.fieldLink RX1 30 "SpurtClock$LowestLine" "corners" "I", Cond.fieldLink RX1 27 "SpurtClock$LowestLine" "upper" "I", Cond.fieldLink RX1 23 "SpurtClock$LowestLine" "lower" "I", Cond.methodLink RX1 33 yX0_placeOf, Cond.methodLink RX1 39 yX0_delayAt, Cond.methodLink RX1 42 yX1_addCorner, Cond.instanceMethod yX1_addCorner, Cond.selects RX1 yX1_addCorner yX1_addCorner]
def wsX8_arrive_r6 : List Cond := [Cond.code yX1_addCorner cX1_addCorner 3 none, Cond.fieldLink RX1 14 "SpurtClock$LowestLine" "cornerFrames" "LSpurtClock$Row;", Cond.fieldLink RX1 20 "SpurtClock$LowestLine" "cornerDelays" "LSpurtClock$Row;", Cond.methodLink RX1 49 yX1_lastIsNotBelow, Cond.instanceMethod yX1_lastIsNotBelow, Cond.selects RX1 yX1_lastIsNotBelow yX1_lastIsNotBelow, Cond.code yX1_lastIsNotBelow cX1_lastIsNotBelow 7 (some .boolean), Cond.methodLink RX1 56 yX2_get, Cond.methodLink RX1 53 yX2_set, Cond.methodLink RX1 46 yX1_takeRiseAtMiddle, Cond.instanceMethod yX1_takeRiseAtMiddle, Cond.selects RX1 yX1_takeRiseAtMiddle yX1_takeRiseAtMiddle, Cond.code yX1_takeRiseAtMiddle cX1_takeRiseAtMiddle 3 none, Cond.methodLink RX1 59 yX1_setRise, Cond.instanceMethod yX1_setRise, Cond.selects RX1 yX1_setRise yX1_setRise, Cond.code yX1_setRise cX1_setRise 4 none, Cond.methodLink RX1 62 Lib.Math.abs.name, Cond.static Lib.Math.abs.name, Cond.code Lib.Math.abs.name Lib.Math.abs.code 1 (some .int), Cond.methodLink RX1 67 yX1_greatestDivisor, Cond.static yX1_greatestDivisor, Cond.code yX1_greatestDivisor cX1_greatestDivisor 6 (some .int), Cond.methodLink RX8 259 yX7_carryAlong]
def wsX8_arrive_r7 : List Cond := [Cond.instanceMethod yX7_carryAlong, Cond.selects RX7 yX7_carryAlong yX7_carryAlong, Cond.code yX7_carryAlong cX7_carryAlong 6 none, Cond.methodLink RX7 41 yX0_frameAt, Cond.instanceMethod yX0_frameAt, Cond.selects RX0 yX0_frameAt yX0_frameAt, Cond.code yX0_frameAt cX0_frameAt 2 (some .int), Cond.methodLink RX7 44 yX1_riseOver, Cond.instanceMethod yX1_riseOver, Cond.selects RX1 yX1_riseOver yX1_riseOver, Cond.code yX1_riseOver cX1_riseOver 2 (some .int), Cond.methodLink RX1 71 yJ9_floorDiv_7cf53, Cond.static yJ9_floorDiv_7cf53, Cond.initialized RJ9, Cond.code yJ9_floorDiv_7cf53 cJ9_floorDiv_7cf53 3 (some .int), Cond.methodLink RX7 49 yX2_add, Cond.instanceMethod yX2_add, Cond.selects RX2 yX2_add yX2_add, Cond.code yX2_add cX2_add 3 none, Cond.methodLink RX2 19 yX2_get, Cond.methodLink RX2 23 yX2_set, Cond.methodLink RX8 171 yX5_isOn, Cond.instanceMethod yX5_isOn, Cond.selects RX5 yX5_isOn yX5_isOn]
def wsX8_arrive_r8 : List Cond := [Cond.code yX5_isOn cX5_isOn 1 (some .boolean), Cond.methodLink RX8 263 yX7_greatestOfLastThree, Cond.instanceMethod yX7_greatestOfLastThree, Cond.selects RX7 yX7_greatestOfLastThree yX7_greatestOfLastThree, Cond.code yX7_greatestOfLastThree cX7_greatestOfLastThree 1 (some .int), Cond.methodLink RX7 61 Lib.Math.min.name, Cond.methodLink RX7 52 yX7_greatestOfLast, Cond.instanceMethod yX7_greatestOfLast, Cond.selects RX7 yX7_greatestOfLast yX7_greatestOfLast, Cond.code yX7_greatestOfLast cX7_greatestOfLast 4 (some .int), Cond.methodLink RX7 73 Lib.Math.max.name, Cond.static Lib.Math.max.name, Cond.code Lib.Math.max.name Lib.Math.max.code 2 (some .int), Cond.methodLink RX7 55 yX2_get, Cond.methodLink RX8 266 yX7_byShare, Cond.instanceMethod yX7_byShare, Cond.selects RX7 yX7_byShare yX7_byShare, Cond.code yX7_byShare cX7_byShare 5 (some .int), Cond.methodLink RX7 58 yX7_countAbove, Cond.instanceMethod yX7_countAbove, Cond.selects RX7 yX7_countAbove yX7_countAbove, Cond.code yX7_countAbove cX7_countAbove 4 (some .int), Cond.methodLink RX8 269 yX7_byMean, Cond.instanceMethod yX7_byMean]
def wsX8_arrive_r9 : List Cond := [Cond.selects RX7 yX7_byMean yX7_byMean, Cond.code yX7_byMean cX7_byMean 6 (some .int), Cond.methodLink RX7 70 Lib.Math.abs.name, Cond.methodLink RX7 67 yJ9_floorDiv_7cf53, Cond.methodLink RX8 272 yX4_timeInTurn, Cond.instanceMethod yX4_timeInTurn, Cond.selects RX4 yX4_timeInTurn yX4_timeInTurn, Cond.code yX4_timeInTurn cX4_timeInTurn 7 (some .int), Cond.fieldLink RX4 38 "SpurtClock$Spurts" "ranked" "LSpurtClock$Row;", Cond.fieldLink RX4 23 "SpurtClock$Spurts" "times" "LSpurtClock$Row;", Cond.methodLink RX4 62 Lib.Math.max.name, Cond.methodLink RX4 68 Lib.Math.min.name, Cond.methodLink RX4 59 yX4_headsBelow, Cond.instanceMethod yX4_headsBelow, Cond.selects RX4 yX4_headsBelow yX4_headsBelow, Cond.code yX4_headsBelow cX4_headsBelow 4 (some .int), Cond.methodLink RX8 276 yX4_add, Cond.instanceMethod yX4_add, Cond.selects RX4 yX4_add yX4_add, Cond.code yX4_add cX4_add 8 (some .int), Cond.fieldLink RX4 26 "SpurtClock$Spurts" "manners" "LSpurtClock$Row;", Cond.fieldLink RX4 29 "SpurtClock$Spurts" "came" "LSpurtClock$Row;", Cond.fieldLink RX4 32 "SpurtClock$Spurts" "played" "LSpurtClock$Row;", Cond.methodLink RX4 71 yX2_set]
def wsX8_arrive_r10 : List Cond := [Cond.methodLink RX8 118 yX8_settle, Cond.instanceMethod yX8_settle, Cond.selects RX8 yX8_settle yX8_settle, Cond.code yX8_settle cX8_settle 7 none, Cond.methodLink RX8 147 yX4_timeOf, Cond.instanceMethod yX4_timeOf, Cond.selects RX4 yX4_timeOf yX4_timeOf, Cond.code yX4_timeOf cX4_timeOf 2 (some .int), Cond.methodLink RX8 278 yX0_settle, Cond.instanceMethod yX0_settle, Cond.selects RX0 yX0_settle yX0_settle, Cond.code yX0_settle cX0_settle 4 none, Cond.fieldLink RX0 26 "SpurtClock$Arrivals" "spurtNumbers" "LSpurtClock$Row;", Cond.fieldLink RX0 29 "SpurtClock$Arrivals" "playTimes" "LSpurtClock$Row;", Cond.methodLink RX8 280 yX4_countFrame, Cond.instanceMethod yX4_countFrame, Cond.selects RX4 yX4_countFrame yX4_countFrame, Cond.code yX4_countFrame cX4_countFrame 4 none, Cond.methodLink RX4 75 yX2_add]
def wsX8_arrive : List Cond := .code yX8_arrive cX8_arrive 8 (some .int) :: ((wsX8_arrive_r1 ++ (wsX8_arrive_r2 ++ (wsX8_arrive_r3 ++ (wsX8_arrive_r4 ++ (wsX8_arrive_r5 ++ (wsX8_arrive_r6 ++ (wsX8_arrive_r7 ++ (wsX8_arrive_r8 ++ (wsX8_arrive_r9 ++ wsX8_arrive_r10))))))))) ++ wsX80 ++ wsX00 ++ wsX20 ++ wsX40 ++ wsX50 ++ wsX70 ++ wsX10)
def wsX8_anew_r1 : List Cond := [Cond.fieldLink RX8 21 "SpurtClock" "arrivals" "LSpurtClock$Arrivals;", Cond.fieldLink RX8 28 "SpurtClock" "spurts" "LSpurtClock$Spurts;", Cond.fieldLink RX8 35 "SpurtClock" "surge" "LSpurtClock$Surge;", Cond.methodLink RX8 122 yX0_count, Cond.instanceMethod yX0_count, Cond.selects RX0 yX0_count yX0_count, Cond.initialized RX0, Cond.code yX0_count cX0_count 1 (some .int), Cond.fieldLink RX0 32 "SpurtClock$Arrivals" "count" "I", Cond.methodLink RX8 125 yX0_clear, Cond.instanceMethod yX0_clear, Cond.selects RX0 yX0_clear yX0_clear, Cond.code yX0_clear cX0_clear 2 none, Cond.fieldLink RX0 14 "SpurtClock$Arrivals" "placeAfter" "LSpurtClock$Row;", Cond.fieldLink RX0 20 "SpurtClock$Arrivals" "frames" "LSpurtClock$Row;", Cond.methodLink RX0 42 yX2_get, Cond.instanceMethod yX2_get, Cond.selects RX2 yX2_get yX2_get, Cond.initialized RX2, Cond.code yX2_get cX2_get 2 (some .int), Cond.fieldLink RX2 13 "SpurtClock$Row" "cells" "[I", Cond.methodLink RX0 49 yX2_set, Cond.instanceMethod yX2_set, Cond.selects RX2 yX2_set yX2_set]
def wsX8_anew_r2 : List Cond := [Cond.code yX2_set cX2_set 3 none, Cond.methodLink RX8 126 yX4_clear, Cond.instanceMethod yX4_clear, Cond.selects RX4 yX4_clear yX4_clear, Cond.initialized RX4, Cond.code yX4_clear cX4_clear 1 none, Cond.fieldLink RX4 41 "SpurtClock$Spurts" "count" "I", Cond.methodLink RX8 127 yX5_clear, Cond.instanceMethod yX5_clear, Cond.selects RX5 yX5_clear yX5_clear, Cond.initialized RX5, Cond.code yX5_clear cX5_clear 1 none, Cond.fieldLink RX5 7 "SpurtClock$Surge" "on" "Z", Cond.fieldLink RX5 17 "SpurtClock$Surge" "begun" "I"]
def wsX8_anew : List Cond := .code yX8_anew cX8_anew 2 (some .int) :: ((wsX8_anew_r1 ++ wsX8_anew_r2) ++ wsX80 ++ wsX00 ++ wsX20 ++ wsX40 ++ wsX50)
def wsX8_ofFrame_r1 : List Cond := [Cond.fieldLink RX8 21 "SpurtClock" "arrivals" "LSpurtClock$Arrivals;", Cond.methodLink RX8 128 yX0_placeOf, Cond.instanceMethod yX0_placeOf, Cond.selects RX0 yX0_placeOf yX0_placeOf, Cond.initialized RX0, Cond.code yX0_placeOf cX0_placeOf 2 (some .int), Cond.fieldLink RX0 14 "SpurtClock$Arrivals" "placeAfter" "LSpurtClock$Row;", Cond.methodLink RX0 42 yX2_get, Cond.instanceMethod yX2_get, Cond.selects RX2 yX2_get yX2_get, Cond.initialized RX2, Cond.code yX2_get cX2_get 2 (some .int), Cond.fieldLink RX2 13 "SpurtClock$Row" "cells" "[I", Cond.methodLink RX8 131 yX0_whenAt, Cond.instanceMethod yX0_whenAt, Cond.selects RX0 yX0_whenAt yX0_whenAt, Cond.code yX0_whenAt cX0_whenAt 2 (some .int), Cond.fieldLink RX0 23 "SpurtClock$Arrivals" "whens" "LSpurtClock$Row;", Cond.methodLink RX8 105 yX0_delayAt, Cond.instanceMethod yX0_delayAt, Cond.selects RX0 yX0_delayAt yX0_delayAt, Cond.code yX0_delayAt cX0_delayAt 2 (some .int), Cond.fieldLink RX0 20 "SpurtClock$Arrivals" "frames" "LSpurtClock$Row;", Cond.methodLink RX8 134 yX0_spurtAt]
def wsX8_ofFrame_r2 : List Cond := [Cond.instanceMethod yX0_spurtAt, Cond.selects RX0 yX0_spurtAt yX0_spurtAt, Cond.code yX0_spurtAt cX0_spurtAt 2 (some .int), Cond.fieldLink RX0 26 "SpurtClock$Arrivals" "spurtNumbers" "LSpurtClock$Row;", Cond.methodLink RX8 137 yX0_playedAt, Cond.instanceMethod yX0_playedAt, Cond.selects RX0 yX0_playedAt yX0_playedAt, Cond.code yX0_playedAt cX0_playedAt 2 (some .int), Cond.fieldLink RX0 29 "SpurtClock$Arrivals" "playTimes" "LSpurtClock$Row;"]
def wsX8_ofFrame : List Cond := .code yX8_ofFrame cX8_ofFrame 4 (some .int) :: ((wsX8_ofFrame_r1 ++ wsX8_ofFrame_r2) ++ wsX80 ++ wsX00 ++ wsX20)
def wsX8_ofSpurt_r1 : List Cond := [Cond.fieldLink RX8 28 "SpurtClock" "spurts" "LSpurtClock$Spurts;", Cond.methodLink RX8 140 yX4_count, Cond.instanceMethod yX4_count, Cond.selects RX4 yX4_count yX4_count, Cond.initialized RX4, Cond.code yX4_count cX4_count 1 (some .int), Cond.fieldLink RX4 41 "SpurtClock$Spurts" "count" "I", Cond.methodLink RX8 73 yX8_isOutside, Cond.static yX8_isOutside, Cond.initialized RX8, Cond.code yX8_isOutside cX8_isOutside 3 (some .boolean), Cond.methodLink RX8 141 yX4_headOf, Cond.instanceMethod yX4_headOf, Cond.selects RX4 yX4_headOf yX4_headOf, Cond.code yX4_headOf cX4_headOf 2 (some .int), Cond.fieldLink RX4 14 "SpurtClock$Spurts" "heads" "LSpurtClock$Row;", Cond.methodLink RX4 45 yX2_get, Cond.instanceMethod yX2_get, Cond.selects RX2 yX2_get yX2_get, Cond.initialized RX2, Cond.code yX2_get cX2_get 2 (some .int), Cond.fieldLink RX2 13 "SpurtClock$Row" "cells" "[I", Cond.methodLink RX8 144 yX4_pauseOf, Cond.instanceMethod yX4_pauseOf]
def wsX8_ofSpurt_r2 : List Cond := [Cond.selects RX4 yX4_pauseOf yX4_pauseOf, Cond.code yX4_pauseOf cX4_pauseOf 2 (some .int), Cond.fieldLink RX4 20 "SpurtClock$Spurts" "pauses" "LSpurtClock$Row;", Cond.methodLink RX8 147 yX4_timeOf, Cond.instanceMethod yX4_timeOf, Cond.selects RX4 yX4_timeOf yX4_timeOf, Cond.code yX4_timeOf cX4_timeOf 2 (some .int), Cond.fieldLink RX4 23 "SpurtClock$Spurts" "times" "LSpurtClock$Row;", Cond.methodLink RX8 150 yX4_cameOf, Cond.instanceMethod yX4_cameOf, Cond.selects RX4 yX4_cameOf yX4_cameOf, Cond.code yX4_cameOf cX4_cameOf 2 (some .int), Cond.fieldLink RX4 29 "SpurtClock$Spurts" "came" "LSpurtClock$Row;", Cond.methodLink RX8 153 yX4_playedOf, Cond.instanceMethod yX4_playedOf, Cond.selects RX4 yX4_playedOf yX4_playedOf, Cond.code yX4_playedOf cX4_playedOf 2 (some .int), Cond.fieldLink RX4 32 "SpurtClock$Spurts" "played" "LSpurtClock$Row;", Cond.methodLink RX8 156 yX4_missingOf, Cond.instanceMethod yX4_missingOf, Cond.selects RX4 yX4_missingOf yX4_missingOf, Cond.code yX4_missingOf cX4_missingOf 2 (some .int), Cond.fieldLink RX4 35 "SpurtClock$Spurts" "greatest" "LSpurtClock$Row;", Cond.methodLink RX8 159 yX4_greatestOf]
def wsX8_ofSpurt_r3 : List Cond := [Cond.instanceMethod yX4_greatestOf, Cond.selects RX4 yX4_greatestOf yX4_greatestOf, Cond.code yX4_greatestOf cX4_greatestOf 2 (some .int), Cond.methodLink RX8 162 yX4_mannerOf, Cond.instanceMethod yX4_mannerOf, Cond.selects RX4 yX4_mannerOf yX4_mannerOf, Cond.code yX4_mannerOf cX4_mannerOf 2 (some .int), Cond.fieldLink RX4 26 "SpurtClock$Spurts" "manners" "LSpurtClock$Row;"]
def wsX8_ofSpurt : List Cond := .code yX8_ofSpurt cX8_ofSpurt 3 (some .int) :: ((wsX8_ofSpurt_r1 ++ (wsX8_ofSpurt_r2 ++ wsX8_ofSpurt_r3)) ++ wsX80 ++ wsX40 ++ wsX20)
def wsX8_inOrder : List Cond := .code yX8_inOrder cX8_inOrder 2 (some .int) :: ([.fieldLink RX8 28 "SpurtClock" "spurts" "LSpurtClock$Spurts;", .methodLink RX8 140 yX4_count, .instanceMethod yX4_count, .selects RX4 yX4_count yX4_count, .initialized RX4, .code yX4_count cX4_count 1 (some .int), .fieldLink RX4 41 "SpurtClock$Spurts" "count" "I", .methodLink RX8 73 yX8_isOutside, .static yX8_isOutside, .initialized RX8, .code yX8_isOutside cX8_isOutside 3 (some .boolean), .methodLink RX8 165 yX4_atRank, .instanceMethod yX4_atRank, .selects RX4 yX4_atRank yX4_atRank, .code yX4_atRank cX4_atRank 2 (some .int), .fieldLink RX4 38 "SpurtClock$Spurts" "ranked" "LSpurtClock$Row;", .methodLink RX4 45 yX2_get, .instanceMethod yX2_get, .selects RX2 yX2_get yX2_get, .initialized RX2, .code yX2_get cX2_get 2 (some .int), .fieldLink RX2 13 "SpurtClock$Row" "cells" "[I"] ++ wsX80 ++ wsX40 ++ wsX20)
def wsX8_wish_r1 : List Cond := [Cond.fieldLink RX8 21 "SpurtClock" "arrivals" "LSpurtClock$Arrivals;", Cond.methodLink RX8 73 yX8_isOutside, Cond.static yX8_isOutside, Cond.initialized RX8, Cond.code yX8_isOutside cX8_isOutside 3 (some .boolean), Cond.methodLink RX8 122 yX0_count, Cond.instanceMethod yX0_count, Cond.selects RX0 yX0_count yX0_count, Cond.initialized RX0, Cond.code yX0_count cX0_count 1 (some .int), Cond.fieldLink RX0 32 "SpurtClock$Arrivals" "count" "I", Cond.methodLink RX8 168 yX8_wishFor, Cond.instanceMethod yX8_wishFor, Cond.selects RX8 yX8_wishFor yX8_wishFor, Cond.code yX8_wishFor cX8_wishFor 2 (some .int), Cond.fieldLink RX8 49 "SpurtClock" "wishes" "LSpurtClock$Wishes;", Cond.fieldLink RX8 60 "SpurtClock" "mannerNow" "I", Cond.fieldLink RX8 42 "SpurtClock" "line" "LSpurtClock$LowestLine;", Cond.fieldLink RX8 64 "SpurtClock" "mannerNumber" "I", Cond.fieldLink RX8 35 "SpurtClock" "surge" "LSpurtClock$Surge;", Cond.methodLink RX8 256 yX7_gather, Cond.instanceMethod yX7_gather, Cond.selects RX7 yX7_gather yX7_gather, Cond.initialized RX7]
def wsX8_wish_r2 : List Cond := [Cond.code yX7_gather cX7_gather 3 none, Cond.fieldLink RX7 26 "SpurtClock$Wishes" "size" "I", Cond.fieldLink RX7 14 "SpurtClock$Wishes" "delays" "LSpurtClock$Row;", Cond.methodLink RX7 20 yX0_historySize, Cond.instanceMethod yX0_historySize, Cond.selects RX0 yX0_historySize yX0_historySize, Cond.code yX0_historySize cX0_historySize 1 (some .int), Cond.methodLink RX0 36 Lib.Math.min.name, Cond.static Lib.Math.min.name, Cond.initialized "java/lang/Math", Cond.code Lib.Math.min.name Lib.Math.min.code 2 (some .int), Cond.methodLink RX7 30 yX0_lastPlace, Cond.instanceMethod yX0_lastPlace, Cond.selects RX0 yX0_lastPlace yX0_lastPlace, Cond.code yX0_lastPlace cX0_lastPlace 1 (some .int), Cond.methodLink RX7 33 yX0_delayAt, Cond.instanceMethod yX0_delayAt, Cond.selects RX0 yX0_delayAt yX0_delayAt, Cond.code yX0_delayAt cX0_delayAt 2 (some .int), Cond.fieldLink RX0 23 "SpurtClock$Arrivals" "whens" "LSpurtClock$Row;", Cond.fieldLink RX0 20 "SpurtClock$Arrivals" "frames" "LSpurtClock$Row;", Cond.methodLink RX0 42 yX2_get, Cond.instanceMethod yX2_get, Cond.selects RX2 yX2_get yX2_get]
def wsX8_wish_r3 : List Cond := [Cond.initialized RX2, Cond.code yX2_get cX2_get 2 (some .int), Cond.fieldLink RX2 13 "SpurtClock$Row" "cells" "[I", Cond.methodLink RX7 37 yX2_set, Cond.instanceMethod yX2_set, Cond.selects RX2 yX2_set yX2_set, Cond.code yX2_set cX2_set 3 none, Cond.methodLink RX8 188 yX1_fitUnder, Cond.instanceMethod yX1_fitUnder, Cond.selects RX1 yX1_fitUnder yX1_fitUnder, Cond.initialized RX1, Cond.code yX1_fitUnder cX1_fitUnder 4 none, Cond.fieldLink RX1 30 "SpurtClock$LowestLine" "corners" "I", Cond.fieldLink RX1 27 "SpurtClock$LowestLine" "upper" "I", Cond.fieldLink RX1 23 "SpurtClock$LowestLine" "lower" "I", Cond.methodLink RX1 33 yX0_placeOf, Cond.instanceMethod yX0_placeOf, Cond.selects RX0 yX0_placeOf yX0_placeOf, Cond.code yX0_placeOf cX0_placeOf 2 (some .int), Cond.fieldLink RX0 14 "SpurtClock$Arrivals" "placeAfter" "LSpurtClock$Row;", Cond.methodLink RX1 39 yX0_delayAt, Cond.methodLink RX1 42 yX1_addCorner, Cond.instanceMethod yX1_addCorner, Cond.selects RX1 yX1_addCorner yX1_addCorner]
def wsX8_wish_r4 : List Cond := [Cond.code yX1_addCorner cX1_addCorner 3 none, Cond.fieldLink RX1 14 "SpurtClock$LowestLine" "cornerFrames" "LSpurtClock$Row;", Cond.fieldLink RX1 20 "SpurtClock$LowestLine" "cornerDelays" "LSpurtClock$Row;", Cond.methodLink RX1 49 yX1_lastIsNotBelow, Cond.instanceMethod yX1_lastIsNotBelow, Cond.selects RX1 yX1_lastIsNotBelow yX1_lastIsNotBelow, Cond.code yX1_lastIsNotBelow cX1_lastIsNotBelow 7 (some .boolean), Cond.methodLink RX1 56 yX2_get, Cond.methodLink RX1 53 yX2_set, Cond.methodLink RX1 46 yX1_takeRiseAtMiddle, Cond.instanceMethod yX1_takeRiseAtMiddle, Cond.selects RX1 yX1_takeRiseAtMiddle yX1_takeRiseAtMiddle, Cond.code yX1_takeRiseAtMiddle cX1_takeRiseAtMiddle 3 none, Cond.methodLink RX1 59 yX1_setRise, Cond.instanceMethod yX1_setRise, Cond.selects RX1 yX1_setRise yX1_setRise, Cond.code yX1_setRise cX1_setRise 4 none, Cond.methodLink RX1 62 Lib.Math.abs.name, Cond.static Lib.Math.abs.name, Cond.code Lib.Math.abs.name Lib.Math.abs.code 1 (some .int), Cond.methodLink RX1 67 yX1_greatestDivisor, Cond.static yX1_greatestDivisor, Cond.code yX1_greatestDivisor cX1_greatestDivisor 6 (some .int), Cond.methodLink RX8 259 yX7_carryAlong]
def wsX8_wish_r5 : List Cond := [Cond.instanceMethod yX7_carryAlong, Cond.selects RX7 yX7_carryAlong yX7_carryAlong, Cond.code yX7_carryAlong cX7_carryAlong 6 none, Cond.methodLink RX7 41 yX0_frameAt, Cond.instanceMethod yX0_frameAt, Cond.selects RX0 yX0_frameAt yX0_frameAt, Cond.code yX0_frameAt cX0_frameAt 2 (some .int), Cond.methodLink RX7 44 yX1_riseOver, Cond.instanceMethod yX1_riseOver, Cond.selects RX1 yX1_riseOver yX1_riseOver, Cond.code yX1_riseOver cX1_riseOver 2 (some .int), Cond.methodLink RX1 71 yJ9_floorDiv_7cf53, Cond.static yJ9_floorDiv_7cf53, Cond.initialized RJ9, Cond.code yJ9_floorDiv_7cf53 cJ9_floorDiv_7cf53 3 (some .int), Cond.methodLink RX7 49 yX2_add, Cond.instanceMethod yX2_add, Cond.selects RX2 yX2_add yX2_add, Cond.code yX2_add cX2_add 3 none, Cond.methodLink RX2 19 yX2_get, Cond.methodLink RX2 23 yX2_set, Cond.methodLink RX8 171 yX5_isOn, Cond.instanceMethod yX5_isOn, Cond.selects RX5 yX5_isOn yX5_isOn]
def wsX8_wish_r6 : List Cond := [Cond.initialized RX5, Cond.code yX5_isOn cX5_isOn 1 (some .boolean), Cond.fieldLink RX5 7 "SpurtClock$Surge" "on" "Z", Cond.methodLink RX8 263 yX7_greatestOfLastThree, Cond.instanceMethod yX7_greatestOfLastThree, Cond.selects RX7 yX7_greatestOfLastThree yX7_greatestOfLastThree, Cond.code yX7_greatestOfLastThree cX7_greatestOfLastThree 1 (some .int), Cond.methodLink RX7 61 Lib.Math.min.name, Cond.methodLink RX7 52 yX7_greatestOfLast, Cond.instanceMethod yX7_greatestOfLast, Cond.selects RX7 yX7_greatestOfLast yX7_greatestOfLast, Cond.code yX7_greatestOfLast cX7_greatestOfLast 4 (some .int), Cond.methodLink RX7 73 Lib.Math.max.name, Cond.static Lib.Math.max.name, Cond.code Lib.Math.max.name Lib.Math.max.code 2 (some .int), Cond.methodLink RX7 55 yX2_get, Cond.methodLink RX8 266 yX7_byShare, Cond.instanceMethod yX7_byShare, Cond.selects RX7 yX7_byShare yX7_byShare, Cond.code yX7_byShare cX7_byShare 5 (some .int), Cond.methodLink RX7 58 yX7_countAbove, Cond.instanceMethod yX7_countAbove, Cond.selects RX7 yX7_countAbove yX7_countAbove, Cond.code yX7_countAbove cX7_countAbove 4 (some .int)]
def wsX8_wish_r7 : List Cond := [Cond.methodLink RX8 269 yX7_byMean, Cond.instanceMethod yX7_byMean, Cond.selects RX7 yX7_byMean yX7_byMean, Cond.code yX7_byMean cX7_byMean 6 (some .int), Cond.methodLink RX7 70 Lib.Math.abs.name, Cond.methodLink RX7 67 yJ9_floorDiv_7cf53]
def wsX8_wish : List Cond := .code yX8_wish cX8_wish 2 (some .int) :: ((wsX8_wish_r1 ++ (wsX8_wish_r2 ++ (wsX8_wish_r3 ++ (wsX8_wish_r4 ++ (wsX8_wish_r5 ++ (wsX8_wish_r6 ++ wsX8_wish_r7)))))) ++ wsX80 ++ wsX00 ++ wsX70 ++ wsX20 ++ wsX10 ++ wsX50)
def wsX8_spike : List Cond := .code yX8_spike cX8_spike 2 (some .int) :: ([.fieldLink RX8 35 "SpurtClock" "surge" "LSpurtClock$Surge;", .methodLink RX8 171 yX5_isOn, .instanceMethod yX5_isOn, .selects RX5 yX5_isOn yX5_isOn, .initialized RX5, .code yX5_isOn cX5_isOn 1 (some .boolean), .fieldLink RX5 7 "SpurtClock$Surge" "on" "Z", .methodLink RX8 175 yX5_base, .instanceMethod yX5_base, .selects RX5 yX5_base yX5_base, .code yX5_base cX5_base 1 (some .int), .fieldLink RX5 13 "SpurtClock$Surge" "base" "I"] ++ wsX80 ++ wsX50)
def wsX8_late_r1 : List Cond := [Cond.constant RX8 178 (40000), Cond.fieldLink RX8 21 "SpurtClock" "arrivals" "LSpurtClock$Arrivals;", Cond.methodLink RX8 73 yX8_isOutside, Cond.static yX8_isOutside, Cond.initialized RX8, Cond.code yX8_isOutside cX8_isOutside 3 (some .boolean), Cond.methodLink RX8 179 yX0_historySize, Cond.instanceMethod yX0_historySize, Cond.selects RX0 yX0_historySize yX0_historySize, Cond.initialized RX0, Cond.code yX0_historySize cX0_historySize 1 (some .int), Cond.fieldLink RX0 32 "SpurtClock$Arrivals" "count" "I", Cond.methodLink RX0 36 Lib.Math.min.name, Cond.static Lib.Math.min.name, Cond.initialized "java/lang/Math", Cond.code Lib.Math.min.name Lib.Math.min.code 2 (some .int), Cond.methodLink RX8 182 yX0_delaysAbove, Cond.instanceMethod yX0_delaysAbove, Cond.selects RX0 yX0_delaysAbove yX0_delaysAbove, Cond.code yX0_delaysAbove cX0_delaysAbove 5 (some .int), Cond.methodLink RX0 46 yX0_delayAt, Cond.instanceMethod yX0_delayAt, Cond.selects RX0 yX0_delayAt yX0_delayAt, Cond.code yX0_delayAt cX0_delayAt 2 (some .int)]
def wsX8_late_r2 : List Cond := [Cond.fieldLink RX0 23 "SpurtClock$Arrivals" "whens" "LSpurtClock$Row;", Cond.fieldLink RX0 20 "SpurtClock$Arrivals" "frames" "LSpurtClock$Row;", Cond.methodLink RX0 42 yX2_get, Cond.instanceMethod yX2_get, Cond.selects RX2 yX2_get yX2_get, Cond.initialized RX2, Cond.code yX2_get cX2_get 2 (some .int), Cond.fieldLink RX2 13 "SpurtClock$Row" "cells" "[I"]
def wsX8_late : List Cond := .code yX8_late cX8_late 2 (some .int) :: ((wsX8_late_r1 ++ wsX8_late_r2) ++ wsX80 ++ wsX00 ++ wsX20)
def wsX8_history_r1 : List Cond := [Cond.fieldLink RX8 21 "SpurtClock" "arrivals" "LSpurtClock$Arrivals;", Cond.methodLink RX8 73 yX8_isOutside, Cond.static yX8_isOutside, Cond.initialized RX8, Cond.code yX8_isOutside cX8_isOutside 3 (some .boolean), Cond.methodLink RX8 179 yX0_historySize, Cond.instanceMethod yX0_historySize, Cond.selects RX0 yX0_historySize yX0_historySize, Cond.initialized RX0, Cond.code yX0_historySize cX0_historySize 1 (some .int), Cond.fieldLink RX0 32 "SpurtClock$Arrivals" "count" "I", Cond.methodLink RX0 36 Lib.Math.min.name, Cond.static Lib.Math.min.name, Cond.initialized "java/lang/Math", Cond.code Lib.Math.min.name Lib.Math.min.code 2 (some .int), Cond.methodLink RX8 185 yX0_lastPlace, Cond.instanceMethod yX0_lastPlace, Cond.selects RX0 yX0_lastPlace yX0_lastPlace, Cond.code yX0_lastPlace cX0_lastPlace 1 (some .int), Cond.methodLink RX8 105 yX0_delayAt, Cond.instanceMethod yX0_delayAt, Cond.selects RX0 yX0_delayAt yX0_delayAt, Cond.code yX0_delayAt cX0_delayAt 2 (some .int), Cond.fieldLink RX0 23 "SpurtClock$Arrivals" "whens" "LSpurtClock$Row;"]
def wsX8_history_r2 : List Cond := [Cond.fieldLink RX0 20 "SpurtClock$Arrivals" "frames" "LSpurtClock$Row;", Cond.methodLink RX0 42 yX2_get, Cond.instanceMethod yX2_get, Cond.selects RX2 yX2_get yX2_get, Cond.initialized RX2, Cond.code yX2_get cX2_get 2 (some .int), Cond.fieldLink RX2 13 "SpurtClock$Row" "cells" "[I"]
def wsX8_history : List Cond := .code yX8_history cX8_history 2 (some .int) :: ((wsX8_history_r1 ++ wsX8_history_r2) ++ wsX80 ++ wsX00 ++ wsX20)
def wsX8_loss_r1 : List Cond := [Cond.constant RX8 178 (40000), Cond.fieldLink RX8 21 "SpurtClock" "arrivals" "LSpurtClock$Arrivals;", Cond.methodLink RX8 73 yX8_isOutside, Cond.static yX8_isOutside, Cond.initialized RX8, Cond.code yX8_isOutside cX8_isOutside 3 (some .boolean), Cond.methodLink RX8 122 yX0_count, Cond.instanceMethod yX0_count, Cond.selects RX0 yX0_count yX0_count, Cond.initialized RX0, Cond.code yX0_count cX0_count 1 (some .int), Cond.fieldLink RX0 32 "SpurtClock$Arrivals" "count" "I", Cond.methodLink RX8 182 yX0_delaysAbove, Cond.instanceMethod yX0_delaysAbove, Cond.selects RX0 yX0_delaysAbove yX0_delaysAbove, Cond.code yX0_delaysAbove cX0_delaysAbove 5 (some .int), Cond.methodLink RX0 46 yX0_delayAt, Cond.instanceMethod yX0_delayAt, Cond.selects RX0 yX0_delayAt yX0_delayAt, Cond.code yX0_delayAt cX0_delayAt 2 (some .int), Cond.fieldLink RX0 23 "SpurtClock$Arrivals" "whens" "LSpurtClock$Row;", Cond.fieldLink RX0 20 "SpurtClock$Arrivals" "frames" "LSpurtClock$Row;", Cond.methodLink RX0 42 yX2_get, Cond.instanceMethod yX2_get]
def wsX8_loss_r2 : List Cond := [Cond.selects RX2 yX2_get yX2_get, Cond.initialized RX2, Cond.code yX2_get cX2_get 2 (some .int), Cond.fieldLink RX2 13 "SpurtClock$Row" "cells" "[I"]
def wsX8_loss : List Cond := .code yX8_loss cX8_loss 2 (some .int) :: ((wsX8_loss_r1 ++ wsX8_loss_r2) ++ wsX80 ++ wsX00 ++ wsX20)
def wsX8_drift_r1 : List Cond := [Cond.fieldLink RX8 42 "SpurtClock" "line" "LSpurtClock$LowestLine;", Cond.fieldLink RX8 21 "SpurtClock" "arrivals" "LSpurtClock$Arrivals;", Cond.constantLong RX8 198 (-9223372036854775808), Cond.methodLink RX8 188 yX1_fitUnder, Cond.instanceMethod yX1_fitUnder, Cond.selects RX1 yX1_fitUnder yX1_fitUnder, Cond.initialized RX1, Cond.code yX1_fitUnder cX1_fitUnder 4 none, Cond.fieldLink RX1 30 "SpurtClock$LowestLine" "corners" "I", Cond.fieldLink RX1 27 "SpurtClock$LowestLine" "upper" "I", Cond.fieldLink RX1 23 "SpurtClock$LowestLine" "lower" "I", Cond.methodLink RX1 33 yX0_placeOf, Cond.instanceMethod yX0_placeOf, Cond.selects RX0 yX0_placeOf yX0_placeOf, Cond.initialized RX0, Cond.code yX0_placeOf cX0_placeOf 2 (some .int), Cond.fieldLink RX0 14 "SpurtClock$Arrivals" "placeAfter" "LSpurtClock$Row;", Cond.methodLink RX0 42 yX2_get, Cond.instanceMethod yX2_get, Cond.selects RX2 yX2_get yX2_get, Cond.initialized RX2, Cond.code yX2_get cX2_get 2 (some .int), Cond.fieldLink RX2 13 "SpurtClock$Row" "cells" "[I", Cond.methodLink RX1 39 yX0_delayAt]
def wsX8_drift_r2 : List Cond := [Cond.instanceMethod yX0_delayAt, Cond.selects RX0 yX0_delayAt yX0_delayAt, Cond.code yX0_delayAt cX0_delayAt 2 (some .int), Cond.fieldLink RX0 23 "SpurtClock$Arrivals" "whens" "LSpurtClock$Row;", Cond.fieldLink RX0 20 "SpurtClock$Arrivals" "frames" "LSpurtClock$Row;", Cond.methodLink RX1 42 yX1_addCorner, Cond.instanceMethod yX1_addCorner, Cond.selects RX1 yX1_addCorner yX1_addCorner, Cond.code yX1_addCorner cX1_addCorner 3 none, Cond.fieldLink RX1 14 "SpurtClock$LowestLine" "cornerFrames" "LSpurtClock$Row;", Cond.fieldLink RX1 20 "SpurtClock$LowestLine" "cornerDelays" "LSpurtClock$Row;", Cond.methodLink RX1 49 yX1_lastIsNotBelow, Cond.instanceMethod yX1_lastIsNotBelow, Cond.selects RX1 yX1_lastIsNotBelow yX1_lastIsNotBelow, Cond.code yX1_lastIsNotBelow cX1_lastIsNotBelow 7 (some .boolean), Cond.methodLink RX1 56 yX2_get, Cond.methodLink RX1 53 yX2_set, Cond.instanceMethod yX2_set, Cond.selects RX2 yX2_set yX2_set, Cond.code yX2_set cX2_set 3 none, Cond.methodLink RX1 46 yX1_takeRiseAtMiddle, Cond.instanceMethod yX1_takeRiseAtMiddle, Cond.selects RX1 yX1_takeRiseAtMiddle yX1_takeRiseAtMiddle, Cond.code yX1_takeRiseAtMiddle cX1_takeRiseAtMiddle 3 none]
def wsX8_drift_r3 : List Cond := [Cond.methodLink RX1 59 yX1_setRise, Cond.instanceMethod yX1_setRise, Cond.selects RX1 yX1_setRise yX1_setRise, Cond.code yX1_setRise cX1_setRise 4 none, Cond.methodLink RX1 62 Lib.Math.abs.name, Cond.static Lib.Math.abs.name, Cond.initialized "java/lang/Math", Cond.code Lib.Math.abs.name Lib.Math.abs.code 1 (some .int), Cond.methodLink RX1 67 yX1_greatestDivisor, Cond.static yX1_greatestDivisor, Cond.code yX1_greatestDivisor cX1_greatestDivisor 6 (some .int), Cond.methodLink RX8 192 yX1_upper, Cond.instanceMethod yX1_upper, Cond.selects RX1 yX1_upper yX1_upper, Cond.code yX1_upper cX1_upper 1 (some .int), Cond.methodLink RX8 195 yX1_lower, Cond.instanceMethod yX1_lower, Cond.selects RX1 yX1_lower yX1_lower, Cond.code yX1_lower cX1_lower 1 (some .int)]
def wsX8_drift : List Cond := .code yX8_drift cX8_drift 2 (some .long) :: ((wsX8_drift_r1 ++ (wsX8_drift_r2 ++ wsX8_drift_r3)) ++ wsX80 ++ wsX10 ++ wsX00 ++ wsX20)
def wsX8_waiting_r1 : List Cond := [Cond.constant RX8 200 (100000), Cond.fieldLink RX8 21 "SpurtClock" "arrivals" "LSpurtClock$Arrivals;", Cond.methodLink RX8 73 yX8_isOutside, Cond.static yX8_isOutside, Cond.initialized RX8, Cond.code yX8_isOutside cX8_isOutside 3 (some .boolean), Cond.methodLink RX8 122 yX0_count, Cond.instanceMethod yX0_count, Cond.selects RX0 yX0_count yX0_count, Cond.initialized RX0, Cond.code yX0_count cX0_count 1 (some .int), Cond.fieldLink RX0 32 "SpurtClock$Arrivals" "count" "I", Cond.methodLink RX8 131 yX0_whenAt, Cond.instanceMethod yX0_whenAt, Cond.selects RX0 yX0_whenAt yX0_whenAt, Cond.code yX0_whenAt cX0_whenAt 2 (some .int), Cond.fieldLink RX0 23 "SpurtClock$Arrivals" "whens" "LSpurtClock$Row;", Cond.methodLink RX0 42 yX2_get, Cond.instanceMethod yX2_get, Cond.selects RX2 yX2_get yX2_get, Cond.initialized RX2, Cond.code yX2_get cX2_get 2 (some .int), Cond.fieldLink RX2 13 "SpurtClock$Row" "cells" "[I", Cond.methodLink RX8 137 yX0_playedAt]
def wsX8_waiting_r2 : List Cond := [Cond.instanceMethod yX0_playedAt, Cond.selects RX0 yX0_playedAt yX0_playedAt, Cond.code yX0_playedAt cX0_playedAt 2 (some .int), Cond.fieldLink RX0 29 "SpurtClock$Arrivals" "playTimes" "LSpurtClock$Row;"]
def wsX8_waiting : List Cond := .code yX8_waiting cX8_waiting 4 (some .int) :: ((wsX8_waiting_r1 ++ wsX8_waiting_r2) ++ wsX80 ++ wsX00 ++ wsX20)
def wsX8_playing_r1 : List Cond := [Cond.constant RX8 200 (100000), Cond.fieldLink RX8 21 "SpurtClock" "arrivals" "LSpurtClock$Arrivals;", Cond.methodLink RX8 73 yX8_isOutside, Cond.static yX8_isOutside, Cond.initialized RX8, Cond.code yX8_isOutside cX8_isOutside 3 (some .boolean), Cond.methodLink RX8 122 yX0_count, Cond.instanceMethod yX0_count, Cond.selects RX0 yX0_count yX0_count, Cond.initialized RX0, Cond.code yX0_count cX0_count 1 (some .int), Cond.fieldLink RX0 32 "SpurtClock$Arrivals" "count" "I", Cond.methodLink RX8 137 yX0_playedAt, Cond.instanceMethod yX0_playedAt, Cond.selects RX0 yX0_playedAt yX0_playedAt, Cond.code yX0_playedAt cX0_playedAt 2 (some .int), Cond.fieldLink RX0 29 "SpurtClock$Arrivals" "playTimes" "LSpurtClock$Row;", Cond.methodLink RX0 42 yX2_get, Cond.instanceMethod yX2_get, Cond.selects RX2 yX2_get yX2_get, Cond.initialized RX2, Cond.code yX2_get cX2_get 2 (some .int), Cond.fieldLink RX2 13 "SpurtClock$Row" "cells" "[I", Cond.methodLink RX8 201 yX0_frameAt]
def wsX8_playing_r2 : List Cond := [Cond.instanceMethod yX0_frameAt, Cond.selects RX0 yX0_frameAt yX0_frameAt, Cond.code yX0_frameAt cX0_frameAt 2 (some .int), Cond.fieldLink RX0 20 "SpurtClock$Arrivals" "frames" "LSpurtClock$Row;"]
def wsX8_playing : List Cond := .code yX8_playing cX8_playing 4 (some .int) :: ((wsX8_playing_r1 ++ wsX8_playing_r2) ++ wsX80 ++ wsX00 ++ wsX20)
def wsX8_writeOpening_r1 : List Cond := [Cond.fieldLink RX8 56 "SpurtClock" "sheet" "LSpurtClock$Sheet;", Cond.fieldLink RX8 28 "SpurtClock" "spurts" "LSpurtClock$Spurts;", Cond.methodLink RX8 284 yX3_clear, Cond.instanceMethod yX3_clear, Cond.selects RX3 yX3_clear yX3_clear, Cond.initialized RX3, Cond.code yX3_clear cX3_clear 1 none, Cond.fieldLink RX3 20 "SpurtClock$Sheet" "size" "I", Cond.methodLink RX8 285 yX3_put, Cond.instanceMethod yX3_put, Cond.selects RX3 yX3_put yX3_put, Cond.code yX3_put cX3_put 2 none, Cond.fieldLink RX3 14 "SpurtClock$Sheet" "codes" "LSpurtClock$Row;", Cond.methodLink RX3 28 yX2_set, Cond.instanceMethod yX2_set, Cond.selects RX2 yX2_set yX2_set, Cond.initialized RX2, Cond.code yX2_set cX2_set 3 none, Cond.fieldLink RX2 13 "SpurtClock$Row" "cells" "[I", Cond.methodLink RX8 141 yX4_headOf, Cond.instanceMethod yX4_headOf, Cond.selects RX4 yX4_headOf yX4_headOf, Cond.initialized RX4, Cond.code yX4_headOf cX4_headOf 2 (some .int)]
def wsX8_writeOpening_r2 : List Cond := [Cond.fieldLink RX4 14 "SpurtClock$Spurts" "heads" "LSpurtClock$Row;", Cond.methodLink RX4 45 yX2_get, Cond.instanceMethod yX2_get, Cond.selects RX2 yX2_get yX2_get, Cond.code yX2_get cX2_get 2 (some .int), Cond.methodLink RX8 288 yX3_putNumber, Cond.instanceMethod yX3_putNumber, Cond.selects RX3 yX3_putNumber yX3_putNumber, Cond.code yX3_putNumber cX3_putNumber 6 none, Cond.constant RX3 45 (1000000000), Cond.methodLink RX3 42 yX3_put, Cond.methodLink RX8 162 yX4_mannerOf, Cond.instanceMethod yX4_mannerOf, Cond.selects RX4 yX4_mannerOf yX4_mannerOf, Cond.code yX4_mannerOf cX4_mannerOf 2 (some .int), Cond.fieldLink RX4 26 "SpurtClock$Spurts" "manners" "LSpurtClock$Row;", Cond.methodLink RX8 214 yX8_wordOf, Cond.static yX8_wordOf, Cond.initialized RX8, Cond.code yX8_wordOf cX8_wordOf 1 (some (.object "java/lang/String")), Cond.methodLink RX8 291 yX3_putWord, Cond.instanceMethod yX3_putWord, Cond.selects RX3 yX3_putWord yX3_putWord, Cond.code yX3_putWord cX3_putWord 3 none]
def wsX8_writeOpening_r3 : List Cond := [Cond.methodLink RX3 32 yJ0_length_8abf5, Cond.instanceMethod yJ0_length_8abf5, Cond.selects RJ0 yJ0_length_8abf5 yJ0_length_8abf5, Cond.initialized RJ0, Cond.code yJ0_length_8abf5 cJ0_length_8abf5 1 (some .int), Cond.fieldLink RJ0 9 "java/lang/String" "value" "[B", Cond.methodLink RJ0 335 yJ0_coder_7d493, Cond.instanceMethod yJ0_coder_7d493, Cond.selects RJ0 yJ0_coder_7d493 yJ0_coder_7d493, Cond.code yJ0_coder_7d493 cJ0_coder_7d493 1 (some .byte), Cond.fieldLink RJ0 38 "java/lang/String" "COMPACT_STRINGS" "Z", Cond.fieldLink RJ0 15 "java/lang/String" "coder" "B", Cond.methodLink RX3 38 yJ0_charAt_5068e, Cond.instanceMethod yJ0_charAt_5068e, Cond.selects RJ0 yJ0_charAt_5068e yJ0_charAt_5068e, Cond.code yJ0_charAt_5068e cJ0_charAt_5068e 2 (some .char), Cond.methodLink RJ0 492 yJ0_isLatin1_aae02, Cond.instanceMethod yJ0_isLatin1_aae02, Cond.selects RJ0 yJ0_isLatin1_aae02 yJ0_isLatin1_aae02, Cond.code yJ0_isLatin1_aae02 cJ0_isLatin1_aae02 1 (some .boolean), Cond.methodLink RJ0 495 yJ1_charAt_3b067, Cond.static yJ1_charAt_3b067, Cond.initialized RJ1, Cond.code yJ1_charAt_3b067 cJ1_charAt_3b067 2 (some .char)]
def wsX8_writeOpening_r4 : List Cond := [Cond.methodLink RJ1 9 yJ0_checkIndex_df160, Cond.static yJ0_checkIndex_df160, Cond.code yJ0_checkIndex_df160 cJ0_checkIndex_df160 2 none, Cond.fieldLink RJ0 1053 "jdk/internal/util/Preconditions" "SIOOBE_FORMATTER" "Ljava/util/function/BiFunction;", Cond.methodLink RJ0 1059 yJ3_checkIndex_8e157, Cond.static yJ3_checkIndex_8e157, Cond.initialized RJ3, Cond.code yJ3_checkIndex_8e157 cJ3_checkIndex_8e157 3 (some .int), Cond.methodLink RJ0 498 yJ2_charAt_3b067, Cond.static yJ2_charAt_3b067, Cond.initialized RJ2, Cond.code yJ2_charAt_3b067 cJ2_charAt_3b067 2 (some .char), Cond.methodLink RJ2 67 yJ2_checkIndex_2214a, Cond.static yJ2_checkIndex_2214a, Cond.code yJ2_checkIndex_2214a cJ2_checkIndex_2214a 2 none, Cond.methodLink RJ2 48 yJ2_length_9d52b, Cond.static yJ2_length_9d52b, Cond.code yJ2_length_9d52b cJ2_length_9d52b 1 (some .int), Cond.methodLink RJ2 414 yJ0_checkIndex_df160, Cond.methodLink RJ2 71 yJ2_getChar_3b067, Cond.static yJ2_getChar_3b067, Cond.code yJ2_getChar_3b067 cJ2_getChar_3b067 2 (some .char), Cond.fieldLink RJ2 44 "java/lang/StringUTF16" "$assertionsDisabled" "Z", Cond.fieldLink RJ2 59 "java/lang/StringUTF16" "HI_BYTE_SHIFT" "I"]
def wsX8_writeOpening_r5 : List Cond := [Cond.fieldLink RJ2 63 "java/lang/StringUTF16" "LO_BYTE_SHIFT" "I", Cond.methodLink RX8 147 yX4_timeOf, Cond.instanceMethod yX4_timeOf, Cond.selects RX4 yX4_timeOf yX4_timeOf, Cond.code yX4_timeOf cX4_timeOf 2 (some .int), Cond.fieldLink RX4 23 "SpurtClock$Spurts" "times" "LSpurtClock$Row;"]
def wsX8_writeOpening : List Cond := .code yX8_writeOpening cX8_writeOpening 2 none :: ((wsX8_writeOpening_r1 ++ (wsX8_writeOpening_r2 ++ (wsX8_writeOpening_r3 ++ (wsX8_writeOpening_r4 ++ wsX8_writeOpening_r5)))) ++ wsX80 ++ wsX30 ++ wsX20 ++ wsX40)
def wsX8_signOfFrame : List Cond := .code yX8_signOfFrame cX8_signOfFrame 3 (some .int) :: ([.fieldLink RX8 21 "SpurtClock" "arrivals" "LSpurtClock$Arrivals;", .methodLink RX8 128 yX0_placeOf, .instanceMethod yX0_placeOf, .selects RX0 yX0_placeOf yX0_placeOf, .initialized RX0, .code yX0_placeOf cX0_placeOf 2 (some .int), .fieldLink RX0 14 "SpurtClock$Arrivals" "placeAfter" "LSpurtClock$Row;", .methodLink RX0 42 yX2_get, .instanceMethod yX2_get, .selects RX2 yX2_get yX2_get, .initialized RX2, .code yX2_get cX2_get 2 (some .int), .fieldLink RX2 13 "SpurtClock$Row" "cells" "[I", .methodLink RX8 137 yX0_playedAt, .instanceMethod yX0_playedAt, .selects RX0 yX0_playedAt yX0_playedAt, .code yX0_playedAt cX0_playedAt 2 (some .int), .fieldLink RX0 29 "SpurtClock$Arrivals" "playTimes" "LSpurtClock$Row;"] ++ wsX80 ++ wsX00 ++ wsX20)
def wsX8_text_r1 : List Cond := [Cond.fieldLink RX8 28 "SpurtClock" "spurts" "LSpurtClock$Spurts;", Cond.fieldLink RX8 56 "SpurtClock" "sheet" "LSpurtClock$Sheet;", Cond.methodLink RX8 140 yX4_count, Cond.instanceMethod yX4_count, Cond.selects RX4 yX4_count yX4_count, Cond.initialized RX4, Cond.code yX4_count cX4_count 1 (some .int), Cond.fieldLink RX4 41 "SpurtClock$Spurts" "count" "I", Cond.methodLink RX8 73 yX8_isOutside, Cond.static yX8_isOutside, Cond.initialized RX8, Cond.code yX8_isOutside cX8_isOutside 3 (some .boolean), Cond.methodLink RX8 204 yX8_writeOpening, Cond.instanceMethod yX8_writeOpening, Cond.selects RX8 yX8_writeOpening yX8_writeOpening, Cond.code yX8_writeOpening cX8_writeOpening 2 none, Cond.methodLink RX8 284 yX3_clear, Cond.instanceMethod yX3_clear, Cond.selects RX3 yX3_clear yX3_clear, Cond.initialized RX3, Cond.code yX3_clear cX3_clear 1 none, Cond.fieldLink RX3 20 "SpurtClock$Sheet" "size" "I", Cond.methodLink RX8 285 yX3_put, Cond.instanceMethod yX3_put]
def wsX8_text_r2 : List Cond := [Cond.selects RX3 yX3_put yX3_put, Cond.code yX3_put cX3_put 2 none, Cond.fieldLink RX3 14 "SpurtClock$Sheet" "codes" "LSpurtClock$Row;", Cond.methodLink RX3 28 yX2_set, Cond.instanceMethod yX2_set, Cond.selects RX2 yX2_set yX2_set, Cond.initialized RX2, Cond.code yX2_set cX2_set 3 none, Cond.fieldLink RX2 13 "SpurtClock$Row" "cells" "[I", Cond.methodLink RX8 141 yX4_headOf, Cond.instanceMethod yX4_headOf, Cond.selects RX4 yX4_headOf yX4_headOf, Cond.code yX4_headOf cX4_headOf 2 (some .int), Cond.fieldLink RX4 14 "SpurtClock$Spurts" "heads" "LSpurtClock$Row;", Cond.methodLink RX4 45 yX2_get, Cond.instanceMethod yX2_get, Cond.selects RX2 yX2_get yX2_get, Cond.code yX2_get cX2_get 2 (some .int), Cond.methodLink RX8 288 yX3_putNumber, Cond.instanceMethod yX3_putNumber, Cond.selects RX3 yX3_putNumber yX3_putNumber, Cond.code yX3_putNumber cX3_putNumber 6 none, Cond.constant RX3 45 (1000000000), Cond.methodLink RX3 42 yX3_put]
def wsX8_text_r3 : List Cond := [Cond.methodLink RX8 162 yX4_mannerOf, Cond.instanceMethod yX4_mannerOf, Cond.selects RX4 yX4_mannerOf yX4_mannerOf, Cond.code yX4_mannerOf cX4_mannerOf 2 (some .int), Cond.fieldLink RX4 26 "SpurtClock$Spurts" "manners" "LSpurtClock$Row;", Cond.methodLink RX8 214 yX8_wordOf, Cond.static yX8_wordOf, Cond.code yX8_wordOf cX8_wordOf 1 (some (.object "java/lang/String")), Cond.methodLink RX8 291 yX3_putWord, Cond.instanceMethod yX3_putWord, Cond.selects RX3 yX3_putWord yX3_putWord, Cond.code yX3_putWord cX3_putWord 3 none, Cond.methodLink RX3 32 yJ0_length_8abf5, Cond.instanceMethod yJ0_length_8abf5, Cond.selects RJ0 yJ0_length_8abf5 yJ0_length_8abf5, Cond.initialized RJ0, Cond.code yJ0_length_8abf5 cJ0_length_8abf5 1 (some .int), Cond.fieldLink RJ0 9 "java/lang/String" "value" "[B", Cond.methodLink RJ0 335 yJ0_coder_7d493, Cond.instanceMethod yJ0_coder_7d493, Cond.selects RJ0 yJ0_coder_7d493 yJ0_coder_7d493, Cond.code yJ0_coder_7d493 cJ0_coder_7d493 1 (some .byte), Cond.fieldLink RJ0 38 "java/lang/String" "COMPACT_STRINGS" "Z", Cond.fieldLink RJ0 15 "java/lang/String" "coder" "B"]
def wsX8_text_r4 : List Cond := [Cond.methodLink RX3 38 yJ0_charAt_5068e, Cond.instanceMethod yJ0_charAt_5068e, Cond.selects RJ0 yJ0_charAt_5068e yJ0_charAt_5068e, Cond.code yJ0_charAt_5068e cJ0_charAt_5068e 2 (some .char), Cond.methodLink RJ0 492 yJ0_isLatin1_aae02, Cond.instanceMethod yJ0_isLatin1_aae02, Cond.selects RJ0 yJ0_isLatin1_aae02 yJ0_isLatin1_aae02, Cond.code yJ0_isLatin1_aae02 cJ0_isLatin1_aae02 1 (some .boolean), Cond.methodLink RJ0 495 yJ1_charAt_3b067, Cond.static yJ1_charAt_3b067, Cond.initialized RJ1, Cond.code yJ1_charAt_3b067 cJ1_charAt_3b067 2 (some .char), Cond.methodLink RJ1 9 yJ0_checkIndex_df160, Cond.static yJ0_checkIndex_df160, Cond.code yJ0_checkIndex_df160 cJ0_checkIndex_df160 2 none, Cond.fieldLink RJ0 1053 "jdk/internal/util/Preconditions" "SIOOBE_FORMATTER" "Ljava/util/function/BiFunction;", Cond.methodLink RJ0 1059 yJ3_checkIndex_8e157, Cond.static yJ3_checkIndex_8e157, Cond.initialized RJ3, Cond.code yJ3_checkIndex_8e157 cJ3_checkIndex_8e157 3 (some .int), Cond.methodLink RJ0 498 yJ2_charAt_3b067, Cond.static yJ2_charAt_3b067, Cond.initialized RJ2, Cond.code yJ2_charAt_3b067 cJ2_charAt_3b067 2 (some .char)]
def wsX8_text_r5 : List Cond := [Cond.methodLink RJ2 67 yJ2_checkIndex_2214a, Cond.static yJ2_checkIndex_2214a, Cond.code yJ2_checkIndex_2214a cJ2_checkIndex_2214a 2 none, Cond.methodLink RJ2 48 yJ2_length_9d52b, Cond.static yJ2_length_9d52b, Cond.code yJ2_length_9d52b cJ2_length_9d52b 1 (some .int), Cond.methodLink RJ2 414 yJ0_checkIndex_df160, Cond.methodLink RJ2 71 yJ2_getChar_3b067, Cond.static yJ2_getChar_3b067, Cond.code yJ2_getChar_3b067 cJ2_getChar_3b067 2 (some .char), Cond.fieldLink RJ2 44 "java/lang/StringUTF16" "$assertionsDisabled" "Z", Cond.fieldLink RJ2 59 "java/lang/StringUTF16" "HI_BYTE_SHIFT" "I", Cond.fieldLink RJ2 63 "java/lang/StringUTF16" "LO_BYTE_SHIFT" "I", Cond.methodLink RX8 147 yX4_timeOf, Cond.instanceMethod yX4_timeOf, Cond.selects RX4 yX4_timeOf yX4_timeOf, Cond.code yX4_timeOf cX4_timeOf 2 (some .int), Cond.fieldLink RX4 23 "SpurtClock$Spurts" "times" "LSpurtClock$Row;", Cond.methodLink RX8 159 yX4_greatestOf, Cond.instanceMethod yX4_greatestOf, Cond.selects RX4 yX4_greatestOf yX4_greatestOf, Cond.code yX4_greatestOf cX4_greatestOf 2 (some .int), Cond.fieldLink RX4 35 "SpurtClock$Spurts" "greatest" "LSpurtClock$Row;", Cond.methodLink RX8 207 yX3_size]
def wsX8_text_r6 : List Cond := [Cond.instanceMethod yX3_size, Cond.selects RX3 yX3_size yX3_size, Cond.code yX3_size cX3_size 1 (some .int), Cond.methodLink RX8 208 yX3_codeAt, Cond.instanceMethod yX3_codeAt, Cond.selects RX3 yX3_codeAt yX3_codeAt, Cond.code yX3_codeAt cX3_codeAt 2 (some .int), Cond.methodLink RX3 24 yX2_get, Cond.methodLink RX8 211 yX8_signOfFrame, Cond.instanceMethod yX8_signOfFrame, Cond.selects RX8 yX8_signOfFrame yX8_signOfFrame, Cond.code yX8_signOfFrame cX8_signOfFrame 3 (some .int), Cond.fieldLink RX8 21 "SpurtClock" "arrivals" "LSpurtClock$Arrivals;", Cond.methodLink RX8 128 yX0_placeOf, Cond.instanceMethod yX0_placeOf, Cond.selects RX0 yX0_placeOf yX0_placeOf, Cond.initialized RX0, Cond.code yX0_placeOf cX0_placeOf 2 (some .int), Cond.fieldLink RX0 14 "SpurtClock$Arrivals" "placeAfter" "LSpurtClock$Row;", Cond.methodLink RX0 42 yX2_get, Cond.methodLink RX8 137 yX0_playedAt, Cond.instanceMethod yX0_playedAt, Cond.selects RX0 yX0_playedAt yX0_playedAt, Cond.code yX0_playedAt cX0_playedAt 2 (some .int)]
def wsX8_text_r7 : List Cond := [Cond.fieldLink RX0 29 "SpurtClock$Arrivals" "playTimes" "LSpurtClock$Row;"]
def wsX8_text : List Cond := .code yX8_text cX8_text 5 (some .int) :: ((wsX8_text_r1 ++ (wsX8_text_r2 ++ (wsX8_text_r3 ++ (wsX8_text_r4 ++ (wsX8_text_r5 ++ (wsX8_text_r6 ++ wsX8_text_r7)))))) ++ wsX80 ++ wsX40 ++ wsX30 ++ wsX20 ++ wsX00)
def wsX8_word_r1 : List Cond := [Cond.fieldLink RX8 60 "SpurtClock" "mannerNow" "I", Cond.methodLink RX8 73 yX8_isOutside, Cond.static yX8_isOutside, Cond.initialized RX8, Cond.code yX8_isOutside cX8_isOutside 3 (some .boolean), Cond.methodLink RX8 214 yX8_wordOf, Cond.static yX8_wordOf, Cond.code yX8_wordOf cX8_wordOf 1 (some (.object "java/lang/String")), Cond.methodLink RX8 218 yJ0_length_8abf5, Cond.instanceMethod yJ0_length_8abf5, Cond.selects RJ0 yJ0_length_8abf5 yJ0_length_8abf5, Cond.initialized RJ0, Cond.code yJ0_length_8abf5 cJ0_length_8abf5 1 (some .int), Cond.fieldLink RJ0 9 "java/lang/String" "value" "[B", Cond.methodLink RJ0 335 yJ0_coder_7d493, Cond.instanceMethod yJ0_coder_7d493, Cond.selects RJ0 yJ0_coder_7d493 yJ0_coder_7d493, Cond.code yJ0_coder_7d493 cJ0_coder_7d493 1 (some .byte), Cond.fieldLink RJ0 38 "java/lang/String" "COMPACT_STRINGS" "Z", Cond.fieldLink RJ0 15 "java/lang/String" "coder" "B", Cond.methodLink RX8 223 yJ0_charAt_5068e, Cond.instanceMethod yJ0_charAt_5068e, Cond.selects RJ0 yJ0_charAt_5068e yJ0_charAt_5068e, Cond.code yJ0_charAt_5068e cJ0_charAt_5068e 2 (some .char)]
def wsX8_word_r2 : List Cond := [Cond.methodLink RJ0 492 yJ0_isLatin1_aae02, Cond.instanceMethod yJ0_isLatin1_aae02, Cond.selects RJ0 yJ0_isLatin1_aae02 yJ0_isLatin1_aae02, Cond.code yJ0_isLatin1_aae02 cJ0_isLatin1_aae02 1 (some .boolean), Cond.methodLink RJ0 495 yJ1_charAt_3b067, Cond.static yJ1_charAt_3b067, Cond.initialized RJ1, Cond.code yJ1_charAt_3b067 cJ1_charAt_3b067 2 (some .char), Cond.methodLink RJ1 9 yJ0_checkIndex_df160, Cond.static yJ0_checkIndex_df160, Cond.code yJ0_checkIndex_df160 cJ0_checkIndex_df160 2 none, Cond.fieldLink RJ0 1053 "jdk/internal/util/Preconditions" "SIOOBE_FORMATTER" "Ljava/util/function/BiFunction;", Cond.methodLink RJ0 1059 yJ3_checkIndex_8e157, Cond.static yJ3_checkIndex_8e157, Cond.initialized RJ3, Cond.code yJ3_checkIndex_8e157 cJ3_checkIndex_8e157 3 (some .int), Cond.methodLink RJ0 498 yJ2_charAt_3b067, Cond.static yJ2_charAt_3b067, Cond.initialized RJ2, Cond.code yJ2_charAt_3b067 cJ2_charAt_3b067 2 (some .char), Cond.methodLink RJ2 67 yJ2_checkIndex_2214a, Cond.static yJ2_checkIndex_2214a, Cond.code yJ2_checkIndex_2214a cJ2_checkIndex_2214a 2 none, Cond.methodLink RJ2 48 yJ2_length_9d52b]
def wsX8_word_r3 : List Cond := [Cond.static yJ2_length_9d52b, Cond.code yJ2_length_9d52b cJ2_length_9d52b 1 (some .int), Cond.methodLink RJ2 414 yJ0_checkIndex_df160, Cond.methodLink RJ2 71 yJ2_getChar_3b067, Cond.static yJ2_getChar_3b067, Cond.code yJ2_getChar_3b067 cJ2_getChar_3b067 2 (some .char), Cond.fieldLink RJ2 44 "java/lang/StringUTF16" "$assertionsDisabled" "Z", Cond.fieldLink RJ2 59 "java/lang/StringUTF16" "HI_BYTE_SHIFT" "I", Cond.fieldLink RJ2 63 "java/lang/StringUTF16" "LO_BYTE_SHIFT" "I"]
def wsX8_word : List Cond := .code yX8_word cX8_word 3 (some .int) :: ((wsX8_word_r1 ++ (wsX8_word_r2 ++ wsX8_word_r3)) ++ wsX80)
def wsX8_many_r1 : List Cond := [Cond.fieldLink RX8 21 "SpurtClock" "arrivals" "LSpurtClock$Arrivals;", Cond.fieldLink RX8 28 "SpurtClock" "spurts" "LSpurtClock$Spurts;", Cond.fieldLink RX8 12 "SpurtClock" "tape" "LSpurtClock$Tape;", Cond.fieldLink RX8 35 "SpurtClock" "surge" "LSpurtClock$Surge;", Cond.methodLink RX8 122 yX0_count, Cond.instanceMethod yX0_count, Cond.selects RX0 yX0_count yX0_count, Cond.initialized RX0, Cond.code yX0_count cX0_count 1 (some .int), Cond.fieldLink RX0 32 "SpurtClock$Arrivals" "count" "I", Cond.methodLink RX8 140 yX4_count, Cond.instanceMethod yX4_count, Cond.selects RX4 yX4_count yX4_count, Cond.initialized RX4, Cond.code yX4_count cX4_count 1 (some .int), Cond.fieldLink RX4 41 "SpurtClock$Spurts" "count" "I", Cond.methodLink RX8 227 yX4_playedOfAll, Cond.instanceMethod yX4_playedOfAll, Cond.selects RX4 yX4_playedOfAll yX4_playedOfAll, Cond.code yX4_playedOfAll cX4_playedOfAll 3 (some .int), Cond.methodLink RX4 49 yX4_playedOf, Cond.instanceMethod yX4_playedOf, Cond.selects RX4 yX4_playedOf yX4_playedOf, Cond.code yX4_playedOf cX4_playedOf 2 (some .int)]
def wsX8_many_r2 : List Cond := [Cond.fieldLink RX4 32 "SpurtClock$Spurts" "played" "LSpurtClock$Row;", Cond.methodLink RX4 45 yX2_get, Cond.instanceMethod yX2_get, Cond.selects RX2 yX2_get yX2_get, Cond.initialized RX2, Cond.code yX2_get cX2_get 2 (some .int), Cond.fieldLink RX2 13 "SpurtClock$Row" "cells" "[I", Cond.methodLink RX8 230 yX4_missingOfAll, Cond.instanceMethod yX4_missingOfAll, Cond.selects RX4 yX4_missingOfAll yX4_missingOfAll, Cond.code yX4_missingOfAll cX4_missingOfAll 3 (some .int), Cond.methodLink RX4 52 yX4_missingOf, Cond.instanceMethod yX4_missingOf, Cond.selects RX4 yX4_missingOf yX4_missingOf, Cond.code yX4_missingOf cX4_missingOf 2 (some .int), Cond.fieldLink RX4 35 "SpurtClock$Spurts" "greatest" "LSpurtClock$Row;", Cond.fieldLink RX4 14 "SpurtClock$Spurts" "heads" "LSpurtClock$Row;", Cond.fieldLink RX4 29 "SpurtClock$Spurts" "came" "LSpurtClock$Row;", Cond.methodLink RX8 179 yX0_historySize, Cond.instanceMethod yX0_historySize, Cond.selects RX0 yX0_historySize yX0_historySize, Cond.code yX0_historySize cX0_historySize 1 (some .int), Cond.methodLink RX0 36 Lib.Math.min.name, Cond.static Lib.Math.min.name]
def wsX8_many_r3 : List Cond := [Cond.initialized "java/lang/Math", Cond.code Lib.Math.min.name Lib.Math.min.code 2 (some .int), Cond.methodLink RX8 77 yX6_size, Cond.instanceMethod yX6_size, Cond.selects RX6 yX6_size yX6_size, Cond.initialized RX6, Cond.code yX6_size cX6_size 1 (some .int), Cond.fieldLink RX6 20 "SpurtClock$Tape" "size" "I", Cond.methodLink RX8 233 yX5_begun, Cond.instanceMethod yX5_begun, Cond.selects RX5 yX5_begun yX5_begun, Cond.initialized RX5, Cond.code yX5_begun cX5_begun 1 (some .int), Cond.fieldLink RX5 17 "SpurtClock$Surge" "begun" "I"]
def wsX8_many : List Cond := .code yX8_many cX8_many 2 (some .int) :: ((wsX8_many_r1 ++ (wsX8_many_r2 ++ wsX8_many_r3)) ++ wsX80 ++ wsX00 ++ wsX40 ++ wsX20 ++ wsX60 ++ wsX50)
def wsX9_init : List Cond := .code yX9_init cX9_init 2 none :: ([.methodLink RX9 1 objectInit, .instanceMethod objectInit, .code objectInit ⟨#[0xb1]⟩ 1 none, .arrayClass .int, .fieldLink RX9 7 "SpurtClockModel" "signs" "[I", .fieldLink RX9 13 "SpurtClockModel" "tape" "[I", .fieldLink RX9 16 "SpurtClockModel" "number" "I", .fieldLink RX9 20 "SpurtClockModel" "jump" "I", .fieldLink RX9 23 "SpurtClockModel" "frameOf" "[I", .fieldLink RX9 26 "SpurtClockModel" "timeOf" "[I", .fieldLink RX9 29 "SpurtClockModel" "spurtOf" "[I", .fieldLink RX9 32 "SpurtClockModel" "cameAs" "[I", .fieldLink RX9 35 "SpurtClockModel" "headOf" "[I", .fieldLink RX9 38 "SpurtClockModel" "pauseOf" "[I", .fieldLink RX9 41 "SpurtClockModel" "timeSet" "[I", .fieldLink RX9 44 "SpurtClockModel" "mannerOf" "[I", .arrayClass .long, .fieldLink RX9 47 "SpurtClockModel" "seen" "[J", .fieldLink RX9 51 "SpurtClockModel" "text" "[I"] ++ wsX90)
def wsX9_within : List Cond := .code yX9_within cX9_within 3 (some .boolean) :: ([])
def wsX9_down : List Cond := .code yX9_down cX9_down 4 (some .long) :: ([])
def wsX9_key : List Cond := .code yX9_key cX9_key 2 (some .int) :: ([.fieldLink RX9 58 "SpurtClockModel" "taped" "I", .fieldLink RX9 13 "SpurtClockModel" "tape" "[I", .methodLink RX9 54 yX9_within, .static yX9_within, .initialized RX9, .code yX9_within cX9_within 3 (some .boolean)] ++ wsX90)
def wsX9_wipe : List Cond := .code yX9_wipe cX9_wipe 2 (some .int) :: ([.fieldLink RX9 58 "SpurtClockModel" "taped" "I"] ++ wsX90)
def wsX9_wordLong : List Cond := .code yX9_wordLong cX9_wordLong 2 (some .int) :: ([])
def wsX9_told : List Cond := .code yX9_told cX9_told 4 (some .int) :: ([.fieldLink RX9 58 "SpurtClockModel" "taped" "I", .fieldLink RX9 13 "SpurtClockModel" "tape" "[I", .fieldLink RX9 7 "SpurtClockModel" "signs" "[I", .methodLink RX9 61 yX9_wordLong, .instanceMethod yX9_wordLong, .selects RX9 yX9_wordLong yX9_wordLong, .initialized RX9, .code yX9_wordLong cX9_wordLong 2 (some .int)] ++ wsX90)
def wsX9_manner : List Cond := .code yX9_manner cX9_manner 4 (some .int) :: ([.fieldLink RX9 69 "SpurtClockModel" "manner" "I", .fieldLink RX9 16 "SpurtClockModel" "number" "I", .fieldLink RX9 58 "SpurtClockModel" "taped" "I", .methodLink RX9 65 yX9_told, .instanceMethod yX9_told, .selects RX9 yX9_told yX9_told, .initialized RX9, .code yX9_told cX9_told 4 (some .int), .fieldLink RX9 13 "SpurtClockModel" "tape" "[I", .fieldLink RX9 7 "SpurtClockModel" "signs" "[I", .methodLink RX9 61 yX9_wordLong, .instanceMethod yX9_wordLong, .selects RX9 yX9_wordLong yX9_wordLong, .code yX9_wordLong cX9_wordLong 2 (some .int), .methodLink RX9 54 yX9_within, .static yX9_within, .code yX9_within cX9_within 3 (some .boolean)] ++ wsX90)
def wsX9_margin : List Cond := .code yX9_margin cX9_margin 3 (some .int) :: ([.fieldLink RX9 72 "SpurtClockModel" "margin" "I", .methodLink RX9 54 yX9_within, .static yX9_within, .initialized RX9, .code yX9_within cX9_within 3 (some .boolean)] ++ wsX90)
def wsX9_jump : List Cond := .code yX9_jump cX9_jump 3 (some .int) :: ([.fieldLink RX9 20 "SpurtClockModel" "jump" "I", .methodLink RX9 54 yX9_within, .static yX9_within, .initialized RX9, .code yX9_within cX9_within 3 (some .boolean)] ++ wsX90)
def wsX9_delay : List Cond := .code yX9_delay cX9_delay 2 (some .int) :: ([.fieldLink RX9 26 "SpurtClockModel" "timeOf" "[I", .fieldLink RX9 23 "SpurtClockModel" "frameOf" "[I"] ++ wsX90)
def wsX9_spurtBy : List Cond := .code yX9_spurtBy cX9_spurtBy 3 (some .int) :: ([.fieldLink RX9 75 "SpurtClockModel" "spurts" "I", .fieldLink RX9 35 "SpurtClockModel" "headOf" "[I"] ++ wsX90)
def wsX9_isInTheWay : List Cond := .code yX9_isInTheWay cX9_isInTheWay 6 (some .boolean) :: ([.fieldLink RX9 35 "SpurtClockModel" "headOf" "[I", .fieldLink RX9 38 "SpurtClockModel" "pauseOf" "[I", .fieldLink RX9 78 "SpurtClockModel" "came" "I", .fieldLink RX9 29 "SpurtClockModel" "spurtOf" "[I", .fieldLink RX9 23 "SpurtClockModel" "frameOf" "[I"] ++ wsX90)
def wsX9_isShut : List Cond := .code yX9_isShut cX9_isShut 8 (some .boolean) :: ([.fieldLink RX9 78 "SpurtClockModel" "came" "I", .fieldLink RX9 26 "SpurtClockModel" "timeOf" "[I", .fieldLink RX9 32 "SpurtClockModel" "cameAs" "[I", .fieldLink RX9 38 "SpurtClockModel" "pauseOf" "[I", .fieldLink RX9 75 "SpurtClockModel" "spurts" "I", .methodLink RX9 81 yX9_spurtBy, .instanceMethod yX9_spurtBy, .selects RX9 yX9_spurtBy yX9_spurtBy, .initialized RX9, .code yX9_spurtBy cX9_spurtBy 3 (some .int), .fieldLink RX9 35 "SpurtClockModel" "headOf" "[I", .methodLink RX9 84 yX9_isInTheWay, .instanceMethod yX9_isInTheWay, .selects RX9 yX9_isInTheWay yX9_isInTheWay, .code yX9_isInTheWay cX9_isInTheWay 6 (some .boolean), .fieldLink RX9 29 "SpurtClockModel" "spurtOf" "[I", .fieldLink RX9 23 "SpurtClockModel" "frameOf" "[I"] ++ wsX90)
def wsX9_spikesBy : List Cond := .code yX9_spikesBy cX9_spikesBy 2 none :: ([.fieldLink RX9 99 "SpurtClockModel" "isSpike" "Z", .fieldLink RX9 106 "SpurtClockModel" "base" "I", .fieldLink RX9 20 "SpurtClockModel" "jump" "I", .fieldLink RX9 109 "SpurtClockModel" "spikes" "I", .methodLink RX9 103 yX9_delay, .instanceMethod yX9_delay, .selects RX9 yX9_delay yX9_delay, .initialized RX9, .code yX9_delay cX9_delay 2 (some .int), .fieldLink RX9 26 "SpurtClockModel" "timeOf" "[I", .fieldLink RX9 23 "SpurtClockModel" "frameOf" "[I"] ++ wsX90)
def wsX9_isUnder : List Cond := .code yX9_isUnder cX9_isUnder 8 (some .boolean) :: ([.fieldLink RX9 23 "SpurtClockModel" "frameOf" "[I", .fieldLink RX9 78 "SpurtClockModel" "came" "I", .methodLink RX9 103 yX9_delay, .instanceMethod yX9_delay, .selects RX9 yX9_delay yX9_delay, .initialized RX9, .code yX9_delay cX9_delay 2 (some .int), .fieldLink RX9 26 "SpurtClockModel" "timeOf" "[I"] ++ wsX90)
def wsX9_findDrift : List Cond := .code yX9_findDrift cX9_findDrift 12 none :: ([.fieldLink RX9 122 "SpurtClockModel" "up" "J", .fieldLink RX9 126 "SpurtClockModel" "by" "J", .fieldLink RX9 78 "SpurtClockModel" "came" "I", .fieldLink RX9 23 "SpurtClockModel" "frameOf" "[I", .methodLink RX9 173 yX9_isUnder, .instanceMethod yX9_isUnder, .selects RX9 yX9_isUnder yX9_isUnder, .initialized RX9, .code yX9_isUnder cX9_isUnder 8 (some .boolean), .methodLink RX9 103 yX9_delay, .instanceMethod yX9_delay, .selects RX9 yX9_delay yX9_delay, .code yX9_delay cX9_delay 2 (some .int), .fieldLink RX9 26 "SpurtClockModel" "timeOf" "[I"] ++ wsX90)
def wsX9_oldest : List Cond := .code yX9_oldest cX9_oldest 1 (some .int) :: ([.fieldLink RX9 78 "SpurtClockModel" "came" "I"] ++ wsX90)
def wsX9_farBy : List Cond := .code yX9_farBy cX9_farBy 11 (some .long) :: ([.fieldLink RX9 78 "SpurtClockModel" "came" "I", .fieldLink RX9 47 "SpurtClockModel" "seen" "[J", .methodLink RX9 112 yX9_oldest, .instanceMethod yX9_oldest, .selects RX9 yX9_oldest yX9_oldest, .initialized RX9, .code yX9_oldest cX9_oldest 1 (some .int), .methodLink RX9 115 yX9_down, .static yX9_down, .code yX9_down cX9_down 4 (some .long)] ++ wsX90)
def wsX9_latelyMost : List Cond := .code yX9_latelyMost cX9_latelyMost 4 (some .long) :: ([.fieldLink RX9 47 "SpurtClockModel" "seen" "[J", .fieldLink RX9 78 "SpurtClockModel" "came" "I", .methodLink RX9 112 yX9_oldest, .instanceMethod yX9_oldest, .selects RX9 yX9_oldest yX9_oldest, .initialized RX9, .code yX9_oldest cX9_oldest 1 (some .int)] ++ wsX90)
def wsX9_leastBy : List Cond := .code yX9_leastBy cX9_leastBy 8 (some .long) :: ([.fieldLink RX9 78 "SpurtClockModel" "came" "I", .fieldLink RX9 47 "SpurtClockModel" "seen" "[J", .methodLink RX9 112 yX9_oldest, .instanceMethod yX9_oldest, .selects RX9 yX9_oldest yX9_oldest, .initialized RX9, .code yX9_oldest cX9_oldest 1 (some .int)] ++ wsX90)
def wsX9_wishFor_r1 : List Cond := [Cond.fieldLink RX9 69 "SpurtClockModel" "manner" "I", Cond.fieldLink RX9 78 "SpurtClockModel" "came" "I", Cond.fieldLink RX9 122 "SpurtClockModel" "up" "J", Cond.fieldLink RX9 23 "SpurtClockModel" "frameOf" "[I", Cond.fieldLink RX9 126 "SpurtClockModel" "by" "J", Cond.fieldLink RX9 47 "SpurtClockModel" "seen" "[J", Cond.fieldLink RX9 16 "SpurtClockModel" "number" "I", Cond.fieldLink RX9 99 "SpurtClockModel" "isSpike" "Z", Cond.methodLink RX9 119 yX9_findDrift, Cond.instanceMethod yX9_findDrift, Cond.selects RX9 yX9_findDrift yX9_findDrift, Cond.initialized RX9, Cond.code yX9_findDrift cX9_findDrift 12 none, Cond.methodLink RX9 173 yX9_isUnder, Cond.instanceMethod yX9_isUnder, Cond.selects RX9 yX9_isUnder yX9_isUnder, Cond.code yX9_isUnder cX9_isUnder 8 (some .boolean), Cond.methodLink RX9 103 yX9_delay, Cond.instanceMethod yX9_delay, Cond.selects RX9 yX9_delay yX9_delay, Cond.code yX9_delay cX9_delay 2 (some .int), Cond.fieldLink RX9 26 "SpurtClockModel" "timeOf" "[I", Cond.methodLink RX9 112 yX9_oldest, Cond.instanceMethod yX9_oldest]
def wsX9_wishFor_r2 : List Cond := [Cond.selects RX9 yX9_oldest yX9_oldest, Cond.code yX9_oldest cX9_oldest 1 (some .int), Cond.methodLink RX9 115 yX9_down, Cond.static yX9_down, Cond.code yX9_down cX9_down 4 (some .long), Cond.methodLink RX9 129 yX9_farBy, Cond.instanceMethod yX9_farBy, Cond.selects RX9 yX9_farBy yX9_farBy, Cond.code yX9_farBy cX9_farBy 11 (some .long), Cond.methodLink RX9 133 yX9_latelyMost, Cond.instanceMethod yX9_latelyMost, Cond.selects RX9 yX9_latelyMost yX9_latelyMost, Cond.code yX9_latelyMost cX9_latelyMost 4 (some .long), Cond.methodLink RX9 137 yX9_leastBy, Cond.instanceMethod yX9_leastBy, Cond.selects RX9 yX9_leastBy yX9_leastBy, Cond.code yX9_leastBy cX9_leastBy 8 (some .long)]
def wsX9_wishFor : List Cond := .code yX9_wishFor cX9_wishFor 5 (some .int) :: ((wsX9_wishFor_r1 ++ wsX9_wishFor_r2) ++ wsX90)
def wsX9_beside : List Cond := .code yX9_beside cX9_beside 7 (some .int) :: ([.fieldLink RX9 75 "SpurtClockModel" "spurts" "I", .fieldLink RX9 35 "SpurtClockModel" "headOf" "[I"] ++ wsX90)
def wsX9_timeFor_r1 : List Cond := [Cond.fieldLink RX9 72 "SpurtClockModel" "margin" "I", Cond.fieldLink RX9 41 "SpurtClockModel" "timeSet" "[I", Cond.fieldLink RX9 38 "SpurtClockModel" "pauseOf" "[I", Cond.methodLink RX9 140 yX9_wishFor, Cond.instanceMethod yX9_wishFor, Cond.selects RX9 yX9_wishFor yX9_wishFor, Cond.initialized RX9, Cond.code yX9_wishFor cX9_wishFor 5 (some .int), Cond.fieldLink RX9 69 "SpurtClockModel" "manner" "I", Cond.fieldLink RX9 78 "SpurtClockModel" "came" "I", Cond.fieldLink RX9 122 "SpurtClockModel" "up" "J", Cond.fieldLink RX9 23 "SpurtClockModel" "frameOf" "[I", Cond.fieldLink RX9 126 "SpurtClockModel" "by" "J", Cond.fieldLink RX9 47 "SpurtClockModel" "seen" "[J", Cond.fieldLink RX9 16 "SpurtClockModel" "number" "I", Cond.fieldLink RX9 99 "SpurtClockModel" "isSpike" "Z", Cond.methodLink RX9 119 yX9_findDrift, Cond.instanceMethod yX9_findDrift, Cond.selects RX9 yX9_findDrift yX9_findDrift, Cond.code yX9_findDrift cX9_findDrift 12 none, Cond.methodLink RX9 173 yX9_isUnder, Cond.instanceMethod yX9_isUnder, Cond.selects RX9 yX9_isUnder yX9_isUnder, Cond.code yX9_isUnder cX9_isUnder 8 (some .boolean)]
def wsX9_timeFor_r2 : List Cond := [Cond.methodLink RX9 103 yX9_delay, Cond.instanceMethod yX9_delay, Cond.selects RX9 yX9_delay yX9_delay, Cond.code yX9_delay cX9_delay 2 (some .int), Cond.fieldLink RX9 26 "SpurtClockModel" "timeOf" "[I", Cond.methodLink RX9 112 yX9_oldest, Cond.instanceMethod yX9_oldest, Cond.selects RX9 yX9_oldest yX9_oldest, Cond.code yX9_oldest cX9_oldest 1 (some .int), Cond.methodLink RX9 115 yX9_down, Cond.static yX9_down, Cond.code yX9_down cX9_down 4 (some .long), Cond.methodLink RX9 129 yX9_farBy, Cond.instanceMethod yX9_farBy, Cond.selects RX9 yX9_farBy yX9_farBy, Cond.code yX9_farBy cX9_farBy 11 (some .long), Cond.methodLink RX9 133 yX9_latelyMost, Cond.instanceMethod yX9_latelyMost, Cond.selects RX9 yX9_latelyMost yX9_latelyMost, Cond.code yX9_latelyMost cX9_latelyMost 4 (some .long), Cond.methodLink RX9 137 yX9_leastBy, Cond.instanceMethod yX9_leastBy, Cond.selects RX9 yX9_leastBy yX9_leastBy, Cond.code yX9_leastBy cX9_leastBy 8 (some .long)]
def wsX9_timeFor_r3 : List Cond := [Cond.methodLink RX9 143 yX9_beside, Cond.instanceMethod yX9_beside, Cond.selects RX9 yX9_beside yX9_beside, Cond.code yX9_beside cX9_beside 7 (some .int), Cond.fieldLink RX9 75 "SpurtClockModel" "spurts" "I", Cond.fieldLink RX9 35 "SpurtClockModel" "headOf" "[I"]
def wsX9_timeFor : List Cond := .code yX9_timeFor cX9_timeFor 6 (some .int) :: ((wsX9_timeFor_r1 ++ (wsX9_timeFor_r2 ++ wsX9_timeFor_r3)) ++ wsX90)
def wsX9_arrive_r1 : List Cond := [Cond.fieldLink RX9 78 "SpurtClockModel" "came" "I", Cond.fieldLink RX9 23 "SpurtClockModel" "frameOf" "[I", Cond.fieldLink RX9 26 "SpurtClockModel" "timeOf" "[I", Cond.fieldLink RX9 32 "SpurtClockModel" "cameAs" "[I", Cond.fieldLink RX9 75 "SpurtClockModel" "spurts" "I", Cond.fieldLink RX9 35 "SpurtClockModel" "headOf" "[I", Cond.fieldLink RX9 38 "SpurtClockModel" "pauseOf" "[I", Cond.fieldLink RX9 44 "SpurtClockModel" "mannerOf" "[I", Cond.fieldLink RX9 69 "SpurtClockModel" "manner" "I", Cond.fieldLink RX9 41 "SpurtClockModel" "timeSet" "[I", Cond.fieldLink RX9 29 "SpurtClockModel" "spurtOf" "[I", Cond.methodLink RX9 54 yX9_within, Cond.static yX9_within, Cond.initialized RX9, Cond.code yX9_within cX9_within 3 (some .boolean), Cond.methodLink RX9 88 yX9_isShut, Cond.instanceMethod yX9_isShut, Cond.selects RX9 yX9_isShut yX9_isShut, Cond.code yX9_isShut cX9_isShut 8 (some .boolean), Cond.methodLink RX9 81 yX9_spurtBy, Cond.instanceMethod yX9_spurtBy, Cond.selects RX9 yX9_spurtBy yX9_spurtBy, Cond.code yX9_spurtBy cX9_spurtBy 3 (some .int), Cond.methodLink RX9 84 yX9_isInTheWay]
def wsX9_arrive_r2 : List Cond := [Cond.instanceMethod yX9_isInTheWay, Cond.selects RX9 yX9_isInTheWay yX9_isInTheWay, Cond.code yX9_isInTheWay cX9_isInTheWay 6 (some .boolean), Cond.methodLink RX9 91 yX9_spikesBy, Cond.instanceMethod yX9_spikesBy, Cond.selects RX9 yX9_spikesBy yX9_spikesBy, Cond.code yX9_spikesBy cX9_spikesBy 2 none, Cond.fieldLink RX9 99 "SpurtClockModel" "isSpike" "Z", Cond.fieldLink RX9 106 "SpurtClockModel" "base" "I", Cond.fieldLink RX9 20 "SpurtClockModel" "jump" "I", Cond.fieldLink RX9 109 "SpurtClockModel" "spikes" "I", Cond.methodLink RX9 103 yX9_delay, Cond.instanceMethod yX9_delay, Cond.selects RX9 yX9_delay yX9_delay, Cond.code yX9_delay cX9_delay 2 (some .int), Cond.methodLink RX9 95 yX9_timeFor, Cond.instanceMethod yX9_timeFor, Cond.selects RX9 yX9_timeFor yX9_timeFor, Cond.code yX9_timeFor cX9_timeFor 6 (some .int), Cond.fieldLink RX9 72 "SpurtClockModel" "margin" "I", Cond.methodLink RX9 140 yX9_wishFor, Cond.instanceMethod yX9_wishFor, Cond.selects RX9 yX9_wishFor yX9_wishFor, Cond.code yX9_wishFor cX9_wishFor 5 (some .int)]
def wsX9_arrive_r3 : List Cond := [Cond.fieldLink RX9 122 "SpurtClockModel" "up" "J", Cond.fieldLink RX9 126 "SpurtClockModel" "by" "J", Cond.fieldLink RX9 47 "SpurtClockModel" "seen" "[J", Cond.fieldLink RX9 16 "SpurtClockModel" "number" "I", Cond.methodLink RX9 119 yX9_findDrift, Cond.instanceMethod yX9_findDrift, Cond.selects RX9 yX9_findDrift yX9_findDrift, Cond.code yX9_findDrift cX9_findDrift 12 none, Cond.methodLink RX9 173 yX9_isUnder, Cond.instanceMethod yX9_isUnder, Cond.selects RX9 yX9_isUnder yX9_isUnder, Cond.code yX9_isUnder cX9_isUnder 8 (some .boolean), Cond.methodLink RX9 112 yX9_oldest, Cond.instanceMethod yX9_oldest, Cond.selects RX9 yX9_oldest yX9_oldest, Cond.code yX9_oldest cX9_oldest 1 (some .int), Cond.methodLink RX9 115 yX9_down, Cond.static yX9_down, Cond.code yX9_down cX9_down 4 (some .long), Cond.methodLink RX9 129 yX9_farBy, Cond.instanceMethod yX9_farBy, Cond.selects RX9 yX9_farBy yX9_farBy, Cond.code yX9_farBy cX9_farBy 11 (some .long), Cond.methodLink RX9 133 yX9_latelyMost]
def wsX9_arrive_r4 : List Cond := [Cond.instanceMethod yX9_latelyMost, Cond.selects RX9 yX9_latelyMost yX9_latelyMost, Cond.code yX9_latelyMost cX9_latelyMost 4 (some .long), Cond.methodLink RX9 137 yX9_leastBy, Cond.instanceMethod yX9_leastBy, Cond.selects RX9 yX9_leastBy yX9_leastBy, Cond.code yX9_leastBy cX9_leastBy 8 (some .long), Cond.methodLink RX9 143 yX9_beside, Cond.instanceMethod yX9_beside, Cond.selects RX9 yX9_beside yX9_beside, Cond.code yX9_beside cX9_beside 7 (some .int)]
def wsX9_arrive : List Cond := .code yX9_arrive cX9_arrive 6 (some .int) :: ((wsX9_arrive_r1 ++ (wsX9_arrive_r2 ++ (wsX9_arrive_r3 ++ wsX9_arrive_r4))) ++ wsX90)
def wsX9_anew : List Cond := .code yX9_anew cX9_anew 3 (some .int) :: ([.fieldLink RX9 78 "SpurtClockModel" "came" "I", .fieldLink RX9 32 "SpurtClockModel" "cameAs" "[I", .fieldLink RX9 75 "SpurtClockModel" "spurts" "I", .fieldLink RX9 99 "SpurtClockModel" "isSpike" "Z", .fieldLink RX9 109 "SpurtClockModel" "spikes" "I"] ++ wsX90)
def wsX9_isPlayed : List Cond := .code yX9_isPlayed cX9_isPlayed 2 (some .boolean) :: ([.fieldLink RX9 41 "SpurtClockModel" "timeSet" "[I", .fieldLink RX9 29 "SpurtClockModel" "spurtOf" "[I", .methodLink RX9 103 yX9_delay, .instanceMethod yX9_delay, .selects RX9 yX9_delay yX9_delay, .initialized RX9, .code yX9_delay cX9_delay 2 (some .int), .fieldLink RX9 26 "SpurtClockModel" "timeOf" "[I", .fieldLink RX9 23 "SpurtClockModel" "frameOf" "[I"] ++ wsX90)
def wsX9_playedAt : List Cond := .code yX9_playedAt cX9_playedAt 2 (some .int) :: ([.fieldLink RX9 23 "SpurtClockModel" "frameOf" "[I", .fieldLink RX9 41 "SpurtClockModel" "timeSet" "[I", .fieldLink RX9 29 "SpurtClockModel" "spurtOf" "[I"] ++ wsX90)
def wsX9_ofFrame : List Cond := .code yX9_ofFrame cX9_ofFrame 4 (some .int) :: ([.fieldLink RX9 32 "SpurtClockModel" "cameAs" "[I", .fieldLink RX9 26 "SpurtClockModel" "timeOf" "[I", .fieldLink RX9 29 "SpurtClockModel" "spurtOf" "[I", .methodLink RX9 54 yX9_within, .static yX9_within, .initialized RX9, .code yX9_within cX9_within 3 (some .boolean), .methodLink RX9 103 yX9_delay, .instanceMethod yX9_delay, .selects RX9 yX9_delay yX9_delay, .code yX9_delay cX9_delay 2 (some .int), .fieldLink RX9 23 "SpurtClockModel" "frameOf" "[I", .methodLink RX9 147 yX9_isPlayed, .instanceMethod yX9_isPlayed, .selects RX9 yX9_isPlayed yX9_isPlayed, .code yX9_isPlayed cX9_isPlayed 2 (some .boolean), .fieldLink RX9 41 "SpurtClockModel" "timeSet" "[I", .methodLink RX9 151 yX9_playedAt, .instanceMethod yX9_playedAt, .selects RX9 yX9_playedAt yX9_playedAt, .code yX9_playedAt cX9_playedAt 2 (some .int)] ++ wsX90)
def wsX9_counts : List Cond := .code yX9_counts cX9_counts 3 none :: ([.fieldLink RX9 154 "SpurtClockModel" "cameOf" "I", .fieldLink RX9 157 "SpurtClockModel" "playedOf" "I", .fieldLink RX9 35 "SpurtClockModel" "headOf" "[I", .fieldLink RX9 160 "SpurtClockModel" "greatest" "I", .fieldLink RX9 78 "SpurtClockModel" "came" "I", .fieldLink RX9 29 "SpurtClockModel" "spurtOf" "[I", .fieldLink RX9 23 "SpurtClockModel" "frameOf" "[I", .methodLink RX9 147 yX9_isPlayed, .instanceMethod yX9_isPlayed, .selects RX9 yX9_isPlayed yX9_isPlayed, .initialized RX9, .code yX9_isPlayed cX9_isPlayed 2 (some .boolean), .fieldLink RX9 41 "SpurtClockModel" "timeSet" "[I", .methodLink RX9 103 yX9_delay, .instanceMethod yX9_delay, .selects RX9 yX9_delay yX9_delay, .code yX9_delay cX9_delay 2 (some .int), .fieldLink RX9 26 "SpurtClockModel" "timeOf" "[I"] ++ wsX90)
def wsX9_missing : List Cond := .code yX9_missing cX9_missing 2 (some .int) :: ([.fieldLink RX9 160 "SpurtClockModel" "greatest" "I", .fieldLink RX9 35 "SpurtClockModel" "headOf" "[I", .fieldLink RX9 154 "SpurtClockModel" "cameOf" "I", .methodLink RX9 163 yX9_counts, .instanceMethod yX9_counts, .selects RX9 yX9_counts yX9_counts, .initialized RX9, .code yX9_counts cX9_counts 3 none, .fieldLink RX9 157 "SpurtClockModel" "playedOf" "I", .fieldLink RX9 78 "SpurtClockModel" "came" "I", .fieldLink RX9 29 "SpurtClockModel" "spurtOf" "[I", .fieldLink RX9 23 "SpurtClockModel" "frameOf" "[I", .methodLink RX9 147 yX9_isPlayed, .instanceMethod yX9_isPlayed, .selects RX9 yX9_isPlayed yX9_isPlayed, .code yX9_isPlayed cX9_isPlayed 2 (some .boolean), .fieldLink RX9 41 "SpurtClockModel" "timeSet" "[I", .methodLink RX9 103 yX9_delay, .instanceMethod yX9_delay, .selects RX9 yX9_delay yX9_delay, .code yX9_delay cX9_delay 2 (some .int), .fieldLink RX9 26 "SpurtClockModel" "timeOf" "[I"] ++ wsX90)
def wsX9_isSpurt : List Cond := .code yX9_isSpurt cX9_isSpurt 2 (some .boolean) :: ([.fieldLink RX9 75 "SpurtClockModel" "spurts" "I", .methodLink RX9 54 yX9_within, .static yX9_within, .initialized RX9, .code yX9_within cX9_within 3 (some .boolean)] ++ wsX90)
def wsX9_ofSpurt_r1 : List Cond := [Cond.fieldLink RX9 35 "SpurtClockModel" "headOf" "[I", Cond.fieldLink RX9 38 "SpurtClockModel" "pauseOf" "[I", Cond.fieldLink RX9 41 "SpurtClockModel" "timeSet" "[I", Cond.fieldLink RX9 154 "SpurtClockModel" "cameOf" "I", Cond.fieldLink RX9 157 "SpurtClockModel" "playedOf" "I", Cond.fieldLink RX9 160 "SpurtClockModel" "greatest" "I", Cond.fieldLink RX9 44 "SpurtClockModel" "mannerOf" "[I", Cond.methodLink RX9 166 yX9_isSpurt, Cond.instanceMethod yX9_isSpurt, Cond.selects RX9 yX9_isSpurt yX9_isSpurt, Cond.initialized RX9, Cond.code yX9_isSpurt cX9_isSpurt 2 (some .boolean), Cond.fieldLink RX9 75 "SpurtClockModel" "spurts" "I", Cond.methodLink RX9 54 yX9_within, Cond.static yX9_within, Cond.code yX9_within cX9_within 3 (some .boolean), Cond.methodLink RX9 163 yX9_counts, Cond.instanceMethod yX9_counts, Cond.selects RX9 yX9_counts yX9_counts, Cond.code yX9_counts cX9_counts 3 none, Cond.fieldLink RX9 78 "SpurtClockModel" "came" "I", Cond.fieldLink RX9 29 "SpurtClockModel" "spurtOf" "[I", Cond.fieldLink RX9 23 "SpurtClockModel" "frameOf" "[I", Cond.methodLink RX9 147 yX9_isPlayed]
def wsX9_ofSpurt_r2 : List Cond := [Cond.instanceMethod yX9_isPlayed, Cond.selects RX9 yX9_isPlayed yX9_isPlayed, Cond.code yX9_isPlayed cX9_isPlayed 2 (some .boolean), Cond.methodLink RX9 103 yX9_delay, Cond.instanceMethod yX9_delay, Cond.selects RX9 yX9_delay yX9_delay, Cond.code yX9_delay cX9_delay 2 (some .int), Cond.fieldLink RX9 26 "SpurtClockModel" "timeOf" "[I", Cond.methodLink RX9 169 yX9_missing, Cond.instanceMethod yX9_missing, Cond.selects RX9 yX9_missing yX9_missing, Cond.code yX9_missing cX9_missing 2 (some .int)]
def wsX9_ofSpurt : List Cond := .code yX9_ofSpurt cX9_ofSpurt 3 (some .int) :: ((wsX9_ofSpurt_r1 ++ wsX9_ofSpurt_r2) ++ wsX90)
def wsX9_inOrder : List Cond := .code yX9_inOrder cX9_inOrder 5 (some .int) :: ([.fieldLink RX9 75 "SpurtClockModel" "spurts" "I", .fieldLink RX9 35 "SpurtClockModel" "headOf" "[I"] ++ wsX90)
def wsX9_wish_r1 : List Cond := [Cond.fieldLink RX9 78 "SpurtClockModel" "came" "I", Cond.methodLink RX9 54 yX9_within, Cond.static yX9_within, Cond.initialized RX9, Cond.code yX9_within cX9_within 3 (some .boolean), Cond.methodLink RX9 140 yX9_wishFor, Cond.instanceMethod yX9_wishFor, Cond.selects RX9 yX9_wishFor yX9_wishFor, Cond.code yX9_wishFor cX9_wishFor 5 (some .int), Cond.fieldLink RX9 69 "SpurtClockModel" "manner" "I", Cond.fieldLink RX9 122 "SpurtClockModel" "up" "J", Cond.fieldLink RX9 23 "SpurtClockModel" "frameOf" "[I", Cond.fieldLink RX9 126 "SpurtClockModel" "by" "J", Cond.fieldLink RX9 47 "SpurtClockModel" "seen" "[J", Cond.fieldLink RX9 16 "SpurtClockModel" "number" "I", Cond.fieldLink RX9 99 "SpurtClockModel" "isSpike" "Z", Cond.methodLink RX9 119 yX9_findDrift, Cond.instanceMethod yX9_findDrift, Cond.selects RX9 yX9_findDrift yX9_findDrift, Cond.code yX9_findDrift cX9_findDrift 12 none, Cond.methodLink RX9 173 yX9_isUnder, Cond.instanceMethod yX9_isUnder, Cond.selects RX9 yX9_isUnder yX9_isUnder, Cond.code yX9_isUnder cX9_isUnder 8 (some .boolean)]
def wsX9_wish_r2 : List Cond := [Cond.methodLink RX9 103 yX9_delay, Cond.instanceMethod yX9_delay, Cond.selects RX9 yX9_delay yX9_delay, Cond.code yX9_delay cX9_delay 2 (some .int), Cond.fieldLink RX9 26 "SpurtClockModel" "timeOf" "[I", Cond.methodLink RX9 112 yX9_oldest, Cond.instanceMethod yX9_oldest, Cond.selects RX9 yX9_oldest yX9_oldest, Cond.code yX9_oldest cX9_oldest 1 (some .int), Cond.methodLink RX9 115 yX9_down, Cond.static yX9_down, Cond.code yX9_down cX9_down 4 (some .long), Cond.methodLink RX9 129 yX9_farBy, Cond.instanceMethod yX9_farBy, Cond.selects RX9 yX9_farBy yX9_farBy, Cond.code yX9_farBy cX9_farBy 11 (some .long), Cond.methodLink RX9 133 yX9_latelyMost, Cond.instanceMethod yX9_latelyMost, Cond.selects RX9 yX9_latelyMost yX9_latelyMost, Cond.code yX9_latelyMost cX9_latelyMost 4 (some .long), Cond.methodLink RX9 137 yX9_leastBy, Cond.instanceMethod yX9_leastBy, Cond.selects RX9 yX9_leastBy yX9_leastBy, Cond.code yX9_leastBy cX9_leastBy 8 (some .long)]
def wsX9_wish : List Cond := .code yX9_wish cX9_wish 2 (some .int) :: ((wsX9_wish_r1 ++ wsX9_wish_r2) ++ wsX90)
def wsX9_spike : List Cond := .code yX9_spike cX9_spike 2 (some .int) :: ([.fieldLink RX9 99 "SpurtClockModel" "isSpike" "Z", .fieldLink RX9 106 "SpurtClockModel" "base" "I", .methodLink RX9 54 yX9_within, .static yX9_within, .initialized RX9, .code yX9_within cX9_within 3 (some .boolean)] ++ wsX90)
def wsX9_late : List Cond := .code yX9_late cX9_late 4 (some .int) :: ([.constant RX9 172 (40000), .fieldLink RX9 78 "SpurtClockModel" "came" "I", .methodLink RX9 54 yX9_within, .static yX9_within, .initialized RX9, .code yX9_within cX9_within 3 (some .boolean), .methodLink RX9 112 yX9_oldest, .instanceMethod yX9_oldest, .selects RX9 yX9_oldest yX9_oldest, .code yX9_oldest cX9_oldest 1 (some .int), .methodLink RX9 103 yX9_delay, .instanceMethod yX9_delay, .selects RX9 yX9_delay yX9_delay, .code yX9_delay cX9_delay 2 (some .int), .fieldLink RX9 26 "SpurtClockModel" "timeOf" "[I", .fieldLink RX9 23 "SpurtClockModel" "frameOf" "[I"] ++ wsX90)
def wsX9_history : List Cond := .code yX9_history cX9_history 2 (some .int) :: ([.fieldLink RX9 78 "SpurtClockModel" "came" "I", .methodLink RX9 54 yX9_within, .static yX9_within, .initialized RX9, .code yX9_within cX9_within 3 (some .boolean), .methodLink RX9 103 yX9_delay, .instanceMethod yX9_delay, .selects RX9 yX9_delay yX9_delay, .code yX9_delay cX9_delay 2 (some .int), .fieldLink RX9 26 "SpurtClockModel" "timeOf" "[I", .fieldLink RX9 23 "SpurtClockModel" "frameOf" "[I"] ++ wsX90)
def wsX9_loss : List Cond := .code yX9_loss cX9_loss 4 (some .int) :: ([.constant RX9 172 (40000), .fieldLink RX9 78 "SpurtClockModel" "came" "I", .methodLink RX9 54 yX9_within, .static yX9_within, .initialized RX9, .code yX9_within cX9_within 3 (some .boolean), .methodLink RX9 103 yX9_delay, .instanceMethod yX9_delay, .selects RX9 yX9_delay yX9_delay, .code yX9_delay cX9_delay 2 (some .int), .fieldLink RX9 26 "SpurtClockModel" "timeOf" "[I", .fieldLink RX9 23 "SpurtClockModel" "frameOf" "[I"] ++ wsX90)
def wsX9_drift : List Cond := .code yX9_drift cX9_drift 2 (some .long) :: ([.constantLong RX9 177 (-9223372036854775808), .fieldLink RX9 122 "SpurtClockModel" "up" "J", .fieldLink RX9 126 "SpurtClockModel" "by" "J", .methodLink RX9 54 yX9_within, .static yX9_within, .initialized RX9, .code yX9_within cX9_within 3 (some .boolean), .methodLink RX9 119 yX9_findDrift, .instanceMethod yX9_findDrift, .selects RX9 yX9_findDrift yX9_findDrift, .code yX9_findDrift cX9_findDrift 12 none, .fieldLink RX9 78 "SpurtClockModel" "came" "I", .fieldLink RX9 23 "SpurtClockModel" "frameOf" "[I", .methodLink RX9 173 yX9_isUnder, .instanceMethod yX9_isUnder, .selects RX9 yX9_isUnder yX9_isUnder, .code yX9_isUnder cX9_isUnder 8 (some .boolean), .methodLink RX9 103 yX9_delay, .instanceMethod yX9_delay, .selects RX9 yX9_delay yX9_delay, .code yX9_delay cX9_delay 2 (some .int), .fieldLink RX9 26 "SpurtClockModel" "timeOf" "[I"] ++ wsX90)
def wsX9_waiting : List Cond := .code yX9_waiting cX9_waiting 4 (some .int) :: ([.constant RX9 179 (100000), .fieldLink RX9 78 "SpurtClockModel" "came" "I", .fieldLink RX9 26 "SpurtClockModel" "timeOf" "[I", .methodLink RX9 54 yX9_within, .static yX9_within, .initialized RX9, .code yX9_within cX9_within 3 (some .boolean), .methodLink RX9 147 yX9_isPlayed, .instanceMethod yX9_isPlayed, .selects RX9 yX9_isPlayed yX9_isPlayed, .code yX9_isPlayed cX9_isPlayed 2 (some .boolean), .fieldLink RX9 41 "SpurtClockModel" "timeSet" "[I", .fieldLink RX9 29 "SpurtClockModel" "spurtOf" "[I", .methodLink RX9 103 yX9_delay, .instanceMethod yX9_delay, .selects RX9 yX9_delay yX9_delay, .code yX9_delay cX9_delay 2 (some .int), .fieldLink RX9 23 "SpurtClockModel" "frameOf" "[I", .methodLink RX9 151 yX9_playedAt, .instanceMethod yX9_playedAt, .selects RX9 yX9_playedAt yX9_playedAt, .code yX9_playedAt cX9_playedAt 2 (some .int)] ++ wsX90)
def wsX9_playing : List Cond := .code yX9_playing cX9_playing 3 (some .int) :: ([.constant RX9 179 (100000), .fieldLink RX9 78 "SpurtClockModel" "came" "I", .fieldLink RX9 23 "SpurtClockModel" "frameOf" "[I", .methodLink RX9 54 yX9_within, .static yX9_within, .initialized RX9, .code yX9_within cX9_within 3 (some .boolean), .methodLink RX9 147 yX9_isPlayed, .instanceMethod yX9_isPlayed, .selects RX9 yX9_isPlayed yX9_isPlayed, .code yX9_isPlayed cX9_isPlayed 2 (some .boolean), .fieldLink RX9 41 "SpurtClockModel" "timeSet" "[I", .fieldLink RX9 29 "SpurtClockModel" "spurtOf" "[I", .methodLink RX9 103 yX9_delay, .instanceMethod yX9_delay, .selects RX9 yX9_delay yX9_delay, .code yX9_delay cX9_delay 2 (some .int), .fieldLink RX9 26 "SpurtClockModel" "timeOf" "[I", .methodLink RX9 151 yX9_playedAt, .instanceMethod yX9_playedAt, .selects RX9 yX9_playedAt yX9_playedAt, .code yX9_playedAt cX9_playedAt 2 (some .int)] ++ wsX90)
def wsX9_writes : List Cond := .code yX9_writes cX9_writes 2 none :: ([.fieldLink RX9 51 "SpurtClockModel" "text" "[I", .fieldLink RX9 180 "SpurtClockModel" "written" "I"] ++ wsX90)
def wsX9_writesNumber : List Cond := .code yX9_writesNumber cX9_writesNumber 4 none :: ([.methodLink RX9 183 yX9_writes, .instanceMethod yX9_writes, .selects RX9 yX9_writes yX9_writes, .initialized RX9, .code yX9_writes cX9_writes 2 none, .fieldLink RX9 51 "SpurtClockModel" "text" "[I", .fieldLink RX9 180 "SpurtClockModel" "written" "I"] ++ wsX90)
def wsX9_writesSpurt_r1 : List Cond := [Cond.fieldLink RX9 180 "SpurtClockModel" "written" "I", Cond.fieldLink RX9 35 "SpurtClockModel" "headOf" "[I", Cond.fieldLink RX9 44 "SpurtClockModel" "mannerOf" "[I", Cond.fieldLink RX9 7 "SpurtClockModel" "signs" "[I", Cond.fieldLink RX9 41 "SpurtClockModel" "timeSet" "[I", Cond.fieldLink RX9 160 "SpurtClockModel" "greatest" "I", Cond.fieldLink RX9 32 "SpurtClockModel" "cameAs" "[I", Cond.methodLink RX9 183 yX9_writes, Cond.instanceMethod yX9_writes, Cond.selects RX9 yX9_writes yX9_writes, Cond.initialized RX9, Cond.code yX9_writes cX9_writes 2 none, Cond.fieldLink RX9 51 "SpurtClockModel" "text" "[I", Cond.methodLink RX9 186 yX9_writesNumber, Cond.instanceMethod yX9_writesNumber, Cond.selects RX9 yX9_writesNumber yX9_writesNumber, Cond.code yX9_writesNumber cX9_writesNumber 4 none, Cond.methodLink RX9 61 yX9_wordLong, Cond.instanceMethod yX9_wordLong, Cond.selects RX9 yX9_wordLong yX9_wordLong, Cond.code yX9_wordLong cX9_wordLong 2 (some .int), Cond.methodLink RX9 163 yX9_counts, Cond.instanceMethod yX9_counts, Cond.selects RX9 yX9_counts yX9_counts]
def wsX9_writesSpurt_r2 : List Cond := [Cond.code yX9_counts cX9_counts 3 none, Cond.fieldLink RX9 154 "SpurtClockModel" "cameOf" "I", Cond.fieldLink RX9 157 "SpurtClockModel" "playedOf" "I", Cond.fieldLink RX9 78 "SpurtClockModel" "came" "I", Cond.fieldLink RX9 29 "SpurtClockModel" "spurtOf" "[I", Cond.fieldLink RX9 23 "SpurtClockModel" "frameOf" "[I", Cond.methodLink RX9 147 yX9_isPlayed, Cond.instanceMethod yX9_isPlayed, Cond.selects RX9 yX9_isPlayed yX9_isPlayed, Cond.code yX9_isPlayed cX9_isPlayed 2 (some .boolean), Cond.methodLink RX9 103 yX9_delay, Cond.instanceMethod yX9_delay, Cond.selects RX9 yX9_delay yX9_delay, Cond.code yX9_delay cX9_delay 2 (some .int), Cond.fieldLink RX9 26 "SpurtClockModel" "timeOf" "[I"]
def wsX9_writesSpurt : List Cond := .code yX9_writesSpurt cX9_writesSpurt 3 none :: ((wsX9_writesSpurt_r1 ++ wsX9_writesSpurt_r2) ++ wsX90)
def wsX9_text_r1 : List Cond := [Cond.fieldLink RX9 180 "SpurtClockModel" "written" "I", Cond.fieldLink RX9 51 "SpurtClockModel" "text" "[I", Cond.methodLink RX9 166 yX9_isSpurt, Cond.instanceMethod yX9_isSpurt, Cond.selects RX9 yX9_isSpurt yX9_isSpurt, Cond.initialized RX9, Cond.code yX9_isSpurt cX9_isSpurt 2 (some .boolean), Cond.fieldLink RX9 75 "SpurtClockModel" "spurts" "I", Cond.methodLink RX9 54 yX9_within, Cond.static yX9_within, Cond.code yX9_within cX9_within 3 (some .boolean), Cond.methodLink RX9 189 yX9_writesSpurt, Cond.instanceMethod yX9_writesSpurt, Cond.selects RX9 yX9_writesSpurt yX9_writesSpurt, Cond.code yX9_writesSpurt cX9_writesSpurt 3 none, Cond.fieldLink RX9 35 "SpurtClockModel" "headOf" "[I", Cond.fieldLink RX9 44 "SpurtClockModel" "mannerOf" "[I", Cond.fieldLink RX9 7 "SpurtClockModel" "signs" "[I", Cond.fieldLink RX9 41 "SpurtClockModel" "timeSet" "[I", Cond.fieldLink RX9 160 "SpurtClockModel" "greatest" "I", Cond.fieldLink RX9 32 "SpurtClockModel" "cameAs" "[I", Cond.methodLink RX9 183 yX9_writes, Cond.instanceMethod yX9_writes, Cond.selects RX9 yX9_writes yX9_writes]
def wsX9_text_r2 : List Cond := [Cond.code yX9_writes cX9_writes 2 none, Cond.methodLink RX9 186 yX9_writesNumber, Cond.instanceMethod yX9_writesNumber, Cond.selects RX9 yX9_writesNumber yX9_writesNumber, Cond.code yX9_writesNumber cX9_writesNumber 4 none, Cond.methodLink RX9 61 yX9_wordLong, Cond.instanceMethod yX9_wordLong, Cond.selects RX9 yX9_wordLong yX9_wordLong, Cond.code yX9_wordLong cX9_wordLong 2 (some .int), Cond.methodLink RX9 163 yX9_counts, Cond.instanceMethod yX9_counts, Cond.selects RX9 yX9_counts yX9_counts, Cond.code yX9_counts cX9_counts 3 none, Cond.fieldLink RX9 154 "SpurtClockModel" "cameOf" "I", Cond.fieldLink RX9 157 "SpurtClockModel" "playedOf" "I", Cond.fieldLink RX9 78 "SpurtClockModel" "came" "I", Cond.fieldLink RX9 29 "SpurtClockModel" "spurtOf" "[I", Cond.fieldLink RX9 23 "SpurtClockModel" "frameOf" "[I", Cond.methodLink RX9 147 yX9_isPlayed, Cond.instanceMethod yX9_isPlayed, Cond.selects RX9 yX9_isPlayed yX9_isPlayed, Cond.code yX9_isPlayed cX9_isPlayed 2 (some .boolean), Cond.methodLink RX9 103 yX9_delay, Cond.instanceMethod yX9_delay]
def wsX9_text_r3 : List Cond := [Cond.selects RX9 yX9_delay yX9_delay, Cond.code yX9_delay cX9_delay 2 (some .int), Cond.fieldLink RX9 26 "SpurtClockModel" "timeOf" "[I"]
def wsX9_text : List Cond := .code yX9_text cX9_text 3 (some .int) :: ((wsX9_text_r1 ++ (wsX9_text_r2 ++ wsX9_text_r3)) ++ wsX90)
def wsX9_word : List Cond := .code yX9_word cX9_word 2 (some .int) :: ([.fieldLink RX9 69 "SpurtClockModel" "manner" "I", .fieldLink RX9 7 "SpurtClockModel" "signs" "[I", .methodLink RX9 54 yX9_within, .static yX9_within, .initialized RX9, .code yX9_within cX9_within 3 (some .boolean), .methodLink RX9 61 yX9_wordLong, .instanceMethod yX9_wordLong, .selects RX9 yX9_wordLong yX9_wordLong, .code yX9_wordLong cX9_wordLong 2 (some .int)] ++ wsX90)
def wsX9_many_r1 : List Cond := [Cond.fieldLink RX9 75 "SpurtClockModel" "spurts" "I", Cond.fieldLink RX9 157 "SpurtClockModel" "playedOf" "I", Cond.fieldLink RX9 78 "SpurtClockModel" "came" "I", Cond.fieldLink RX9 58 "SpurtClockModel" "taped" "I", Cond.fieldLink RX9 109 "SpurtClockModel" "spikes" "I", Cond.methodLink RX9 169 yX9_missing, Cond.instanceMethod yX9_missing, Cond.selects RX9 yX9_missing yX9_missing, Cond.initialized RX9, Cond.code yX9_missing cX9_missing 2 (some .int), Cond.fieldLink RX9 160 "SpurtClockModel" "greatest" "I", Cond.fieldLink RX9 35 "SpurtClockModel" "headOf" "[I", Cond.fieldLink RX9 154 "SpurtClockModel" "cameOf" "I", Cond.methodLink RX9 163 yX9_counts, Cond.instanceMethod yX9_counts, Cond.selects RX9 yX9_counts yX9_counts, Cond.code yX9_counts cX9_counts 3 none, Cond.fieldLink RX9 29 "SpurtClockModel" "spurtOf" "[I", Cond.fieldLink RX9 23 "SpurtClockModel" "frameOf" "[I", Cond.methodLink RX9 147 yX9_isPlayed, Cond.instanceMethod yX9_isPlayed, Cond.selects RX9 yX9_isPlayed yX9_isPlayed, Cond.code yX9_isPlayed cX9_isPlayed 2 (some .boolean), Cond.fieldLink RX9 41 "SpurtClockModel" "timeSet" "[I"]
def wsX9_many_r2 : List Cond := [Cond.methodLink RX9 103 yX9_delay, Cond.instanceMethod yX9_delay, Cond.selects RX9 yX9_delay yX9_delay, Cond.code yX9_delay cX9_delay 2 (some .int), Cond.fieldLink RX9 26 "SpurtClockModel" "timeOf" "[I", Cond.methodLink RX9 112 yX9_oldest, Cond.instanceMethod yX9_oldest, Cond.selects RX9 yX9_oldest yX9_oldest, Cond.code yX9_oldest cX9_oldest 1 (some .int)]
def wsX9_many : List Cond := .code yX9_many cX9_many 5 (some .int) :: ((wsX9_many_r1 ++ wsX9_many_r2) ++ wsX90)
def wsJ9_abs_0f7a4 : List Cond := .code yJ9_abs_0f7a4 cJ9_abs_0f7a4 1 (some .int) :: ([])
def wsJ9_max_7cf53 : List Cond := .code yJ9_max_7cf53 cJ9_max_7cf53 2 (some .int) :: ([])
def wsJ9_min_7cf53 : List Cond := .code yJ9_min_7cf53 cJ9_min_7cf53 2 (some .int) :: ([])
def wsL_law_r1 : List Cond := [Cond.classLink RL 7 RX8, Cond.instantiable RX8 11, Cond.initialized RX8, Cond.classLink RL 10 RX9, Cond.instantiable RX9 28, Cond.initialized RX9, Cond.methodLink RL 9 yX8_init, Cond.instanceMethod yX8_init, Cond.code yX8_init cX8_init 1 none, Cond.methodLink RX8 3 objectInit, Cond.instanceMethod objectInit, Cond.code objectInit ⟨#[0xb1]⟩ 1 none, Cond.classLink RX8 9 RX6, Cond.instantiable RX6 2, Cond.initialized RX6, Cond.fieldLink RX8 12 "SpurtClock" "tape" "LSpurtClock$Tape;", Cond.classLink RX8 18 RX0, Cond.instantiable RX0 6, Cond.initialized RX0, Cond.fieldLink RX8 21 "SpurtClock" "arrivals" "LSpurtClock$Arrivals;", Cond.classLink RX8 25 RX4, Cond.instantiable RX4 9, Cond.initialized RX4, Cond.fieldLink RX8 28 "SpurtClock" "spurts" "LSpurtClock$Spurts;"]
def wsL_law_r2 : List Cond := [Cond.classLink RX8 32 RX5, Cond.instantiable RX5 3, Cond.initialized RX5, Cond.fieldLink RX8 35 "SpurtClock" "surge" "LSpurtClock$Surge;", Cond.classLink RX8 39 RX1, Cond.instantiable RX1 5, Cond.initialized RX1, Cond.fieldLink RX8 42 "SpurtClock" "line" "LSpurtClock$LowestLine;", Cond.classLink RX8 46 RX7, Cond.instantiable RX7 2, Cond.initialized RX7, Cond.fieldLink RX8 49 "SpurtClock" "wishes" "LSpurtClock$Wishes;", Cond.classLink RX8 53 RX3, Cond.instantiable RX3 2, Cond.initialized RX3, Cond.fieldLink RX8 56 "SpurtClock" "sheet" "LSpurtClock$Sheet;", Cond.fieldLink RX8 60 "SpurtClock" "mannerNow" "I", Cond.fieldLink RX8 64 "SpurtClock" "mannerNumber" "I", Cond.fieldLink RX8 67 "SpurtClock" "marginNow" "I", Cond.fieldLink RX8 70 "SpurtClock" "jumpNow" "I", Cond.instanceMethod yX6_init, Cond.code yX6_init cX6_init 1 none, Cond.methodLink RX6 3 objectInit, Cond.classLink RX6 9 RX2]
def wsL_law_r3 : List Cond := [Cond.instantiable RX2 1, Cond.initialized RX2, Cond.fieldLink RX6 14 "SpurtClock$Tape" "codes" "LSpurtClock$Row;", Cond.methodLink RX6 11 yX2_init, Cond.instanceMethod yX2_init, Cond.code yX2_init cX2_init 2 none, Cond.methodLink RX2 1 objectInit, Cond.methodLink RX2 7 Lib.Math.max.name, Cond.static Lib.Math.max.name, Cond.initialized "java/lang/Math", Cond.code Lib.Math.max.name Lib.Math.max.code 2 (some .int), Cond.arrayClass .int, Cond.fieldLink RX2 13 "SpurtClock$Row" "cells" "[I", Cond.instanceMethod yX0_init, Cond.code yX0_init cX0_init 1 none, Cond.methodLink RX0 3 objectInit, Cond.classLink RX0 9 RX2, Cond.fieldLink RX0 14 "SpurtClock$Arrivals" "placeAfter" "LSpurtClock$Row;", Cond.fieldLink RX0 20 "SpurtClock$Arrivals" "frames" "LSpurtClock$Row;", Cond.fieldLink RX0 23 "SpurtClock$Arrivals" "whens" "LSpurtClock$Row;", Cond.fieldLink RX0 26 "SpurtClock$Arrivals" "spurtNumbers" "LSpurtClock$Row;", Cond.fieldLink RX0 29 "SpurtClock$Arrivals" "playTimes" "LSpurtClock$Row;", Cond.methodLink RX0 11 yX2_init, Cond.instanceMethod yX4_init]
def wsL_law_r4 : List Cond := [Cond.code yX4_init cX4_init 1 none, Cond.methodLink RX4 3 objectInit, Cond.classLink RX4 9 RX2, Cond.fieldLink RX4 14 "SpurtClock$Spurts" "heads" "LSpurtClock$Row;", Cond.fieldLink RX4 20 "SpurtClock$Spurts" "pauses" "LSpurtClock$Row;", Cond.fieldLink RX4 23 "SpurtClock$Spurts" "times" "LSpurtClock$Row;", Cond.fieldLink RX4 26 "SpurtClock$Spurts" "manners" "LSpurtClock$Row;", Cond.fieldLink RX4 29 "SpurtClock$Spurts" "came" "LSpurtClock$Row;", Cond.fieldLink RX4 32 "SpurtClock$Spurts" "played" "LSpurtClock$Row;", Cond.fieldLink RX4 35 "SpurtClock$Spurts" "greatest" "LSpurtClock$Row;", Cond.fieldLink RX4 38 "SpurtClock$Spurts" "ranked" "LSpurtClock$Row;", Cond.methodLink RX4 11 yX2_init, Cond.instanceMethod yX5_init, Cond.code yX5_init cX5_init 1 none, Cond.methodLink RX5 1 objectInit, Cond.instanceMethod yX1_init, Cond.code yX1_init cX1_init 1 none, Cond.methodLink RX1 3 objectInit, Cond.classLink RX1 9 RX2, Cond.fieldLink RX1 14 "SpurtClock$LowestLine" "cornerFrames" "LSpurtClock$Row;", Cond.fieldLink RX1 20 "SpurtClock$LowestLine" "cornerDelays" "LSpurtClock$Row;", Cond.fieldLink RX1 23 "SpurtClock$LowestLine" "lower" "I", Cond.methodLink RX1 11 yX2_init, Cond.instanceMethod yX7_init]
def wsL_law_r5 : List Cond := [Cond.code yX7_init cX7_init 1 none, Cond.methodLink RX7 3 objectInit, Cond.classLink RX7 9 RX2, Cond.fieldLink RX7 14 "SpurtClock$Wishes" "delays" "LSpurtClock$Row;", Cond.methodLink RX7 11 yX2_init, Cond.instanceMethod yX3_init, Cond.code yX3_init cX3_init 1 none, Cond.methodLink RX3 3 objectInit, Cond.classLink RX3 9 RX2, Cond.fieldLink RX3 14 "SpurtClock$Sheet" "codes" "LSpurtClock$Row;", Cond.methodLink RX3 11 yX2_init, Cond.methodLink RL 12 yX9_init, Cond.instanceMethod yX9_init, Cond.code yX9_init cX9_init 2 none, Cond.methodLink RX9 1 objectInit, Cond.fieldLink RX9 7 "SpurtClockModel" "signs" "[I", Cond.fieldLink RX9 13 "SpurtClockModel" "tape" "[I", Cond.fieldLink RX9 16 "SpurtClockModel" "number" "I", Cond.fieldLink RX9 20 "SpurtClockModel" "jump" "I", Cond.fieldLink RX9 23 "SpurtClockModel" "frameOf" "[I", Cond.fieldLink RX9 26 "SpurtClockModel" "timeOf" "[I", Cond.fieldLink RX9 29 "SpurtClockModel" "spurtOf" "[I", Cond.fieldLink RX9 32 "SpurtClockModel" "cameAs" "[I", Cond.fieldLink RX9 35 "SpurtClockModel" "headOf" "[I"]
def wsL_law_r6 : List Cond := [Cond.fieldLink RX9 38 "SpurtClockModel" "pauseOf" "[I", Cond.fieldLink RX9 41 "SpurtClockModel" "timeSet" "[I", Cond.fieldLink RX9 44 "SpurtClockModel" "mannerOf" "[I", Cond.arrayClass .long, Cond.fieldLink RX9 47 "SpurtClockModel" "seen" "[J", Cond.fieldLink RX9 51 "SpurtClockModel" "text" "[I", Cond.methodLink RL 13 yX8_key, Cond.instanceMethod yX8_key, Cond.selects RX8 yX8_key yX8_key, Cond.code yX8_key cX8_key 2 (some .int), Cond.methodLink RX8 73 yX8_isOutside, Cond.static yX8_isOutside, Cond.code yX8_isOutside cX8_isOutside 3 (some .boolean), Cond.methodLink RX8 77 yX6_size, Cond.instanceMethod yX6_size, Cond.selects RX6 yX6_size yX6_size, Cond.code yX6_size cX6_size 1 (some .int), Cond.fieldLink RX6 20 "SpurtClock$Tape" "size" "I", Cond.methodLink RX8 81 yX6_add, Cond.instanceMethod yX6_add, Cond.selects RX6 yX6_add yX6_add, Cond.code yX6_add cX6_add 2 none, Cond.methodLink RX6 24 yX2_set, Cond.instanceMethod yX2_set]
def wsL_law_r7 : List Cond := [Cond.selects RX2 yX2_set yX2_set, Cond.code yX2_set cX2_set 3 none, Cond.methodLink RL 17 yX9_key, Cond.instanceMethod yX9_key, Cond.selects RX9 yX9_key yX9_key, Cond.code yX9_key cX9_key 2 (some .int), Cond.fieldLink RX9 58 "SpurtClockModel" "taped" "I", Cond.methodLink RX9 54 yX9_within, Cond.static yX9_within, Cond.code yX9_within cX9_within 3 (some .boolean), Cond.methodLink RL 18 yX8_wipe, Cond.instanceMethod yX8_wipe, Cond.selects RX8 yX8_wipe yX8_wipe, Cond.code yX8_wipe cX8_wipe 2 (some .int), Cond.methodLink RX8 85 yX6_clear, Cond.instanceMethod yX6_clear, Cond.selects RX6 yX6_clear yX6_clear, Cond.code yX6_clear cX6_clear 1 none, Cond.methodLink RL 22 yX9_wipe, Cond.instanceMethod yX9_wipe, Cond.selects RX9 yX9_wipe yX9_wipe, Cond.code yX9_wipe cX9_wipe 2 (some .int), Cond.methodLink RL 23 yX8_manner, Cond.instanceMethod yX8_manner]
def wsL_law_r8 : List Cond := [Cond.selects RX8 yX8_manner yX8_manner, Cond.code yX8_manner cX8_manner 3 (some .int), Cond.methodLink RX8 88 yX8_mannerOnTape, Cond.instanceMethod yX8_mannerOnTape, Cond.selects RX8 yX8_mannerOnTape yX8_mannerOnTape, Cond.code yX8_mannerOnTape cX8_mannerOnTape 2 (some .int), Cond.methodLink RX8 214 yX8_wordOf, Cond.static yX8_wordOf, Cond.code yX8_wordOf cX8_wordOf 1 (some (.object "java/lang/String")), Cond.methodLink RX8 246 yX6_spells, Cond.instanceMethod yX6_spells, Cond.selects RX6 yX6_spells yX6_spells, Cond.code yX6_spells cX6_spells 3 (some .boolean), Cond.methodLink RX6 28 yJ0_length_8abf5, Cond.instanceMethod yJ0_length_8abf5, Cond.selects RJ0 yJ0_length_8abf5 yJ0_length_8abf5, Cond.initialized RJ0, Cond.code yJ0_length_8abf5 cJ0_length_8abf5 1 (some .int), Cond.fieldLink RJ0 9 "java/lang/String" "value" "[B", Cond.methodLink RJ0 335 yJ0_coder_7d493, Cond.instanceMethod yJ0_coder_7d493, Cond.selects RJ0 yJ0_coder_7d493 yJ0_coder_7d493, Cond.code yJ0_coder_7d493 cJ0_coder_7d493 1 (some .byte), Cond.fieldLink RJ0 38 "java/lang/String" "COMPACT_STRINGS" "Z"]
def wsL_law_r9 : List Cond := [Cond.fieldLink RJ0 15 "java/lang/String" "coder" "B", Cond.methodLink RX6 34 yJ0_charAt_5068e, Cond.instanceMethod yJ0_charAt_5068e, Cond.selects RJ0 yJ0_charAt_5068e yJ0_charAt_5068e, Cond.code yJ0_charAt_5068e cJ0_charAt_5068e 2 (some .char), Cond.methodLink RJ0 492 yJ0_isLatin1_aae02, Cond.instanceMethod yJ0_isLatin1_aae02, Cond.selects RJ0 yJ0_isLatin1_aae02 yJ0_isLatin1_aae02, Cond.code yJ0_isLatin1_aae02 cJ0_isLatin1_aae02 1 (some .boolean), Cond.methodLink RJ0 495 yJ1_charAt_3b067, Cond.static yJ1_charAt_3b067, Cond.initialized RJ1, Cond.code yJ1_charAt_3b067 cJ1_charAt_3b067 2 (some .char), Cond.methodLink RJ1 9 yJ0_checkIndex_df160, Cond.static yJ0_checkIndex_df160, Cond.code yJ0_checkIndex_df160 cJ0_checkIndex_df160 2 none, Cond.fieldLink RJ0 1053 "jdk/internal/util/Preconditions" "SIOOBE_FORMATTER" "Ljava/util/function/BiFunction;", Cond.methodLink RJ0 1059 yJ3_checkIndex_8e157, Cond.static yJ3_checkIndex_8e157, Cond.initialized RJ3, Cond.code yJ3_checkIndex_8e157 cJ3_checkIndex_8e157 3 (some .int), Cond.methodLink RJ0 498 yJ2_charAt_3b067, Cond.static yJ2_charAt_3b067, Cond.initialized RJ2]
def wsL_law_r10 : List Cond := [Cond.code yJ2_charAt_3b067 cJ2_charAt_3b067 2 (some .char), Cond.methodLink RJ2 67 yJ2_checkIndex_2214a, Cond.static yJ2_checkIndex_2214a, Cond.code yJ2_checkIndex_2214a cJ2_checkIndex_2214a 2 none, Cond.methodLink RJ2 48 yJ2_length_9d52b, Cond.static yJ2_length_9d52b, Cond.code yJ2_length_9d52b cJ2_length_9d52b 1 (some .int), Cond.methodLink RJ2 414 yJ0_checkIndex_df160, Cond.methodLink RJ2 71 yJ2_getChar_3b067, Cond.static yJ2_getChar_3b067, Cond.code yJ2_getChar_3b067 cJ2_getChar_3b067 2 (some .char), Cond.fieldLink RJ2 44 "java/lang/StringUTF16" "$assertionsDisabled" "Z", Cond.fieldLink RJ2 59 "java/lang/StringUTF16" "HI_BYTE_SHIFT" "I", Cond.fieldLink RJ2 63 "java/lang/StringUTF16" "LO_BYTE_SHIFT" "I", Cond.methodLink RX6 38 yX2_get, Cond.instanceMethod yX2_get, Cond.selects RX2 yX2_get yX2_get, Cond.code yX2_get cX2_get 2 (some .int), Cond.methodLink RX8 91 yX8_leastNumber, Cond.static yX8_leastNumber, Cond.code yX8_leastNumber cX8_leastNumber 1 (some .int), Cond.methodLink RX8 95 yX8_greatestNumber, Cond.static yX8_greatestNumber, Cond.code yX8_greatestNumber cX8_greatestNumber 1 (some .int)]
def wsL_law_r11 : List Cond := [Cond.methodLink RL 26 yX9_manner, Cond.instanceMethod yX9_manner, Cond.selects RX9 yX9_manner yX9_manner, Cond.code yX9_manner cX9_manner 4 (some .int), Cond.fieldLink RX9 69 "SpurtClockModel" "manner" "I", Cond.methodLink RX9 65 yX9_told, Cond.instanceMethod yX9_told, Cond.selects RX9 yX9_told yX9_told, Cond.code yX9_told cX9_told 4 (some .int), Cond.methodLink RX9 61 yX9_wordLong, Cond.instanceMethod yX9_wordLong, Cond.selects RX9 yX9_wordLong yX9_wordLong, Cond.code yX9_wordLong cX9_wordLong 2 (some .int), Cond.methodLink RL 27 yX8_margin, Cond.instanceMethod yX8_margin, Cond.selects RX8 yX8_margin yX8_margin, Cond.code yX8_margin cX8_margin 3 (some .int), Cond.methodLink RL 30 yX9_margin, Cond.instanceMethod yX9_margin, Cond.selects RX9 yX9_margin yX9_margin, Cond.code yX9_margin cX9_margin 3 (some .int), Cond.fieldLink RX9 72 "SpurtClockModel" "margin" "I", Cond.methodLink RL 31 yX8_jump, Cond.instanceMethod yX8_jump]
def wsL_law_r12 : List Cond := [Cond.selects RX8 yX8_jump yX8_jump, Cond.code yX8_jump cX8_jump 3 (some .int), Cond.methodLink RL 34 yX9_jump, Cond.instanceMethod yX9_jump, Cond.selects RX9 yX9_jump yX9_jump, Cond.code yX9_jump cX9_jump 3 (some .int), Cond.methodLink RL 35 yX8_arrive, Cond.instanceMethod yX8_arrive, Cond.selects RX8 yX8_arrive yX8_arrive, Cond.code yX8_arrive cX8_arrive 8 (some .int), Cond.methodLink RX8 98 yX8_refusalOf, Cond.instanceMethod yX8_refusalOf, Cond.selects RX8 yX8_refusalOf yX8_refusalOf, Cond.code yX8_refusalOf cX8_refusalOf 5 (some .int), Cond.methodLink RX8 250 yX0_latestWhen, Cond.instanceMethod yX0_latestWhen, Cond.selects RX0 yX0_latestWhen yX0_latestWhen, Cond.code yX0_latestWhen cX0_latestWhen 1 (some .int), Cond.fieldLink RX0 32 "SpurtClock$Arrivals" "count" "I", Cond.methodLink RX0 42 yX2_get, Cond.methodLink RX8 128 yX0_placeOf, Cond.instanceMethod yX0_placeOf, Cond.selects RX0 yX0_placeOf yX0_placeOf, Cond.code yX0_placeOf cX0_placeOf 2 (some .int)]
def wsL_law_r13 : List Cond := [Cond.methodLink RX8 253 yX4_bar, Cond.instanceMethod yX4_bar, Cond.selects RX4 yX4_bar yX4_bar, Cond.code yX4_bar cX4_bar 6 (some .boolean), Cond.fieldLink RX4 41 "SpurtClock$Spurts" "count" "I", Cond.methodLink RX4 45 yX2_get, Cond.methodLink RX4 55 yX4_isInTheWay, Cond.instanceMethod yX4_isInTheWay, Cond.selects RX4 yX4_isInTheWay yX4_isInTheWay, Cond.code yX4_isInTheWay cX4_isInTheWay 6 (some .boolean), Cond.methodLink RX8 122 yX0_count, Cond.instanceMethod yX0_count, Cond.selects RX0 yX0_count yX0_count, Cond.code yX0_count cX0_count 1 (some .int), Cond.methodLink RX8 102 yX0_add, Cond.instanceMethod yX0_add, Cond.selects RX0 yX0_add yX0_add, Cond.code yX0_add cX0_add 4 (some .int), Cond.methodLink RX0 49 yX2_set, Cond.methodLink RX8 105 yX0_delayAt, Cond.instanceMethod yX0_delayAt, Cond.selects RX0 yX0_delayAt yX0_delayAt, Cond.code yX0_delayAt cX0_delayAt 2 (some .int), Cond.methodLink RX8 108 yX5_follow]
def wsL_law_r14 : List Cond := [Cond.instanceMethod yX5_follow, Cond.selects RX5 yX5_follow yX5_follow, Cond.code yX5_follow cX5_follow 4 none, Cond.fieldLink RX5 7 "SpurtClock$Surge" "on" "Z", Cond.fieldLink RX5 13 "SpurtClock$Surge" "base" "I", Cond.fieldLink RX5 17 "SpurtClock$Surge" "begun" "I", Cond.methodLink RX8 112 yX4_withHead, Cond.instanceMethod yX4_withHead, Cond.selects RX4 yX4_withHead yX4_withHead, Cond.code yX4_withHead cX4_withHead 3 (some .int), Cond.methodLink RX8 115 yX8_openSpurt, Cond.instanceMethod yX8_openSpurt, Cond.selects RX8 yX8_openSpurt yX8_openSpurt, Cond.code yX8_openSpurt cX8_openSpurt 4 (some .int), Cond.methodLink RX8 168 yX8_wishFor, Cond.instanceMethod yX8_wishFor, Cond.selects RX8 yX8_wishFor yX8_wishFor, Cond.code yX8_wishFor cX8_wishFor 2 (some .int), Cond.methodLink RX8 256 yX7_gather, Cond.instanceMethod yX7_gather, Cond.selects RX7 yX7_gather yX7_gather, Cond.code yX7_gather cX7_gather 3 none, Cond.fieldLink RX7 26 "SpurtClock$Wishes" "size" "I", Cond.methodLink RX7 20 yX0_historySize]
def wsL_law_r15 : List Cond := [Cond.instanceMethod yX0_historySize, Cond.selects RX0 yX0_historySize yX0_historySize, Cond.code yX0_historySize cX0_historySize 1 (some .int), Cond.methodLink RX0 36 Lib.Math.min.name, Cond.static Lib.Math.min.name, Cond.code Lib.Math.min.name Lib.Math.min.code 2 (some .int), Cond.methodLink RX7 30 yX0_lastPlace, Cond.instanceMethod yX0_lastPlace, Cond.selects RX0 yX0_lastPlace yX0_lastPlace, Cond.code yX0_lastPlace cX0_lastPlace 1 (some .int), Cond.methodLink RX7 33 yX0_delayAt, Cond.methodLink RX7 37 yX2_set, Cond.methodLink RX8 188 yX1_fitUnder, Cond.instanceMethod yX1_fitUnder, Cond.selects RX1 yX1_fitUnder yX1_fitUnder, Cond.code yX1_fitUnder cX1_fitUnder 4 none, Cond.fieldLink RX1 30 "SpurtClock$LowestLine" "corners" "I", Cond.fieldLink RX1 27 "SpurtClock$LowestLine" "upper" "I", Cond.methodLink RX1 33 yX0_placeOf, Cond.methodLink RX1 39 yX0_delayAt, Cond.methodLink RX1 42 yX1_addCorner, Cond.instanceMethod yX1_addCorner, Cond.selects RX1 yX1_addCorner yX1_addCorner, Cond.code yX1_addCorner cX1_addCorner 3 none]
def wsL_law_r16 : List Cond := [Cond.methodLink RX1 49 yX1_lastIsNotBelow, Cond.instanceMethod yX1_lastIsNotBelow, Cond.selects RX1 yX1_lastIsNotBelow yX1_lastIsNotBelow, Cond.code yX1_lastIsNotBelow cX1_lastIsNotBelow 7 (some .boolean), Cond.methodLink RX1 56 yX2_get, Cond.methodLink RX1 53 yX2_set, Cond.methodLink RX1 46 yX1_takeRiseAtMiddle, Cond.instanceMethod yX1_takeRiseAtMiddle, Cond.selects RX1 yX1_takeRiseAtMiddle yX1_takeRiseAtMiddle, Cond.code yX1_takeRiseAtMiddle cX1_takeRiseAtMiddle 3 none, Cond.methodLink RX1 59 yX1_setRise, Cond.instanceMethod yX1_setRise, Cond.selects RX1 yX1_setRise yX1_setRise, Cond.code yX1_setRise cX1_setRise 4 none, Cond.methodLink RX1 62 Lib.Math.abs.name, Cond.static Lib.Math.abs.name, Cond.code Lib.Math.abs.name Lib.Math.abs.code 1 (some .int), Cond.methodLink RX1 67 yX1_greatestDivisor, Cond.static yX1_greatestDivisor, Cond.code yX1_greatestDivisor cX1_greatestDivisor 6 (some .int), Cond.methodLink RX8 259 yX7_carryAlong, Cond.instanceMethod yX7_carryAlong, Cond.selects RX7 yX7_carryAlong yX7_carryAlong, Cond.code yX7_carryAlong cX7_carryAlong 6 none]
def wsL_law_r17 : List Cond := [Cond.methodLink RX7 41 yX0_frameAt, Cond.instanceMethod yX0_frameAt, Cond.selects RX0 yX0_frameAt yX0_frameAt, Cond.code yX0_frameAt cX0_frameAt 2 (some .int), Cond.methodLink RX7 44 yX1_riseOver, Cond.instanceMethod yX1_riseOver, Cond.selects RX1 yX1_riseOver yX1_riseOver, Cond.code yX1_riseOver cX1_riseOver 2 (some .int), Cond.methodLink RX1 71 yJ9_floorDiv_7cf53, Cond.static yJ9_floorDiv_7cf53, Cond.initialized RJ9, Cond.code yJ9_floorDiv_7cf53 cJ9_floorDiv_7cf53 3 (some .int), Cond.methodLink RX7 49 yX2_add, Cond.instanceMethod yX2_add, Cond.selects RX2 yX2_add yX2_add, Cond.code yX2_add cX2_add 3 none, Cond.methodLink RX2 19 yX2_get, Cond.methodLink RX2 23 yX2_set, Cond.methodLink RX8 171 yX5_isOn, Cond.instanceMethod yX5_isOn, Cond.selects RX5 yX5_isOn yX5_isOn, Cond.code yX5_isOn cX5_isOn 1 (some .boolean), Cond.methodLink RX8 263 yX7_greatestOfLastThree, Cond.instanceMethod yX7_greatestOfLastThree]
def wsL_law_r18 : List Cond := [Cond.selects RX7 yX7_greatestOfLastThree yX7_greatestOfLastThree, Cond.code yX7_greatestOfLastThree cX7_greatestOfLastThree 1 (some .int), Cond.methodLink RX7 61 Lib.Math.min.name, Cond.methodLink RX7 52 yX7_greatestOfLast, Cond.instanceMethod yX7_greatestOfLast, Cond.selects RX7 yX7_greatestOfLast yX7_greatestOfLast, Cond.code yX7_greatestOfLast cX7_greatestOfLast 4 (some .int), Cond.methodLink RX7 73 Lib.Math.max.name, Cond.methodLink RX7 55 yX2_get, Cond.methodLink RX8 266 yX7_byShare, Cond.instanceMethod yX7_byShare, Cond.selects RX7 yX7_byShare yX7_byShare, Cond.code yX7_byShare cX7_byShare 5 (some .int), Cond.methodLink RX7 58 yX7_countAbove, Cond.instanceMethod yX7_countAbove, Cond.selects RX7 yX7_countAbove yX7_countAbove, Cond.code yX7_countAbove cX7_countAbove 4 (some .int), Cond.methodLink RX8 269 yX7_byMean, Cond.instanceMethod yX7_byMean, Cond.selects RX7 yX7_byMean yX7_byMean, Cond.code yX7_byMean cX7_byMean 6 (some .int), Cond.methodLink RX7 70 Lib.Math.abs.name, Cond.methodLink RX7 67 yJ9_floorDiv_7cf53, Cond.methodLink RX8 272 yX4_timeInTurn]
def wsL_law_r19 : List Cond := [Cond.instanceMethod yX4_timeInTurn, Cond.selects RX4 yX4_timeInTurn yX4_timeInTurn, Cond.code yX4_timeInTurn cX4_timeInTurn 7 (some .int), Cond.methodLink RX4 62 Lib.Math.max.name, Cond.methodLink RX4 68 Lib.Math.min.name, Cond.methodLink RX4 59 yX4_headsBelow, Cond.instanceMethod yX4_headsBelow, Cond.selects RX4 yX4_headsBelow yX4_headsBelow, Cond.code yX4_headsBelow cX4_headsBelow 4 (some .int), Cond.methodLink RX8 276 yX4_add, Cond.instanceMethod yX4_add, Cond.selects RX4 yX4_add yX4_add, Cond.code yX4_add cX4_add 8 (some .int), Cond.methodLink RX4 71 yX2_set, Cond.methodLink RX8 118 yX8_settle, Cond.instanceMethod yX8_settle, Cond.selects RX8 yX8_settle yX8_settle, Cond.code yX8_settle cX8_settle 7 none, Cond.methodLink RX8 147 yX4_timeOf, Cond.instanceMethod yX4_timeOf, Cond.selects RX4 yX4_timeOf yX4_timeOf, Cond.code yX4_timeOf cX4_timeOf 2 (some .int), Cond.methodLink RX8 278 yX0_settle, Cond.instanceMethod yX0_settle]
def wsL_law_r20 : List Cond := [Cond.selects RX0 yX0_settle yX0_settle, Cond.code yX0_settle cX0_settle 4 none, Cond.methodLink RX8 280 yX4_countFrame, Cond.instanceMethod yX4_countFrame, Cond.selects RX4 yX4_countFrame yX4_countFrame, Cond.code yX4_countFrame cX4_countFrame 4 none, Cond.methodLink RX4 75 yX2_add, Cond.methodLink RL 39 yX9_arrive, Cond.instanceMethod yX9_arrive, Cond.selects RX9 yX9_arrive yX9_arrive, Cond.code yX9_arrive cX9_arrive 6 (some .int), Cond.fieldLink RX9 78 "SpurtClockModel" "came" "I", Cond.fieldLink RX9 75 "SpurtClockModel" "spurts" "I", Cond.methodLink RX9 88 yX9_isShut, Cond.instanceMethod yX9_isShut, Cond.selects RX9 yX9_isShut yX9_isShut, Cond.code yX9_isShut cX9_isShut 8 (some .boolean), Cond.methodLink RX9 81 yX9_spurtBy, Cond.instanceMethod yX9_spurtBy, Cond.selects RX9 yX9_spurtBy yX9_spurtBy, Cond.code yX9_spurtBy cX9_spurtBy 3 (some .int), Cond.methodLink RX9 84 yX9_isInTheWay, Cond.instanceMethod yX9_isInTheWay, Cond.selects RX9 yX9_isInTheWay yX9_isInTheWay]
def wsL_law_r21 : List Cond := [Cond.code yX9_isInTheWay cX9_isInTheWay 6 (some .boolean), Cond.methodLink RX9 91 yX9_spikesBy, Cond.instanceMethod yX9_spikesBy, Cond.selects RX9 yX9_spikesBy yX9_spikesBy, Cond.code yX9_spikesBy cX9_spikesBy 2 none, Cond.fieldLink RX9 99 "SpurtClockModel" "isSpike" "Z", Cond.fieldLink RX9 106 "SpurtClockModel" "base" "I", Cond.fieldLink RX9 109 "SpurtClockModel" "spikes" "I", Cond.methodLink RX9 103 yX9_delay, Cond.instanceMethod yX9_delay, Cond.selects RX9 yX9_delay yX9_delay, Cond.code yX9_delay cX9_delay 2 (some .int), Cond.methodLink RX9 95 yX9_timeFor, Cond.instanceMethod yX9_timeFor, Cond.selects RX9 yX9_timeFor yX9_timeFor, Cond.code yX9_timeFor cX9_timeFor 6 (some .int), Cond.methodLink RX9 140 yX9_wishFor, Cond.instanceMethod yX9_wishFor, Cond.selects RX9 yX9_wishFor yX9_wishFor, Cond.code yX9_wishFor cX9_wishFor 5 (some .int), Cond.fieldLink RX9 122 "SpurtClockModel" "up" "J", Cond.fieldLink RX9 126 "SpurtClockModel" "by" "J", Cond.methodLink RX9 119 yX9_findDrift, Cond.instanceMethod yX9_findDrift]
def wsL_law_r22 : List Cond := [Cond.selects RX9 yX9_findDrift yX9_findDrift, Cond.code yX9_findDrift cX9_findDrift 12 none, Cond.methodLink RX9 173 yX9_isUnder, Cond.instanceMethod yX9_isUnder, Cond.selects RX9 yX9_isUnder yX9_isUnder, Cond.code yX9_isUnder cX9_isUnder 8 (some .boolean), Cond.methodLink RX9 112 yX9_oldest, Cond.instanceMethod yX9_oldest, Cond.selects RX9 yX9_oldest yX9_oldest, Cond.code yX9_oldest cX9_oldest 1 (some .int), Cond.methodLink RX9 115 yX9_down, Cond.static yX9_down, Cond.code yX9_down cX9_down 4 (some .long), Cond.methodLink RX9 129 yX9_farBy, Cond.instanceMethod yX9_farBy, Cond.selects RX9 yX9_farBy yX9_farBy, Cond.code yX9_farBy cX9_farBy 11 (some .long), Cond.methodLink RX9 133 yX9_latelyMost, Cond.instanceMethod yX9_latelyMost, Cond.selects RX9 yX9_latelyMost yX9_latelyMost, Cond.code yX9_latelyMost cX9_latelyMost 4 (some .long), Cond.methodLink RX9 137 yX9_leastBy, Cond.instanceMethod yX9_leastBy, Cond.selects RX9 yX9_leastBy yX9_leastBy]
def wsL_law_r23 : List Cond := [Cond.code yX9_leastBy cX9_leastBy 8 (some .long), Cond.methodLink RX9 143 yX9_beside, Cond.instanceMethod yX9_beside, Cond.selects RX9 yX9_beside yX9_beside, Cond.code yX9_beside cX9_beside 7 (some .int), Cond.methodLink RL 40 yX8_anew, Cond.instanceMethod yX8_anew, Cond.selects RX8 yX8_anew yX8_anew, Cond.code yX8_anew cX8_anew 2 (some .int), Cond.methodLink RX8 125 yX0_clear, Cond.instanceMethod yX0_clear, Cond.selects RX0 yX0_clear yX0_clear, Cond.code yX0_clear cX0_clear 2 none, Cond.methodLink RX8 126 yX4_clear, Cond.instanceMethod yX4_clear, Cond.selects RX4 yX4_clear yX4_clear, Cond.code yX4_clear cX4_clear 1 none, Cond.methodLink RX8 127 yX5_clear, Cond.instanceMethod yX5_clear, Cond.selects RX5 yX5_clear yX5_clear, Cond.code yX5_clear cX5_clear 1 none, Cond.methodLink RL 43 yX9_anew, Cond.instanceMethod yX9_anew, Cond.selects RX9 yX9_anew yX9_anew]
def wsL_law_r24 : List Cond := [Cond.code yX9_anew cX9_anew 3 (some .int), Cond.methodLink RL 44 yX8_ofFrame, Cond.instanceMethod yX8_ofFrame, Cond.selects RX8 yX8_ofFrame yX8_ofFrame, Cond.code yX8_ofFrame cX8_ofFrame 4 (some .int), Cond.methodLink RX8 131 yX0_whenAt, Cond.instanceMethod yX0_whenAt, Cond.selects RX0 yX0_whenAt yX0_whenAt, Cond.code yX0_whenAt cX0_whenAt 2 (some .int), Cond.methodLink RX8 134 yX0_spurtAt, Cond.instanceMethod yX0_spurtAt, Cond.selects RX0 yX0_spurtAt yX0_spurtAt, Cond.code yX0_spurtAt cX0_spurtAt 2 (some .int), Cond.methodLink RX8 137 yX0_playedAt, Cond.instanceMethod yX0_playedAt, Cond.selects RX0 yX0_playedAt yX0_playedAt, Cond.code yX0_playedAt cX0_playedAt 2 (some .int), Cond.methodLink RL 48 yX9_ofFrame, Cond.instanceMethod yX9_ofFrame, Cond.selects RX9 yX9_ofFrame yX9_ofFrame, Cond.code yX9_ofFrame cX9_ofFrame 4 (some .int), Cond.methodLink RX9 147 yX9_isPlayed, Cond.instanceMethod yX9_isPlayed, Cond.selects RX9 yX9_isPlayed yX9_isPlayed]
def wsL_law_r25 : List Cond := [Cond.code yX9_isPlayed cX9_isPlayed 2 (some .boolean), Cond.methodLink RX9 151 yX9_playedAt, Cond.instanceMethod yX9_playedAt, Cond.selects RX9 yX9_playedAt yX9_playedAt, Cond.code yX9_playedAt cX9_playedAt 2 (some .int), Cond.methodLink RL 49 yX8_ofSpurt, Cond.instanceMethod yX8_ofSpurt, Cond.selects RX8 yX8_ofSpurt yX8_ofSpurt, Cond.code yX8_ofSpurt cX8_ofSpurt 3 (some .int), Cond.methodLink RX8 140 yX4_count, Cond.instanceMethod yX4_count, Cond.selects RX4 yX4_count yX4_count, Cond.code yX4_count cX4_count 1 (some .int), Cond.methodLink RX8 141 yX4_headOf, Cond.instanceMethod yX4_headOf, Cond.selects RX4 yX4_headOf yX4_headOf, Cond.code yX4_headOf cX4_headOf 2 (some .int), Cond.methodLink RX8 144 yX4_pauseOf, Cond.instanceMethod yX4_pauseOf, Cond.selects RX4 yX4_pauseOf yX4_pauseOf, Cond.code yX4_pauseOf cX4_pauseOf 2 (some .int), Cond.methodLink RX8 150 yX4_cameOf, Cond.instanceMethod yX4_cameOf, Cond.selects RX4 yX4_cameOf yX4_cameOf]
def wsL_law_r26 : List Cond := [Cond.code yX4_cameOf cX4_cameOf 2 (some .int), Cond.methodLink RX8 153 yX4_playedOf, Cond.instanceMethod yX4_playedOf, Cond.selects RX4 yX4_playedOf yX4_playedOf, Cond.code yX4_playedOf cX4_playedOf 2 (some .int), Cond.methodLink RX8 156 yX4_missingOf, Cond.instanceMethod yX4_missingOf, Cond.selects RX4 yX4_missingOf yX4_missingOf, Cond.code yX4_missingOf cX4_missingOf 2 (some .int), Cond.methodLink RX8 159 yX4_greatestOf, Cond.instanceMethod yX4_greatestOf, Cond.selects RX4 yX4_greatestOf yX4_greatestOf, Cond.code yX4_greatestOf cX4_greatestOf 2 (some .int), Cond.methodLink RX8 162 yX4_mannerOf, Cond.instanceMethod yX4_mannerOf, Cond.selects RX4 yX4_mannerOf yX4_mannerOf, Cond.code yX4_mannerOf cX4_mannerOf 2 (some .int), Cond.methodLink RL 52 yX9_ofSpurt, Cond.instanceMethod yX9_ofSpurt, Cond.selects RX9 yX9_ofSpurt yX9_ofSpurt, Cond.code yX9_ofSpurt cX9_ofSpurt 3 (some .int), Cond.fieldLink RX9 154 "SpurtClockModel" "cameOf" "I", Cond.fieldLink RX9 157 "SpurtClockModel" "playedOf" "I", Cond.fieldLink RX9 160 "SpurtClockModel" "greatest" "I"]
def wsL_law_r27 : List Cond := [Cond.methodLink RX9 166 yX9_isSpurt, Cond.instanceMethod yX9_isSpurt, Cond.selects RX9 yX9_isSpurt yX9_isSpurt, Cond.code yX9_isSpurt cX9_isSpurt 2 (some .boolean), Cond.methodLink RX9 163 yX9_counts, Cond.instanceMethod yX9_counts, Cond.selects RX9 yX9_counts yX9_counts, Cond.code yX9_counts cX9_counts 3 none, Cond.methodLink RX9 169 yX9_missing, Cond.instanceMethod yX9_missing, Cond.selects RX9 yX9_missing yX9_missing, Cond.code yX9_missing cX9_missing 2 (some .int), Cond.methodLink RL 53 yX8_inOrder, Cond.instanceMethod yX8_inOrder, Cond.selects RX8 yX8_inOrder yX8_inOrder, Cond.code yX8_inOrder cX8_inOrder 2 (some .int), Cond.methodLink RX8 165 yX4_atRank, Cond.instanceMethod yX4_atRank, Cond.selects RX4 yX4_atRank yX4_atRank, Cond.code yX4_atRank cX4_atRank 2 (some .int), Cond.methodLink RL 56 yX9_inOrder, Cond.instanceMethod yX9_inOrder, Cond.selects RX9 yX9_inOrder yX9_inOrder, Cond.code yX9_inOrder cX9_inOrder 5 (some .int)]
def wsL_law_r28 : List Cond := [Cond.methodLink RL 57 yX8_wish, Cond.instanceMethod yX8_wish, Cond.selects RX8 yX8_wish yX8_wish, Cond.code yX8_wish cX8_wish 2 (some .int), Cond.methodLink RL 60 yX9_wish, Cond.instanceMethod yX9_wish, Cond.selects RX9 yX9_wish yX9_wish, Cond.code yX9_wish cX9_wish 2 (some .int), Cond.methodLink RL 61 yX8_spike, Cond.instanceMethod yX8_spike, Cond.selects RX8 yX8_spike yX8_spike, Cond.code yX8_spike cX8_spike 2 (some .int), Cond.methodLink RX8 175 yX5_base, Cond.instanceMethod yX5_base, Cond.selects RX5 yX5_base yX5_base, Cond.code yX5_base cX5_base 1 (some .int), Cond.methodLink RL 64 yX9_spike, Cond.instanceMethod yX9_spike, Cond.selects RX9 yX9_spike yX9_spike, Cond.code yX9_spike cX9_spike 2 (some .int), Cond.methodLink RL 65 yX8_late, Cond.instanceMethod yX8_late, Cond.selects RX8 yX8_late yX8_late, Cond.code yX8_late cX8_late 2 (some .int)]
def wsL_law_r29 : List Cond := [Cond.constant RX8 178 (40000), Cond.methodLink RX8 179 yX0_historySize, Cond.methodLink RX8 182 yX0_delaysAbove, Cond.instanceMethod yX0_delaysAbove, Cond.selects RX0 yX0_delaysAbove yX0_delaysAbove, Cond.code yX0_delaysAbove cX0_delaysAbove 5 (some .int), Cond.methodLink RX0 46 yX0_delayAt, Cond.methodLink RL 68 yX9_late, Cond.instanceMethod yX9_late, Cond.selects RX9 yX9_late yX9_late, Cond.code yX9_late cX9_late 4 (some .int), Cond.constant RX9 172 (40000), Cond.methodLink RL 69 yX8_history, Cond.instanceMethod yX8_history, Cond.selects RX8 yX8_history yX8_history, Cond.code yX8_history cX8_history 2 (some .int), Cond.methodLink RX8 185 yX0_lastPlace, Cond.methodLink RL 72 yX9_history, Cond.instanceMethod yX9_history, Cond.selects RX9 yX9_history yX9_history, Cond.code yX9_history cX9_history 2 (some .int), Cond.methodLink RL 73 yX8_loss, Cond.instanceMethod yX8_loss, Cond.selects RX8 yX8_loss yX8_loss]
def wsL_law_r30 : List Cond := [Cond.code yX8_loss cX8_loss 2 (some .int), Cond.methodLink RL 76 yX9_loss, Cond.instanceMethod yX9_loss, Cond.selects RX9 yX9_loss yX9_loss, Cond.code yX9_loss cX9_loss 4 (some .int), Cond.methodLink RL 77 yX8_drift, Cond.instanceMethod yX8_drift, Cond.selects RX8 yX8_drift yX8_drift, Cond.code yX8_drift cX8_drift 2 (some .long), Cond.constantLong RX8 198 (-9223372036854775808), Cond.methodLink RX8 192 yX1_upper, Cond.instanceMethod yX1_upper, Cond.selects RX1 yX1_upper yX1_upper, Cond.code yX1_upper cX1_upper 1 (some .int), Cond.methodLink RX8 195 yX1_lower, Cond.instanceMethod yX1_lower, Cond.selects RX1 yX1_lower yX1_lower, Cond.code yX1_lower cX1_lower 1 (some .int), Cond.methodLink RL 81 yX9_drift, Cond.instanceMethod yX9_drift, Cond.selects RX9 yX9_drift yX9_drift, Cond.code yX9_drift cX9_drift 2 (some .long), Cond.constantLong RX9 177 (-9223372036854775808), Cond.methodLink RL 82 yX8_waiting]
def wsL_law_r31 : List Cond := [Cond.instanceMethod yX8_waiting, Cond.selects RX8 yX8_waiting yX8_waiting, Cond.code yX8_waiting cX8_waiting 4 (some .int), Cond.constant RX8 200 (100000), Cond.methodLink RL 85 yX9_waiting, Cond.instanceMethod yX9_waiting, Cond.selects RX9 yX9_waiting yX9_waiting, Cond.code yX9_waiting cX9_waiting 4 (some .int), Cond.constant RX9 179 (100000), Cond.methodLink RL 86 yX8_playing, Cond.instanceMethod yX8_playing, Cond.selects RX8 yX8_playing yX8_playing, Cond.code yX8_playing cX8_playing 4 (some .int), Cond.methodLink RX8 201 yX0_frameAt, Cond.methodLink RL 89 yX9_playing, Cond.instanceMethod yX9_playing, Cond.selects RX9 yX9_playing yX9_playing, Cond.code yX9_playing cX9_playing 3 (some .int), Cond.methodLink RL 90 yX8_text, Cond.instanceMethod yX8_text, Cond.selects RX8 yX8_text yX8_text, Cond.code yX8_text cX8_text 5 (some .int), Cond.methodLink RX8 204 yX8_writeOpening, Cond.instanceMethod yX8_writeOpening]
def wsL_law_r32 : List Cond := [Cond.selects RX8 yX8_writeOpening yX8_writeOpening, Cond.code yX8_writeOpening cX8_writeOpening 2 none, Cond.methodLink RX8 284 yX3_clear, Cond.instanceMethod yX3_clear, Cond.selects RX3 yX3_clear yX3_clear, Cond.code yX3_clear cX3_clear 1 none, Cond.fieldLink RX3 20 "SpurtClock$Sheet" "size" "I", Cond.methodLink RX8 285 yX3_put, Cond.instanceMethod yX3_put, Cond.selects RX3 yX3_put yX3_put, Cond.code yX3_put cX3_put 2 none, Cond.methodLink RX3 28 yX2_set, Cond.methodLink RX8 288 yX3_putNumber, Cond.instanceMethod yX3_putNumber, Cond.selects RX3 yX3_putNumber yX3_putNumber, Cond.code yX3_putNumber cX3_putNumber 6 none, Cond.constant RX3 45 (1000000000), Cond.methodLink RX3 42 yX3_put, Cond.methodLink RX8 291 yX3_putWord, Cond.instanceMethod yX3_putWord, Cond.selects RX3 yX3_putWord yX3_putWord, Cond.code yX3_putWord cX3_putWord 3 none, Cond.methodLink RX3 32 yJ0_length_8abf5, Cond.methodLink RX3 38 yJ0_charAt_5068e]
def wsL_law_r33 : List Cond := [Cond.methodLink RX8 207 yX3_size, Cond.instanceMethod yX3_size, Cond.selects RX3 yX3_size yX3_size, Cond.code yX3_size cX3_size 1 (some .int), Cond.methodLink RX8 208 yX3_codeAt, Cond.instanceMethod yX3_codeAt, Cond.selects RX3 yX3_codeAt yX3_codeAt, Cond.code yX3_codeAt cX3_codeAt 2 (some .int), Cond.methodLink RX3 24 yX2_get, Cond.methodLink RX8 211 yX8_signOfFrame, Cond.instanceMethod yX8_signOfFrame, Cond.selects RX8 yX8_signOfFrame yX8_signOfFrame, Cond.code yX8_signOfFrame cX8_signOfFrame 3 (some .int), Cond.methodLink RL 93 yX9_text, Cond.instanceMethod yX9_text, Cond.selects RX9 yX9_text yX9_text, Cond.code yX9_text cX9_text 3 (some .int), Cond.fieldLink RX9 180 "SpurtClockModel" "written" "I", Cond.methodLink RX9 189 yX9_writesSpurt, Cond.instanceMethod yX9_writesSpurt, Cond.selects RX9 yX9_writesSpurt yX9_writesSpurt, Cond.code yX9_writesSpurt cX9_writesSpurt 3 none, Cond.methodLink RX9 183 yX9_writes, Cond.instanceMethod yX9_writes]
def wsL_law_r34 : List Cond := [Cond.selects RX9 yX9_writes yX9_writes, Cond.code yX9_writes cX9_writes 2 none, Cond.methodLink RX9 186 yX9_writesNumber, Cond.instanceMethod yX9_writesNumber, Cond.selects RX9 yX9_writesNumber yX9_writesNumber, Cond.code yX9_writesNumber cX9_writesNumber 4 none, Cond.methodLink RL 94 yX8_word, Cond.instanceMethod yX8_word, Cond.selects RX8 yX8_word yX8_word, Cond.code yX8_word cX8_word 3 (some .int), Cond.methodLink RX8 218 yJ0_length_8abf5, Cond.methodLink RX8 223 yJ0_charAt_5068e, Cond.methodLink RL 97 yX9_word, Cond.instanceMethod yX9_word, Cond.selects RX9 yX9_word yX9_word, Cond.code yX9_word cX9_word 2 (some .int), Cond.methodLink RL 98 yX8_many, Cond.instanceMethod yX8_many, Cond.selects RX8 yX8_many yX8_many, Cond.code yX8_many cX8_many 2 (some .int), Cond.methodLink RX8 227 yX4_playedOfAll, Cond.instanceMethod yX4_playedOfAll, Cond.selects RX4 yX4_playedOfAll yX4_playedOfAll, Cond.code yX4_playedOfAll cX4_playedOfAll 3 (some .int)]
def wsL_law_r35 : List Cond := [Cond.methodLink RX4 49 yX4_playedOf, Cond.methodLink RX8 230 yX4_missingOfAll, Cond.instanceMethod yX4_missingOfAll, Cond.selects RX4 yX4_missingOfAll yX4_missingOfAll, Cond.code yX4_missingOfAll cX4_missingOfAll 3 (some .int), Cond.methodLink RX4 52 yX4_missingOf, Cond.methodLink RX8 233 yX5_begun, Cond.instanceMethod yX5_begun, Cond.selects RX5 yX5_begun yX5_begun, Cond.code yX5_begun cX5_begun 1 (some .int), Cond.methodLink RL 101 yX9_many, Cond.instanceMethod yX9_many, Cond.selects RX9 yX9_many yX9_many, Cond.code yX9_many cX9_many 5 (some .int)]
def wsL_law : List Cond := (wsL_law_r1 ++ (wsL_law_r2 ++ (wsL_law_r3 ++ (wsL_law_r4 ++ (wsL_law_r5 ++ (wsL_law_r6 ++ (wsL_law_r7 ++ (wsL_law_r8 ++ (wsL_law_r9 ++ (wsL_law_r10 ++ (wsL_law_r11 ++ (wsL_law_r12 ++ (wsL_law_r13 ++ (wsL_law_r14 ++ (wsL_law_r15 ++ (wsL_law_r16 ++ (wsL_law_r17 ++ (wsL_law_r18 ++ (wsL_law_r19 ++ (wsL_law_r20 ++ (wsL_law_r21 ++ (wsL_law_r22 ++ (wsL_law_r23 ++ (wsL_law_r24 ++ (wsL_law_r25 ++ (wsL_law_r26 ++ (wsL_law_r27 ++ (wsL_law_r28 ++ (wsL_law_r29 ++ (wsL_law_r30 ++ (wsL_law_r31 ++ (wsL_law_r32 ++ (wsL_law_r33 ++ (wsL_law_r34 ++ wsL_law_r35)))))))))))))))))))))))))))))))))) ++ wsX80 ++ wsX90 ++ wsX60 ++ wsX00 ++ wsX40 ++ wsX50 ++ wsX10 ++ wsX70 ++ wsX30 ++ wsX20 ++ ([] : List Cond)
set_option maxRecDepth 20000 in
theorem wsL_law_in : ∀ w ∈ wsL_law, w ∈ lw_tbl := fun w h => (goodIn_p wsL_law [59, 62, 67, 73, 77, 94, 121, 157, 173, 197, 212, 756, 260, 263, 267, 271, 275, 847, 850, 279, 283, 854, 287, 291, 294, 303, 307, 311, 317, 321, 324, 327, 332, 335, 338, 341, 345, 355, 358, 361, 858, 862, 866, 366, 870, 370, 874, 374, 378, 382, 387, 391, 396, 400, 404, 409, 413, 417, 421, 425, 429, 433, 436, 440, 446, 452, 456, 462, 466, 469, 472, 476, 480, 484, 487, 491, 497, 501, 506, 512, 516, 520, 526, 530, 536, 541, 545, 549, 553, 878, 882, 886, 890, 894, 898, 902, 906, 910, 914, 918, 921, 925, 929, 933, 937, 558, 562, 566, 570, 941, 574, 578, 582, 586, 945, 949, 953, 590, 594, 598, 602, 606, 610, 614, 618, 622, 957, 961, 965, 969, 626, 630, 973, 634, 977, 638, 642, 981, 646, 652, 985, 657, 990, 662, 994, 666, 670, 674, 998, 679, 1003, 684, 1008, 689, 693, 697, 701, 706, 712, 718, 722, 727, 1012, 1016, 1020, 1024, 731, 1028, 737, 741, 746, 751, 1032] (by decide +kernel) (by decide +kernel) w h).1
theorem inlX0 : ∀ w ∈ wsX00, w ∈ wsL_law := fun _ h => List.mem_append_left _ (List.mem_append_left _ (List.mem_append_left _ (List.mem_append_left _ (List.mem_append_left _ (List.mem_append_left _ (List.mem_append_left _ (List.mem_append_right _ h)))))))
theorem inX0 : ∀ w ∈ wsX00, w ∈ lw_tbl := fun w h => wsL_law_in w (inlX0 w h)
theorem inlX1 : ∀ w ∈ wsX10, w ∈ wsL_law := fun _ h => List.mem_append_left _ (List.mem_append_left _ (List.mem_append_left _ (List.mem_append_left _ (List.mem_append_right _ h))))
theorem inX1 : ∀ w ∈ wsX10, w ∈ lw_tbl := fun w h => wsL_law_in w (inlX1 w h)
theorem inlX2 : ∀ w ∈ wsX20, w ∈ wsL_law := fun _ h => List.mem_append_left _ (List.mem_append_right _ h)
theorem inX2 : ∀ w ∈ wsX20, w ∈ lw_tbl := fun w h => wsL_law_in w (inlX2 w h)
theorem inlX3 : ∀ w ∈ wsX30, w ∈ wsL_law := fun _ h => List.mem_append_left _ (List.mem_append_left _ (List.mem_append_right _ h))
theorem inX3 : ∀ w ∈ wsX30, w ∈ lw_tbl := fun w h => wsL_law_in w (inlX3 w h)
theorem inlX4 : ∀ w ∈ wsX40, w ∈ wsL_law := fun _ h => List.mem_append_left _ (List.mem_append_left _ (List.mem_append_left _ (List.mem_append_left _ (List.mem_append_left _ (List.mem_append_left _ (List.mem_append_right _ h))))))
theorem inX4 : ∀ w ∈ wsX40, w ∈ lw_tbl := fun w h => wsL_law_in w (inlX4 w h)
theorem inlX5 : ∀ w ∈ wsX50, w ∈ wsL_law := fun _ h => List.mem_append_left _ (List.mem_append_left _ (List.mem_append_left _ (List.mem_append_left _ (List.mem_append_left _ (List.mem_append_right _ h)))))
theorem inX5 : ∀ w ∈ wsX50, w ∈ lw_tbl := fun w h => wsL_law_in w (inlX5 w h)
theorem inlX6 : ∀ w ∈ wsX60, w ∈ wsL_law := fun _ h => List.mem_append_left _ (List.mem_append_left _ (List.mem_append_left _ (List.mem_append_left _ (List.mem_append_left _ (List.mem_append_left _ (List.mem_append_left _ (List.mem_append_left _ (List.mem_append_right _ h))))))))
theorem inX6 : ∀ w ∈ wsX60, w ∈ lw_tbl := fun w h => wsL_law_in w (inlX6 w h)
theorem inlX7 : ∀ w ∈ wsX70, w ∈ wsL_law := fun _ h => List.mem_append_left _ (List.mem_append_left _ (List.mem_append_left _ (List.mem_append_right _ h)))
theorem inX7 : ∀ w ∈ wsX70, w ∈ lw_tbl := fun w h => wsL_law_in w (inlX7 w h)
theorem inlX8 : ∀ w ∈ wsX80, w ∈ wsL_law := fun _ h => List.mem_append_left _ (List.mem_append_left _ (List.mem_append_left _ (List.mem_append_left _ (List.mem_append_left _ (List.mem_append_left _ (List.mem_append_left _ (List.mem_append_left _ (List.mem_append_left _ (List.mem_append_left _ (List.mem_append_right _ h))))))))))
theorem inX8 : ∀ w ∈ wsX80, w ∈ lw_tbl := fun w h => wsL_law_in w (inlX8 w h)
theorem inlX9 : ∀ w ∈ wsX90, w ∈ wsL_law := fun _ h => List.mem_append_left _ (List.mem_append_left _ (List.mem_append_left _ (List.mem_append_left _ (List.mem_append_left _ (List.mem_append_left _ (List.mem_append_left _ (List.mem_append_left _ (List.mem_append_left _ (List.mem_append_right _ h)))))))))
theorem inX9 : ∀ w ∈ wsX90, w ∈ lw_tbl := fun w h => wsL_law_in w (inlX9 w h)
theorem inJ9 : ∀ w ∈ wsJ90, w ∈ lw_tbl := by decide +kernel
theorem inJ0 : ∀ w ∈ wsJ00, w ∈ lw_tbl := by decide +kernel
theorem inJ1 : ∀ w ∈ wsJ10, w ∈ lw_tbl := by decide +kernel
theorem inJ2 : ∀ w ∈ wsJ20, w ∈ lw_tbl := by decide +kernel
theorem inJ3 : ∀ w ∈ wsJ30, w ∈ lw_tbl := by decide +kernel
abbrev vwCl : List vw_C := [(RX0, TX0, 6), (RX1, TX1, 5), (RX2, TX2, 1), (RX3, TX3, 2), (RX4, TX4, 9), (RX5, TX5, 3), (RX6, TX6, 2), (RX7, TX7, 2), (RX8, TX8, 11), (RX9, TX9, 28)]
end
section
set_option maxRecDepth 20000 in
theorem ggX0_init_X2_init : GoodIn wsX0_init wsX2_init := goodIn_r _ [14, 15, 2, 3, 16, 17, 18, 19, 20, 21, 22] (by decide +kernel) (by decide +kernel)
set_option maxRecDepth 20000 in
theorem gX0_init_X2_init : GoodIn wsX0_init (wsX2_init) := ggX0_init_X2_init
theorem dX0_init_0 : decode cX0_init 0 = .ok (.aload_n 0, 1) := by decide +kernel
theorem dX0_init_1 : decode cX0_init 1 = .ok (.invokespecial 3, 3) := by decide +kernel
theorem dX0_init_4 : decode cX0_init 4 = .ok (.aload_n 0, 1) := by decide +kernel
theorem dX0_init_5 : decode cX0_init 5 = .ok (.new 9, 3) := by decide +kernel
theorem dX0_init_8 : decode cX0_init 8 = .ok (.dup, 1) := by decide +kernel
theorem dX0_init_9 : decode cX0_init 9 = .ok (.sipush 300, 3) := by decide +kernel
theorem dX0_init_12 : decode cX0_init 12 = .ok (.invokespecial 11, 3) := by decide +kernel
theorem dX0_init_15 : decode cX0_init 15 = .ok (.putfield 14, 3) := by decide +kernel
theorem dX0_init_18 : decode cX0_init 18 = .ok (.aload_n 0, 1) := by decide +kernel
theorem dX0_init_19 : decode cX0_init 19 = .ok (.new 9, 3) := by decide +kernel
theorem dX0_init_22 : decode cX0_init 22 = .ok (.dup, 1) := by decide +kernel
theorem dX0_init_23 : decode cX0_init 23 = .ok (.bipush 120, 2) := by decide +kernel
theorem dX0_init_25 : decode cX0_init 25 = .ok (.invokespecial 11, 3) := by decide +kernel
theorem dX0_init_28 : decode cX0_init 28 = .ok (.putfield 20, 3) := by decide +kernel
theorem dX0_init_31 : decode cX0_init 31 = .ok (.aload_n 0, 1) := by decide +kernel
theorem dX0_init_32 : decode cX0_init 32 = .ok (.new 9, 3) := by decide +kernel
theorem dX0_init_35 : decode cX0_init 35 = .ok (.dup, 1) := by decide +kernel
theorem dX0_init_36 : decode cX0_init 36 = .ok (.bipush 120, 2) := by decide +kernel
theorem dX0_init_38 : decode cX0_init 38 = .ok (.invokespecial 11, 3) := by decide +kernel
theorem dX0_init_41 : decode cX0_init 41 = .ok (.putfield 23, 3) := by decide +kernel
theorem dX0_init_44 : decode cX0_init 44 = .ok (.aload_n 0, 1) := by decide +kernel
theorem dX0_init_45 : decode cX0_init 45 = .ok (.new 9, 3) := by decide +kernel
theorem dX0_init_48 : decode cX0_init 48 = .ok (.dup, 1) := by decide +kernel
theorem dX0_init_49 : decode cX0_init 49 = .ok (.bipush 120, 2) := by decide +kernel
theorem dX0_init_51 : decode cX0_init 51 = .ok (.invokespecial 11, 3) := by decide +kernel
theorem dX0_init_54 : decode cX0_init 54 = .ok (.putfield 26, 3) := by decide +kernel
theorem dX0_init_57 : decode cX0_init 57 = .ok (.aload_n 0, 1) := by decide +kernel
theorem dX0_init_58 : decode cX0_init 58 = .ok (.new 9, 3) := by decide +kernel
theorem dX0_init_61 : decode cX0_init 61 = .ok (.dup, 1) := by decide +kernel
theorem dX0_init_62 : decode cX0_init 62 = .ok (.bipush 120, 2) := by decide +kernel
theorem dX0_init_64 : decode cX0_init 64 = .ok (.invokespecial 11, 3) := by decide +kernel
theorem dX0_init_67 : decode cX0_init 67 = .ok (.putfield 29, 3) := by decide +kernel
theorem dX0_init_70 : decode cX0_init 70 = .ok (.return_, 1) := by decide +kernel
theorem dX0_count_0 : decode cX0_count 0 = .ok (.aload_n 0, 1) := by decide +kernel
theorem dX0_count_1 : decode cX0_count 1 = .ok (.getfield 32, 3) := by decide +kernel
theorem dX0_count_4 : decode cX0_count 4 = .ok (.ireturn, 1) := by decide +kernel
theorem dX0_lastPlace_0 : decode cX0_lastPlace 0 = .ok (.aload_n 0, 1) := by decide +kernel
theorem dX0_lastPlace_1 : decode cX0_lastPlace 1 = .ok (.getfield 32, 3) := by decide +kernel
theorem dX0_lastPlace_4 : decode cX0_lastPlace 4 = .ok (.iconst 1, 1) := by decide +kernel
theorem dX0_lastPlace_5 : decode cX0_lastPlace 5 = .ok (.isub, 1) := by decide +kernel
theorem dX0_lastPlace_6 : decode cX0_lastPlace 6 = .ok (.ireturn, 1) := by decide +kernel
theorem dX0_historySize_0 : decode cX0_historySize 0 = .ok (.aload_n 0, 1) := by decide +kernel
theorem dX0_historySize_1 : decode cX0_historySize 1 = .ok (.getfield 32, 3) := by decide +kernel
theorem dX0_historySize_4 : decode cX0_historySize 4 = .ok (.bipush 32, 2) := by decide +kernel
theorem dX0_historySize_6 : decode cX0_historySize 6 = .ok (.invokestatic 36, 3) := by decide +kernel
theorem dX0_historySize_9 : decode cX0_historySize 9 = .ok (.ireturn, 1) := by decide +kernel
set_option maxRecDepth 20000 in
theorem ggX0_placeOf_X2_get : GoodIn wsX0_placeOf wsX2_get := goodIn_r _ [6, 7, 14] (by decide +kernel) (by decide +kernel)
set_option maxRecDepth 20000 in
theorem gX0_placeOf_X2_get : GoodIn wsX0_placeOf (wsV RX0 42 RX2 yX2_get wsX2_get) := goodIn_app (goodIn_of _ (by decide +kernel)) ggX0_placeOf_X2_get
theorem dX0_placeOf_0 : decode cX0_placeOf 0 = .ok (.aload_n 0, 1) := by decide +kernel
theorem dX0_placeOf_1 : decode cX0_placeOf 1 = .ok (.getfield 14, 3) := by decide +kernel
theorem dX0_placeOf_4 : decode cX0_placeOf 4 = .ok (.iload_n 1, 1) := by decide +kernel
theorem dX0_placeOf_5 : decode cX0_placeOf 5 = .ok (.invokevirtual 42, 3) := by decide +kernel
theorem dX0_placeOf_8 : decode cX0_placeOf 8 = .ok (.iconst 1, 1) := by decide +kernel
theorem dX0_placeOf_9 : decode cX0_placeOf 9 = .ok (.isub, 1) := by decide +kernel
theorem dX0_placeOf_10 : decode cX0_placeOf 10 = .ok (.ireturn, 1) := by decide +kernel
set_option maxRecDepth 20000 in
theorem ggX0_frameAt_X2_get : GoodIn wsX0_frameAt wsX2_get := goodIn_r _ [6, 7, 14] (by decide +kernel) (by decide +kernel)
set_option maxRecDepth 20000 in
theorem gX0_frameAt_X2_get : GoodIn wsX0_frameAt (wsV RX0 42 RX2 yX2_get wsX2_get) := goodIn_app (goodIn_of _ (by decide +kernel)) ggX0_frameAt_X2_get
theorem dX0_frameAt_0 : decode cX0_frameAt 0 = .ok (.aload_n 0, 1) := by decide +kernel
theorem dX0_frameAt_1 : decode cX0_frameAt 1 = .ok (.getfield 20, 3) := by decide +kernel
theorem dX0_frameAt_4 : decode cX0_frameAt 4 = .ok (.iload_n 1, 1) := by decide +kernel
theorem dX0_frameAt_5 : decode cX0_frameAt 5 = .ok (.invokevirtual 42, 3) := by decide +kernel
theorem dX0_frameAt_8 : decode cX0_frameAt 8 = .ok (.ireturn, 1) := by decide +kernel
set_option maxRecDepth 20000 in
theorem ggX0_whenAt_X2_get : GoodIn wsX0_whenAt wsX2_get := goodIn_r _ [6, 7, 14] (by decide +kernel) (by decide +kernel)
set_option maxRecDepth 20000 in
theorem gX0_whenAt_X2_get : GoodIn wsX0_whenAt (wsV RX0 42 RX2 yX2_get wsX2_get) := goodIn_app (goodIn_of _ (by decide +kernel)) ggX0_whenAt_X2_get
theorem dX0_whenAt_0 : decode cX0_whenAt 0 = .ok (.aload_n 0, 1) := by decide +kernel
theorem dX0_whenAt_1 : decode cX0_whenAt 1 = .ok (.getfield 23, 3) := by decide +kernel
theorem dX0_whenAt_4 : decode cX0_whenAt 4 = .ok (.iload_n 1, 1) := by decide +kernel
theorem dX0_whenAt_5 : decode cX0_whenAt 5 = .ok (.invokevirtual 42, 3) := by decide +kernel
theorem dX0_whenAt_8 : decode cX0_whenAt 8 = .ok (.ireturn, 1) := by decide +kernel
set_option maxRecDepth 20000 in
theorem ggX0_spurtAt_X2_get : GoodIn wsX0_spurtAt wsX2_get := goodIn_r _ [6, 7, 14] (by decide +kernel) (by decide +kernel)
set_option maxRecDepth 20000 in
theorem gX0_spurtAt_X2_get : GoodIn wsX0_spurtAt (wsV RX0 42 RX2 yX2_get wsX2_get) := goodIn_app (goodIn_of _ (by decide +kernel)) ggX0_spurtAt_X2_get
theorem dX0_spurtAt_0 : decode cX0_spurtAt 0 = .ok (.aload_n 0, 1) := by decide +kernel
theorem dX0_spurtAt_1 : decode cX0_spurtAt 1 = .ok (.getfield 26, 3) := by decide +kernel
theorem dX0_spurtAt_4 : decode cX0_spurtAt 4 = .ok (.iload_n 1, 1) := by decide +kernel
theorem dX0_spurtAt_5 : decode cX0_spurtAt 5 = .ok (.invokevirtual 42, 3) := by decide +kernel
theorem dX0_spurtAt_8 : decode cX0_spurtAt 8 = .ok (.ireturn, 1) := by decide +kernel
set_option maxRecDepth 20000 in
theorem ggX0_playedAt_X2_get : GoodIn wsX0_playedAt wsX2_get := goodIn_r _ [6, 7, 14] (by decide +kernel) (by decide +kernel)
set_option maxRecDepth 20000 in
theorem gX0_playedAt_X2_get : GoodIn wsX0_playedAt (wsV RX0 42 RX2 yX2_get wsX2_get) := goodIn_app (goodIn_of _ (by decide +kernel)) ggX0_playedAt_X2_get
theorem dX0_playedAt_0 : decode cX0_playedAt 0 = .ok (.aload_n 0, 1) := by decide +kernel
theorem dX0_playedAt_1 : decode cX0_playedAt 1 = .ok (.getfield 29, 3) := by decide +kernel
theorem dX0_playedAt_4 : decode cX0_playedAt 4 = .ok (.iload_n 1, 1) := by decide +kernel
theorem dX0_playedAt_5 : decode cX0_playedAt 5 = .ok (.invokevirtual 42, 3) := by decide +kernel
theorem dX0_playedAt_8 : decode cX0_playedAt 8 = .ok (.ireturn, 1) := by decide +kernel
set_option maxRecDepth 20000 in
theorem ggX0_delayAt_X2_get : GoodIn wsX0_delayAt wsX2_get := goodIn_r _ [7, 8, 15] (by decide +kernel) (by decide +kernel)
set_option maxRecDepth 20000 in
theorem gX0_delayAt_X2_get : GoodIn wsX0_delayAt (wsV RX0 42 RX2 yX2_get wsX2_get) := goodIn_app (goodIn_of _ (by decide +kernel)) ggX0_delayAt_X2_get
theorem dX0_delayAt_0 : decode cX0_delayAt 0 = .ok (.aload_n 0, 1) := by decide +kernel
theorem dX0_delayAt_1 : decode cX0_delayAt 1 = .ok (.getfield 23, 3) := by decide +kernel
theorem dX0_delayAt_4 : decode cX0_delayAt 4 = .ok (.iload_n 1, 1) := by decide +kernel
theorem dX0_delayAt_5 : decode cX0_delayAt 5 = .ok (.invokevirtual 42, 3) := by decide +kernel
theorem dX0_delayAt_8 : decode cX0_delayAt 8 = .ok (.bipush 20, 2) := by decide +kernel
theorem dX0_delayAt_10 : decode cX0_delayAt 10 = .ok (.aload_n 0, 1) := by decide +kernel
theorem dX0_delayAt_11 : decode cX0_delayAt 11 = .ok (.getfield 20, 3) := by decide +kernel
theorem dX0_delayAt_14 : decode cX0_delayAt 14 = .ok (.iload_n 1, 1) := by decide +kernel
theorem dX0_delayAt_15 : decode cX0_delayAt 15 = .ok (.invokevirtual 42, 3) := by decide +kernel
theorem dX0_delayAt_18 : decode cX0_delayAt 18 = .ok (.imul, 1) := by decide +kernel
theorem dX0_delayAt_19 : decode cX0_delayAt 19 = .ok (.isub, 1) := by decide +kernel
theorem dX0_delayAt_20 : decode cX0_delayAt 20 = .ok (.ireturn, 1) := by decide +kernel
set_option maxRecDepth 20000 in
theorem ggX0_latestWhen_X2_get : GoodIn wsX0_latestWhen wsX2_get := goodIn_r _ [7, 8, 15] (by decide +kernel) (by decide +kernel)
set_option maxRecDepth 20000 in
theorem gX0_latestWhen_X2_get : GoodIn wsX0_latestWhen (wsV RX0 42 RX2 yX2_get wsX2_get) := goodIn_app (goodIn_of _ (by decide +kernel)) ggX0_latestWhen_X2_get
theorem dX0_latestWhen_0 : decode cX0_latestWhen 0 = .ok (.aload_n 0, 1) := by decide +kernel
theorem dX0_latestWhen_1 : decode cX0_latestWhen 1 = .ok (.getfield 32, 3) := by decide +kernel
theorem dX0_latestWhen_4 : decode cX0_latestWhen 4 = .ok (.ifCond .ne 7, 3) := by decide +kernel
theorem dX0_latestWhen_7 : decode cX0_latestWhen 7 = .ok (.iconst 0, 1) := by decide +kernel
theorem dX0_latestWhen_8 : decode cX0_latestWhen 8 = .ok (.goto 16, 3) := by decide +kernel
theorem dX0_latestWhen_11 : decode cX0_latestWhen 11 = .ok (.aload_n 0, 1) := by decide +kernel
theorem dX0_latestWhen_12 : decode cX0_latestWhen 12 = .ok (.getfield 23, 3) := by decide +kernel
theorem dX0_latestWhen_15 : decode cX0_latestWhen 15 = .ok (.aload_n 0, 1) := by decide +kernel
theorem dX0_latestWhen_16 : decode cX0_latestWhen 16 = .ok (.getfield 32, 3) := by decide +kernel
theorem dX0_latestWhen_19 : decode cX0_latestWhen 19 = .ok (.iconst 1, 1) := by decide +kernel
theorem dX0_latestWhen_20 : decode cX0_latestWhen 20 = .ok (.isub, 1) := by decide +kernel
theorem dX0_latestWhen_21 : decode cX0_latestWhen 21 = .ok (.invokevirtual 42, 3) := by decide +kernel
theorem dX0_latestWhen_24 : decode cX0_latestWhen 24 = .ok (.ireturn, 1) := by decide +kernel
set_option maxRecDepth 20000 in
theorem ggX0_delaysAbove_X0_delayAt : GoodIn wsX0_delaysAbove wsX0_delayAt := goodIn_r _ [6, 7, 8, 9, 10, 11, 12, 13, 14, 15, 16, 17, 18, 19, 20, 21] (by decide +kernel) (by decide +kernel)
set_option maxRecDepth 20000 in
theorem gX0_delaysAbove_X0_delayAt : GoodIn wsX0_delaysAbove (wsV RX0 46 RX0 yX0_delayAt wsX0_delayAt) := goodIn_app (goodIn_of _ (by decide +kernel)) ggX0_delaysAbove_X0_delayAt
theorem dX0_delaysAbove_0 : decode cX0_delaysAbove 0 = .ok (.iconst 0, 1) := by decide +kernel
theorem dX0_delaysAbove_1 : decode cX0_delaysAbove 1 = .ok (.istore_n 3, 1) := by decide +kernel
theorem dX0_delaysAbove_2 : decode cX0_delaysAbove 2 = .ok (.aload_n 0, 1) := by decide +kernel
theorem dX0_delaysAbove_3 : decode cX0_delaysAbove 3 = .ok (.getfield 32, 3) := by decide +kernel
theorem dX0_delaysAbove_6 : decode cX0_delaysAbove 6 = .ok (.iload_n 2, 1) := by decide +kernel
theorem dX0_delaysAbove_7 : decode cX0_delaysAbove 7 = .ok (.isub, 1) := by decide +kernel
theorem dX0_delaysAbove_8 : decode cX0_delaysAbove 8 = .ok (.istore 4, 2) := by decide +kernel
theorem dX0_delaysAbove_10 : decode cX0_delaysAbove 10 = .ok (.iload 4, 2) := by decide +kernel
theorem dX0_delaysAbove_12 : decode cX0_delaysAbove 12 = .ok (.aload_n 0, 1) := by decide +kernel
theorem dX0_delaysAbove_13 : decode cX0_delaysAbove 13 = .ok (.getfield 32, 3) := by decide +kernel
theorem dX0_delaysAbove_16 : decode cX0_delaysAbove 16 = .ok (.if_icmp .ge 22, 3) := by decide +kernel
theorem dX0_delaysAbove_19 : decode cX0_delaysAbove 19 = .ok (.aload_n 0, 1) := by decide +kernel
theorem dX0_delaysAbove_20 : decode cX0_delaysAbove 20 = .ok (.iload 4, 2) := by decide +kernel
theorem dX0_delaysAbove_22 : decode cX0_delaysAbove 22 = .ok (.invokevirtual 46, 3) := by decide +kernel
theorem dX0_delaysAbove_25 : decode cX0_delaysAbove 25 = .ok (.iload_n 1, 1) := by decide +kernel
theorem dX0_delaysAbove_26 : decode cX0_delaysAbove 26 = .ok (.if_icmp .le 6, 3) := by decide +kernel
theorem dX0_delaysAbove_29 : decode cX0_delaysAbove 29 = .ok (.iinc 3 1, 3) := by decide +kernel
theorem dX0_delaysAbove_32 : decode cX0_delaysAbove 32 = .ok (.iinc 4 1, 3) := by decide +kernel
theorem dX0_delaysAbove_35 : decode cX0_delaysAbove 35 = .ok (.goto (-25), 3) := by decide +kernel
theorem dX0_delaysAbove_38 : decode cX0_delaysAbove 38 = .ok (.iload_n 3, 1) := by decide +kernel
theorem dX0_delaysAbove_39 : decode cX0_delaysAbove 39 = .ok (.ireturn, 1) := by decide +kernel
set_option maxRecDepth 20000 in
theorem ggX0_add_X2_set : GoodIn wsX0_add wsX2_set := goodIn_r _ [9, 10, 17] (by decide +kernel) (by decide +kernel)
set_option maxRecDepth 20000 in
theorem gX0_add_X2_set : GoodIn wsX0_add (wsV RX0 49 RX2 yX2_set wsX2_set) := goodIn_app (goodIn_of _ (by decide +kernel)) ggX0_add_X2_set
theorem dX0_add_0 : decode cX0_add 0 = .ok (.aload_n 0, 1) := by decide +kernel
theorem dX0_add_1 : decode cX0_add 1 = .ok (.getfield 32, 3) := by decide +kernel
theorem dX0_add_4 : decode cX0_add 4 = .ok (.istore_n 3, 1) := by decide +kernel
theorem dX0_add_5 : decode cX0_add 5 = .ok (.aload_n 0, 1) := by decide +kernel
theorem dX0_add_6 : decode cX0_add 6 = .ok (.getfield 20, 3) := by decide +kernel
theorem dX0_add_9 : decode cX0_add 9 = .ok (.iload_n 3, 1) := by decide +kernel
theorem dX0_add_10 : decode cX0_add 10 = .ok (.iload_n 1, 1) := by decide +kernel
theorem dX0_add_11 : decode cX0_add 11 = .ok (.invokevirtual 49, 3) := by decide +kernel
theorem dX0_add_14 : decode cX0_add 14 = .ok (.aload_n 0, 1) := by decide +kernel
theorem dX0_add_15 : decode cX0_add 15 = .ok (.getfield 23, 3) := by decide +kernel
theorem dX0_add_18 : decode cX0_add 18 = .ok (.iload_n 3, 1) := by decide +kernel
theorem dX0_add_19 : decode cX0_add 19 = .ok (.iload_n 2, 1) := by decide +kernel
theorem dX0_add_20 : decode cX0_add 20 = .ok (.invokevirtual 49, 3) := by decide +kernel
theorem dX0_add_23 : decode cX0_add 23 = .ok (.aload_n 0, 1) := by decide +kernel
theorem dX0_add_24 : decode cX0_add 24 = .ok (.getfield 14, 3) := by decide +kernel
theorem dX0_add_27 : decode cX0_add 27 = .ok (.iload_n 1, 1) := by decide +kernel
theorem dX0_add_28 : decode cX0_add 28 = .ok (.iload_n 3, 1) := by decide +kernel
theorem dX0_add_29 : decode cX0_add 29 = .ok (.iconst 1, 1) := by decide +kernel
theorem dX0_add_30 : decode cX0_add 30 = .ok (.iadd, 1) := by decide +kernel
theorem dX0_add_31 : decode cX0_add 31 = .ok (.invokevirtual 49, 3) := by decide +kernel
theorem dX0_add_34 : decode cX0_add 34 = .ok (.aload_n 0, 1) := by decide +kernel
theorem dX0_add_35 : decode cX0_add 35 = .ok (.dup, 1) := by decide +kernel
theorem dX0_add_36 : decode cX0_add 36 = .ok (.getfield 32, 3) := by decide +kernel
theorem dX0_add_39 : decode cX0_add 39 = .ok (.iconst 1, 1) := by decide +kernel
theorem dX0_add_40 : decode cX0_add 40 = .ok (.iadd, 1) := by decide +kernel
theorem dX0_add_41 : decode cX0_add 41 = .ok (.putfield 32, 3) := by decide +kernel
theorem dX0_add_44 : decode cX0_add 44 = .ok (.iload_n 3, 1) := by decide +kernel
theorem dX0_add_45 : decode cX0_add 45 = .ok (.ireturn, 1) := by decide +kernel
set_option maxRecDepth 20000 in
theorem ggX0_settle_X2_set : GoodIn wsX0_settle wsX2_set := goodIn_r _ [7, 8, 15] (by decide +kernel) (by decide +kernel)
set_option maxRecDepth 20000 in
theorem gX0_settle_X2_set : GoodIn wsX0_settle (wsV RX0 49 RX2 yX2_set wsX2_set) := goodIn_app (goodIn_of _ (by decide +kernel)) ggX0_settle_X2_set
theorem dX0_settle_0 : decode cX0_settle 0 = .ok (.aload_n 0, 1) := by decide +kernel
theorem dX0_settle_1 : decode cX0_settle 1 = .ok (.getfield 26, 3) := by decide +kernel
theorem dX0_settle_4 : decode cX0_settle 4 = .ok (.iload_n 1, 1) := by decide +kernel
theorem dX0_settle_5 : decode cX0_settle 5 = .ok (.iload_n 2, 1) := by decide +kernel
theorem dX0_settle_6 : decode cX0_settle 6 = .ok (.invokevirtual 49, 3) := by decide +kernel
theorem dX0_settle_9 : decode cX0_settle 9 = .ok (.aload_n 0, 1) := by decide +kernel
theorem dX0_settle_10 : decode cX0_settle 10 = .ok (.getfield 29, 3) := by decide +kernel
theorem dX0_settle_13 : decode cX0_settle 13 = .ok (.iload_n 1, 1) := by decide +kernel
theorem dX0_settle_14 : decode cX0_settle 14 = .ok (.iload_n 3, 1) := by decide +kernel
theorem dX0_settle_15 : decode cX0_settle 15 = .ok (.invokevirtual 49, 3) := by decide +kernel
theorem dX0_settle_18 : decode cX0_settle 18 = .ok (.return_, 1) := by decide +kernel
set_option maxRecDepth 20000 in
theorem ggX0_clear_X2_get : GoodIn wsX0_clear wsX2_get := goodIn_r _ [8, 9, 20] (by decide +kernel) (by decide +kernel)
set_option maxRecDepth 20000 in
theorem gX0_clear_X2_get : GoodIn wsX0_clear (wsV RX0 42 RX2 yX2_get wsX2_get) := goodIn_app (goodIn_of _ (by decide +kernel)) ggX0_clear_X2_get
set_option maxRecDepth 20000 in
theorem ggX0_clear_X2_set : GoodIn wsX0_clear wsX2_set := goodIn_r _ [13, 9, 20] (by decide +kernel) (by decide +kernel)
set_option maxRecDepth 20000 in
theorem gX0_clear_X2_set : GoodIn wsX0_clear (wsV RX0 49 RX2 yX2_set wsX2_set) := goodIn_app (goodIn_of _ (by decide +kernel)) ggX0_clear_X2_set
theorem dX0_clear_0 : decode cX0_clear 0 = .ok (.iconst 0, 1) := by decide +kernel
theorem dX0_clear_1 : decode cX0_clear 1 = .ok (.istore_n 1, 1) := by decide +kernel
theorem dX0_clear_2 : decode cX0_clear 2 = .ok (.iload_n 1, 1) := by decide +kernel
theorem dX0_clear_3 : decode cX0_clear 3 = .ok (.aload_n 0, 1) := by decide +kernel
theorem dX0_clear_4 : decode cX0_clear 4 = .ok (.getfield 32, 3) := by decide +kernel
theorem dX0_clear_7 : decode cX0_clear 7 = .ok (.if_icmp .ge 25, 3) := by decide +kernel
theorem dX0_clear_10 : decode cX0_clear 10 = .ok (.aload_n 0, 1) := by decide +kernel
theorem dX0_clear_11 : decode cX0_clear 11 = .ok (.getfield 14, 3) := by decide +kernel
theorem dX0_clear_14 : decode cX0_clear 14 = .ok (.aload_n 0, 1) := by decide +kernel
theorem dX0_clear_15 : decode cX0_clear 15 = .ok (.getfield 20, 3) := by decide +kernel
theorem dX0_clear_18 : decode cX0_clear 18 = .ok (.iload_n 1, 1) := by decide +kernel
theorem dX0_clear_19 : decode cX0_clear 19 = .ok (.invokevirtual 42, 3) := by decide +kernel
theorem dX0_clear_22 : decode cX0_clear 22 = .ok (.iconst 0, 1) := by decide +kernel
theorem dX0_clear_23 : decode cX0_clear 23 = .ok (.invokevirtual 49, 3) := by decide +kernel
theorem dX0_clear_26 : decode cX0_clear 26 = .ok (.iinc 1 1, 3) := by decide +kernel
theorem dX0_clear_29 : decode cX0_clear 29 = .ok (.goto (-27), 3) := by decide +kernel
theorem dX0_clear_32 : decode cX0_clear 32 = .ok (.aload_n 0, 1) := by decide +kernel
theorem dX0_clear_33 : decode cX0_clear 33 = .ok (.iconst 0, 1) := by decide +kernel
theorem dX0_clear_34 : decode cX0_clear 34 = .ok (.putfield 32, 3) := by decide +kernel
theorem dX0_clear_37 : decode cX0_clear 37 = .ok (.return_, 1) := by decide +kernel
set_option maxRecDepth 20000 in
theorem ggX1_init_X2_init : GoodIn wsX1_init wsX2_init := goodIn_r _ [12, 13, 2, 3, 14, 15, 16, 17, 18, 19, 20] (by decide +kernel) (by decide +kernel)
set_option maxRecDepth 20000 in
theorem gX1_init_X2_init : GoodIn wsX1_init (wsX2_init) := ggX1_init_X2_init
theorem dX1_init_0 : decode cX1_init 0 = .ok (.aload_n 0, 1) := by decide +kernel
theorem dX1_init_1 : decode cX1_init 1 = .ok (.invokespecial 3, 3) := by decide +kernel
theorem dX1_init_4 : decode cX1_init 4 = .ok (.aload_n 0, 1) := by decide +kernel
theorem dX1_init_5 : decode cX1_init 5 = .ok (.new 9, 3) := by decide +kernel
theorem dX1_init_8 : decode cX1_init 8 = .ok (.dup, 1) := by decide +kernel
theorem dX1_init_9 : decode cX1_init 9 = .ok (.bipush 120, 2) := by decide +kernel
theorem dX1_init_11 : decode cX1_init 11 = .ok (.invokespecial 11, 3) := by decide +kernel
theorem dX1_init_14 : decode cX1_init 14 = .ok (.putfield 14, 3) := by decide +kernel
theorem dX1_init_17 : decode cX1_init 17 = .ok (.aload_n 0, 1) := by decide +kernel
theorem dX1_init_18 : decode cX1_init 18 = .ok (.new 9, 3) := by decide +kernel
theorem dX1_init_21 : decode cX1_init 21 = .ok (.dup, 1) := by decide +kernel
theorem dX1_init_22 : decode cX1_init 22 = .ok (.bipush 120, 2) := by decide +kernel
theorem dX1_init_24 : decode cX1_init 24 = .ok (.invokespecial 11, 3) := by decide +kernel
theorem dX1_init_27 : decode cX1_init 27 = .ok (.putfield 20, 3) := by decide +kernel
theorem dX1_init_30 : decode cX1_init 30 = .ok (.aload_n 0, 1) := by decide +kernel
theorem dX1_init_31 : decode cX1_init 31 = .ok (.iconst 1, 1) := by decide +kernel
theorem dX1_init_32 : decode cX1_init 32 = .ok (.putfield 23, 3) := by decide +kernel
theorem dX1_init_35 : decode cX1_init 35 = .ok (.return_, 1) := by decide +kernel
theorem dX1_upper_0 : decode cX1_upper 0 = .ok (.aload_n 0, 1) := by decide +kernel
theorem dX1_upper_1 : decode cX1_upper 1 = .ok (.getfield 27, 3) := by decide +kernel
theorem dX1_upper_4 : decode cX1_upper 4 = .ok (.ireturn, 1) := by decide +kernel
theorem dX1_lower_0 : decode cX1_lower 0 = .ok (.aload_n 0, 1) := by decide +kernel
theorem dX1_lower_1 : decode cX1_lower 1 = .ok (.getfield 23, 3) := by decide +kernel
theorem dX1_lower_4 : decode cX1_lower 4 = .ok (.ireturn, 1) := by decide +kernel
set_option maxRecDepth 20000 in
theorem ggX1_fitUnder_X0_placeOf : GoodIn wsX1_fitUnder wsX0_placeOf := goodIn_r _ [8, 9, 10, 11, 12, 13, 14, 15, 58, 59, 60, 61, 62, 63, 64] (by decide +kernel) (by decide +kernel)
set_option maxRecDepth 20000 in
theorem gX1_fitUnder_X0_placeOf : GoodIn wsX1_fitUnder (wsV RX1 33 RX0 yX0_placeOf wsX0_placeOf) := goodIn_app (goodIn_of _ (by decide +kernel)) ggX1_fitUnder_X0_placeOf
set_option maxRecDepth 20000 in
theorem ggX1_fitUnder_X0_delayAt : GoodIn wsX1_fitUnder wsX0_delayAt := goodIn_r _ [19, 20, 21, 10, 11, 12, 13, 14, 15, 58, 59, 60, 61, 62, 63, 64] (by decide +kernel) (by decide +kernel)
set_option maxRecDepth 20000 in
theorem gX1_fitUnder_X0_delayAt : GoodIn wsX1_fitUnder (wsV RX1 39 RX0 yX0_delayAt wsX0_delayAt) := goodIn_app (goodIn_of _ (by decide +kernel)) ggX1_fitUnder_X0_delayAt
set_option maxRecDepth 20000 in
theorem ggX1_fitUnder_X1_addCorner : GoodIn wsX1_fitUnder wsX1_addCorner := goodIn_r _ [26, 1, 27, 28, 29, 30, 31, 25, 32, 33, 11, 12, 13, 14, 15, 34, 35, 36, 37, 53, 54, 55, 56, 57, 64] (by decide +kernel) (by decide +kernel)
set_option maxRecDepth 20000 in
theorem gX1_fitUnder_X1_addCorner : GoodIn wsX1_fitUnder (wsV RX1 42 RX1 yX1_addCorner wsX1_addCorner) := goodIn_app (goodIn_of _ (by decide +kernel)) ggX1_fitUnder_X1_addCorner
set_option maxRecDepth 20000 in
theorem ggX1_fitUnder_X1_takeRiseAtMiddle : GoodIn wsX1_fitUnder wsX1_takeRiseAtMiddle := goodIn_r _ [41, 27, 1, 28, 33, 11, 12, 13, 14, 15, 42, 43, 44, 25, 45, 46, 47, 48, 49, 2, 3, 50, 51, 52, 53, 54, 55, 56, 57, 64] (by decide +kernel) (by decide +kernel)
set_option maxRecDepth 20000 in
theorem gX1_fitUnder_X1_takeRiseAtMiddle : GoodIn wsX1_fitUnder (wsV RX1 46 RX1 yX1_takeRiseAtMiddle wsX1_takeRiseAtMiddle) := goodIn_app (goodIn_of _ (by decide +kernel)) ggX1_fitUnder_X1_takeRiseAtMiddle
theorem dX1_fitUnder_0 : decode cX1_fitUnder 0 = .ok (.aload_n 0, 1) := by decide +kernel
theorem dX1_fitUnder_1 : decode cX1_fitUnder 1 = .ok (.iconst 0, 1) := by decide +kernel
theorem dX1_fitUnder_2 : decode cX1_fitUnder 2 = .ok (.putfield 30, 3) := by decide +kernel
theorem dX1_fitUnder_5 : decode cX1_fitUnder 5 = .ok (.aload_n 0, 1) := by decide +kernel
theorem dX1_fitUnder_6 : decode cX1_fitUnder 6 = .ok (.iconst 0, 1) := by decide +kernel
theorem dX1_fitUnder_7 : decode cX1_fitUnder 7 = .ok (.putfield 27, 3) := by decide +kernel
theorem dX1_fitUnder_10 : decode cX1_fitUnder 10 = .ok (.aload_n 0, 1) := by decide +kernel
theorem dX1_fitUnder_11 : decode cX1_fitUnder 11 = .ok (.iconst 1, 1) := by decide +kernel
theorem dX1_fitUnder_12 : decode cX1_fitUnder 12 = .ok (.putfield 23, 3) := by decide +kernel
theorem dX1_fitUnder_15 : decode cX1_fitUnder 15 = .ok (.iconst 0, 1) := by decide +kernel
theorem dX1_fitUnder_16 : decode cX1_fitUnder 16 = .ok (.istore_n 2, 1) := by decide +kernel
theorem dX1_fitUnder_17 : decode cX1_fitUnder 17 = .ok (.iload_n 2, 1) := by decide +kernel
theorem dX1_fitUnder_18 : decode cX1_fitUnder 18 = .ok (.sipush 300, 3) := by decide +kernel
theorem dX1_fitUnder_21 : decode cX1_fitUnder 21 = .ok (.if_icmp .ge 30, 3) := by decide +kernel
theorem dX1_fitUnder_24 : decode cX1_fitUnder 24 = .ok (.aload_n 1, 1) := by decide +kernel
theorem dX1_fitUnder_25 : decode cX1_fitUnder 25 = .ok (.iload_n 2, 1) := by decide +kernel
theorem dX1_fitUnder_26 : decode cX1_fitUnder 26 = .ok (.invokevirtual 33, 3) := by decide +kernel
theorem dX1_fitUnder_29 : decode cX1_fitUnder 29 = .ok (.istore_n 3, 1) := by decide +kernel
theorem dX1_fitUnder_30 : decode cX1_fitUnder 30 = .ok (.iload_n 3, 1) := by decide +kernel
theorem dX1_fitUnder_31 : decode cX1_fitUnder 31 = .ok (.iconst (-1), 1) := by decide +kernel
theorem dX1_fitUnder_32 : decode cX1_fitUnder 32 = .ok (.if_icmp .eq 13, 3) := by decide +kernel
theorem dX1_fitUnder_35 : decode cX1_fitUnder 35 = .ok (.aload_n 0, 1) := by decide +kernel
theorem dX1_fitUnder_36 : decode cX1_fitUnder 36 = .ok (.iload_n 2, 1) := by decide +kernel
theorem dX1_fitUnder_37 : decode cX1_fitUnder 37 = .ok (.aload_n 1, 1) := by decide +kernel
theorem dX1_fitUnder_38 : decode cX1_fitUnder 38 = .ok (.iload_n 3, 1) := by decide +kernel
theorem dX1_fitUnder_39 : decode cX1_fitUnder 39 = .ok (.invokevirtual 39, 3) := by decide +kernel
theorem dX1_fitUnder_42 : decode cX1_fitUnder 42 = .ok (.invokevirtual 42, 3) := by decide +kernel
theorem dX1_fitUnder_45 : decode cX1_fitUnder 45 = .ok (.iinc 2 1, 3) := by decide +kernel
theorem dX1_fitUnder_48 : decode cX1_fitUnder 48 = .ok (.goto (-31), 3) := by decide +kernel
theorem dX1_fitUnder_51 : decode cX1_fitUnder 51 = .ok (.aload_n 0, 1) := by decide +kernel
theorem dX1_fitUnder_52 : decode cX1_fitUnder 52 = .ok (.invokevirtual 46, 3) := by decide +kernel
theorem dX1_fitUnder_55 : decode cX1_fitUnder 55 = .ok (.return_, 1) := by decide +kernel
set_option maxRecDepth 20000 in
theorem ggX1_addCorner_X1_lastIsNotBelow : GoodIn wsX1_addCorner wsX1_lastIsNotBelow := goodIn_r _ [8, 2, 1, 3, 9, 10, 11, 12, 13, 14, 19, 20, 21, 22, 23, 24] (by decide +kernel) (by decide +kernel)
set_option maxRecDepth 20000 in
theorem gX1_addCorner_X1_lastIsNotBelow : GoodIn wsX1_addCorner (wsV RX1 49 RX1 yX1_lastIsNotBelow wsX1_lastIsNotBelow) := goodIn_app (goodIn_of _ (by decide +kernel)) ggX1_addCorner_X1_lastIsNotBelow
set_option maxRecDepth 20000 in
theorem ggX1_addCorner_X2_set : GoodIn wsX1_addCorner wsX2_set := goodIn_r _ [18, 14, 24] (by decide +kernel) (by decide +kernel)
set_option maxRecDepth 20000 in
theorem gX1_addCorner_X2_set : GoodIn wsX1_addCorner (wsV RX1 53 RX2 yX2_set wsX2_set) := goodIn_app (goodIn_of _ (by decide +kernel)) ggX1_addCorner_X2_set
theorem dX1_addCorner_0 : decode cX1_addCorner 0 = .ok (.aload_n 0, 1) := by decide +kernel
theorem dX1_addCorner_1 : decode cX1_addCorner 1 = .ok (.getfield 30, 3) := by decide +kernel
theorem dX1_addCorner_4 : decode cX1_addCorner 4 = .ok (.iconst 2, 1) := by decide +kernel
theorem dX1_addCorner_5 : decode cX1_addCorner 5 = .ok (.if_icmp .lt 25, 3) := by decide +kernel
theorem dX1_addCorner_8 : decode cX1_addCorner 8 = .ok (.aload_n 0, 1) := by decide +kernel
theorem dX1_addCorner_9 : decode cX1_addCorner 9 = .ok (.iload_n 1, 1) := by decide +kernel
theorem dX1_addCorner_10 : decode cX1_addCorner 10 = .ok (.iload_n 2, 1) := by decide +kernel
theorem dX1_addCorner_11 : decode cX1_addCorner 11 = .ok (.invokevirtual 49, 3) := by decide +kernel
theorem dX1_addCorner_14 : decode cX1_addCorner 14 = .ok (.ifCond .eq 16, 3) := by decide +kernel
theorem dX1_addCorner_17 : decode cX1_addCorner 17 = .ok (.aload_n 0, 1) := by decide +kernel
theorem dX1_addCorner_18 : decode cX1_addCorner 18 = .ok (.dup, 1) := by decide +kernel
theorem dX1_addCorner_19 : decode cX1_addCorner 19 = .ok (.getfield 30, 3) := by decide +kernel
theorem dX1_addCorner_22 : decode cX1_addCorner 22 = .ok (.iconst 1, 1) := by decide +kernel
theorem dX1_addCorner_23 : decode cX1_addCorner 23 = .ok (.isub, 1) := by decide +kernel
theorem dX1_addCorner_24 : decode cX1_addCorner 24 = .ok (.putfield 30, 3) := by decide +kernel
theorem dX1_addCorner_27 : decode cX1_addCorner 27 = .ok (.goto (-27), 3) := by decide +kernel
theorem dX1_addCorner_30 : decode cX1_addCorner 30 = .ok (.aload_n 0, 1) := by decide +kernel
theorem dX1_addCorner_31 : decode cX1_addCorner 31 = .ok (.getfield 14, 3) := by decide +kernel
theorem dX1_addCorner_34 : decode cX1_addCorner 34 = .ok (.aload_n 0, 1) := by decide +kernel
theorem dX1_addCorner_35 : decode cX1_addCorner 35 = .ok (.getfield 30, 3) := by decide +kernel
theorem dX1_addCorner_38 : decode cX1_addCorner 38 = .ok (.iload_n 1, 1) := by decide +kernel
theorem dX1_addCorner_39 : decode cX1_addCorner 39 = .ok (.invokevirtual 53, 3) := by decide +kernel
theorem dX1_addCorner_42 : decode cX1_addCorner 42 = .ok (.aload_n 0, 1) := by decide +kernel
theorem dX1_addCorner_43 : decode cX1_addCorner 43 = .ok (.getfield 20, 3) := by decide +kernel
theorem dX1_addCorner_46 : decode cX1_addCorner 46 = .ok (.aload_n 0, 1) := by decide +kernel
theorem dX1_addCorner_47 : decode cX1_addCorner 47 = .ok (.getfield 30, 3) := by decide +kernel
theorem dX1_addCorner_50 : decode cX1_addCorner 50 = .ok (.iload_n 2, 1) := by decide +kernel
theorem dX1_addCorner_51 : decode cX1_addCorner 51 = .ok (.invokevirtual 53, 3) := by decide +kernel
theorem dX1_addCorner_54 : decode cX1_addCorner 54 = .ok (.aload_n 0, 1) := by decide +kernel
theorem dX1_addCorner_55 : decode cX1_addCorner 55 = .ok (.dup, 1) := by decide +kernel
theorem dX1_addCorner_56 : decode cX1_addCorner 56 = .ok (.getfield 30, 3) := by decide +kernel
theorem dX1_addCorner_59 : decode cX1_addCorner 59 = .ok (.iconst 1, 1) := by decide +kernel
theorem dX1_addCorner_60 : decode cX1_addCorner 60 = .ok (.iadd, 1) := by decide +kernel
theorem dX1_addCorner_61 : decode cX1_addCorner 61 = .ok (.putfield 30, 3) := by decide +kernel
theorem dX1_addCorner_64 : decode cX1_addCorner 64 = .ok (.return_, 1) := by decide +kernel
set_option maxRecDepth 20000 in
theorem ggX1_lastIsNotBelow_X2_get : GoodIn wsX1_lastIsNotBelow wsX2_get := goodIn_r _ [8, 9, 15] (by decide +kernel) (by decide +kernel)
set_option maxRecDepth 20000 in
theorem gX1_lastIsNotBelow_X2_get : GoodIn wsX1_lastIsNotBelow (wsV RX1 56 RX2 yX2_get wsX2_get) := goodIn_app (goodIn_of _ (by decide +kernel)) ggX1_lastIsNotBelow_X2_get
theorem dX1_lastIsNotBelow_0 : decode cX1_lastIsNotBelow 0 = .ok (.aload_n 0, 1) := by decide +kernel
theorem dX1_lastIsNotBelow_1 : decode cX1_lastIsNotBelow 1 = .ok (.getfield 14, 3) := by decide +kernel
theorem dX1_lastIsNotBelow_4 : decode cX1_lastIsNotBelow 4 = .ok (.aload_n 0, 1) := by decide +kernel
theorem dX1_lastIsNotBelow_5 : decode cX1_lastIsNotBelow 5 = .ok (.getfield 30, 3) := by decide +kernel
theorem dX1_lastIsNotBelow_8 : decode cX1_lastIsNotBelow 8 = .ok (.iconst 2, 1) := by decide +kernel
theorem dX1_lastIsNotBelow_9 : decode cX1_lastIsNotBelow 9 = .ok (.isub, 1) := by decide +kernel
theorem dX1_lastIsNotBelow_10 : decode cX1_lastIsNotBelow 10 = .ok (.invokevirtual 56, 3) := by decide +kernel
theorem dX1_lastIsNotBelow_13 : decode cX1_lastIsNotBelow 13 = .ok (.istore_n 3, 1) := by decide +kernel
theorem dX1_lastIsNotBelow_14 : decode cX1_lastIsNotBelow 14 = .ok (.aload_n 0, 1) := by decide +kernel
theorem dX1_lastIsNotBelow_15 : decode cX1_lastIsNotBelow 15 = .ok (.getfield 20, 3) := by decide +kernel
theorem dX1_lastIsNotBelow_18 : decode cX1_lastIsNotBelow 18 = .ok (.aload_n 0, 1) := by decide +kernel
theorem dX1_lastIsNotBelow_19 : decode cX1_lastIsNotBelow 19 = .ok (.getfield 30, 3) := by decide +kernel
theorem dX1_lastIsNotBelow_22 : decode cX1_lastIsNotBelow 22 = .ok (.iconst 2, 1) := by decide +kernel
theorem dX1_lastIsNotBelow_23 : decode cX1_lastIsNotBelow 23 = .ok (.isub, 1) := by decide +kernel
theorem dX1_lastIsNotBelow_24 : decode cX1_lastIsNotBelow 24 = .ok (.invokevirtual 56, 3) := by decide +kernel
theorem dX1_lastIsNotBelow_27 : decode cX1_lastIsNotBelow 27 = .ok (.istore 4, 2) := by decide +kernel
theorem dX1_lastIsNotBelow_29 : decode cX1_lastIsNotBelow 29 = .ok (.aload_n 0, 1) := by decide +kernel
theorem dX1_lastIsNotBelow_30 : decode cX1_lastIsNotBelow 30 = .ok (.getfield 14, 3) := by decide +kernel
theorem dX1_lastIsNotBelow_33 : decode cX1_lastIsNotBelow 33 = .ok (.aload_n 0, 1) := by decide +kernel
theorem dX1_lastIsNotBelow_34 : decode cX1_lastIsNotBelow 34 = .ok (.getfield 30, 3) := by decide +kernel
theorem dX1_lastIsNotBelow_37 : decode cX1_lastIsNotBelow 37 = .ok (.iconst 1, 1) := by decide +kernel
theorem dX1_lastIsNotBelow_38 : decode cX1_lastIsNotBelow 38 = .ok (.isub, 1) := by decide +kernel
theorem dX1_lastIsNotBelow_39 : decode cX1_lastIsNotBelow 39 = .ok (.invokevirtual 56, 3) := by decide +kernel
theorem dX1_lastIsNotBelow_42 : decode cX1_lastIsNotBelow 42 = .ok (.iload_n 3, 1) := by decide +kernel
theorem dX1_lastIsNotBelow_43 : decode cX1_lastIsNotBelow 43 = .ok (.isub, 1) := by decide +kernel
theorem dX1_lastIsNotBelow_44 : decode cX1_lastIsNotBelow 44 = .ok (.istore 5, 2) := by decide +kernel
theorem dX1_lastIsNotBelow_46 : decode cX1_lastIsNotBelow 46 = .ok (.aload_n 0, 1) := by decide +kernel
theorem dX1_lastIsNotBelow_47 : decode cX1_lastIsNotBelow 47 = .ok (.getfield 20, 3) := by decide +kernel
theorem dX1_lastIsNotBelow_50 : decode cX1_lastIsNotBelow 50 = .ok (.aload_n 0, 1) := by decide +kernel
theorem dX1_lastIsNotBelow_51 : decode cX1_lastIsNotBelow 51 = .ok (.getfield 30, 3) := by decide +kernel
theorem dX1_lastIsNotBelow_54 : decode cX1_lastIsNotBelow 54 = .ok (.iconst 1, 1) := by decide +kernel
theorem dX1_lastIsNotBelow_55 : decode cX1_lastIsNotBelow 55 = .ok (.isub, 1) := by decide +kernel
theorem dX1_lastIsNotBelow_56 : decode cX1_lastIsNotBelow 56 = .ok (.invokevirtual 56, 3) := by decide +kernel
theorem dX1_lastIsNotBelow_59 : decode cX1_lastIsNotBelow 59 = .ok (.iload 4, 2) := by decide +kernel
theorem dX1_lastIsNotBelow_61 : decode cX1_lastIsNotBelow 61 = .ok (.isub, 1) := by decide +kernel
theorem dX1_lastIsNotBelow_62 : decode cX1_lastIsNotBelow 62 = .ok (.istore 6, 2) := by decide +kernel
theorem dX1_lastIsNotBelow_64 : decode cX1_lastIsNotBelow 64 = .ok (.iload 6, 2) := by decide +kernel
theorem dX1_lastIsNotBelow_66 : decode cX1_lastIsNotBelow 66 = .ok (.iload_n 1, 1) := by decide +kernel
theorem dX1_lastIsNotBelow_67 : decode cX1_lastIsNotBelow 67 = .ok (.iload_n 3, 1) := by decide +kernel
theorem dX1_lastIsNotBelow_68 : decode cX1_lastIsNotBelow 68 = .ok (.isub, 1) := by decide +kernel
theorem dX1_lastIsNotBelow_69 : decode cX1_lastIsNotBelow 69 = .ok (.imul, 1) := by decide +kernel
theorem dX1_lastIsNotBelow_70 : decode cX1_lastIsNotBelow 70 = .ok (.iload_n 2, 1) := by decide +kernel
theorem dX1_lastIsNotBelow_71 : decode cX1_lastIsNotBelow 71 = .ok (.iload 4, 2) := by decide +kernel
theorem dX1_lastIsNotBelow_73 : decode cX1_lastIsNotBelow 73 = .ok (.isub, 1) := by decide +kernel
theorem dX1_lastIsNotBelow_74 : decode cX1_lastIsNotBelow 74 = .ok (.iload 5, 2) := by decide +kernel
theorem dX1_lastIsNotBelow_76 : decode cX1_lastIsNotBelow 76 = .ok (.imul, 1) := by decide +kernel
theorem dX1_lastIsNotBelow_77 : decode cX1_lastIsNotBelow 77 = .ok (.if_icmp .lt 7, 3) := by decide +kernel
theorem dX1_lastIsNotBelow_80 : decode cX1_lastIsNotBelow 80 = .ok (.iconst 1, 1) := by decide +kernel
theorem dX1_lastIsNotBelow_81 : decode cX1_lastIsNotBelow 81 = .ok (.goto 4, 3) := by decide +kernel
theorem dX1_lastIsNotBelow_84 : decode cX1_lastIsNotBelow 84 = .ok (.iconst 0, 1) := by decide +kernel
theorem dX1_lastIsNotBelow_85 : decode cX1_lastIsNotBelow 85 = .ok (.ireturn, 1) := by decide +kernel
set_option maxRecDepth 20000 in
theorem ggX1_takeRiseAtMiddle_X2_get : GoodIn wsX1_takeRiseAtMiddle wsX2_get := goodIn_r _ [8, 9, 29] (by decide +kernel) (by decide +kernel)
set_option maxRecDepth 20000 in
theorem gX1_takeRiseAtMiddle_X2_get : GoodIn wsX1_takeRiseAtMiddle (wsV RX1 56 RX2 yX2_get wsX2_get) := goodIn_app (goodIn_of _ (by decide +kernel)) ggX1_takeRiseAtMiddle_X2_get
set_option maxRecDepth 20000 in
theorem ggX1_takeRiseAtMiddle_X1_setRise : GoodIn wsX1_takeRiseAtMiddle wsX1_setRise := goodIn_r _ [14, 15, 16, 17, 18, 19, 20, 21, 22, 13, 23, 24, 25, 26, 27, 28] (by decide +kernel) (by decide +kernel)
set_option maxRecDepth 20000 in
theorem gX1_takeRiseAtMiddle_X1_setRise : GoodIn wsX1_takeRiseAtMiddle (wsV RX1 59 RX1 yX1_setRise wsX1_setRise) := goodIn_app (goodIn_of _ (by decide +kernel)) ggX1_takeRiseAtMiddle_X1_setRise
theorem dX1_takeRiseAtMiddle_0 : decode cX1_takeRiseAtMiddle 0 = .ok (.aload_n 0, 1) := by decide +kernel
theorem dX1_takeRiseAtMiddle_1 : decode cX1_takeRiseAtMiddle 1 = .ok (.getfield 14, 3) := by decide +kernel
theorem dX1_takeRiseAtMiddle_4 : decode cX1_takeRiseAtMiddle 4 = .ok (.iconst 0, 1) := by decide +kernel
theorem dX1_takeRiseAtMiddle_5 : decode cX1_takeRiseAtMiddle 5 = .ok (.invokevirtual 56, 3) := by decide +kernel
theorem dX1_takeRiseAtMiddle_8 : decode cX1_takeRiseAtMiddle 8 = .ok (.aload_n 0, 1) := by decide +kernel
theorem dX1_takeRiseAtMiddle_9 : decode cX1_takeRiseAtMiddle 9 = .ok (.getfield 14, 3) := by decide +kernel
theorem dX1_takeRiseAtMiddle_12 : decode cX1_takeRiseAtMiddle 12 = .ok (.aload_n 0, 1) := by decide +kernel
theorem dX1_takeRiseAtMiddle_13 : decode cX1_takeRiseAtMiddle 13 = .ok (.getfield 30, 3) := by decide +kernel
theorem dX1_takeRiseAtMiddle_16 : decode cX1_takeRiseAtMiddle 16 = .ok (.iconst 1, 1) := by decide +kernel
theorem dX1_takeRiseAtMiddle_17 : decode cX1_takeRiseAtMiddle 17 = .ok (.isub, 1) := by decide +kernel
theorem dX1_takeRiseAtMiddle_18 : decode cX1_takeRiseAtMiddle 18 = .ok (.invokevirtual 56, 3) := by decide +kernel
theorem dX1_takeRiseAtMiddle_21 : decode cX1_takeRiseAtMiddle 21 = .ok (.iadd, 1) := by decide +kernel
theorem dX1_takeRiseAtMiddle_22 : decode cX1_takeRiseAtMiddle 22 = .ok (.istore_n 1, 1) := by decide +kernel
theorem dX1_takeRiseAtMiddle_23 : decode cX1_takeRiseAtMiddle 23 = .ok (.iconst 1, 1) := by decide +kernel
theorem dX1_takeRiseAtMiddle_24 : decode cX1_takeRiseAtMiddle 24 = .ok (.istore_n 2, 1) := by decide +kernel
theorem dX1_takeRiseAtMiddle_25 : decode cX1_takeRiseAtMiddle 25 = .ok (.iload_n 2, 1) := by decide +kernel
theorem dX1_takeRiseAtMiddle_26 : decode cX1_takeRiseAtMiddle 26 = .ok (.aload_n 0, 1) := by decide +kernel
theorem dX1_takeRiseAtMiddle_27 : decode cX1_takeRiseAtMiddle 27 = .ok (.getfield 30, 3) := by decide +kernel
theorem dX1_takeRiseAtMiddle_30 : decode cX1_takeRiseAtMiddle 30 = .ok (.if_icmp .ge 66, 3) := by decide +kernel
theorem dX1_takeRiseAtMiddle_33 : decode cX1_takeRiseAtMiddle 33 = .ok (.iconst 2, 1) := by decide +kernel
theorem dX1_takeRiseAtMiddle_34 : decode cX1_takeRiseAtMiddle 34 = .ok (.aload_n 0, 1) := by decide +kernel
theorem dX1_takeRiseAtMiddle_35 : decode cX1_takeRiseAtMiddle 35 = .ok (.getfield 14, 3) := by decide +kernel
theorem dX1_takeRiseAtMiddle_38 : decode cX1_takeRiseAtMiddle 38 = .ok (.iload_n 2, 1) := by decide +kernel
theorem dX1_takeRiseAtMiddle_39 : decode cX1_takeRiseAtMiddle 39 = .ok (.invokevirtual 56, 3) := by decide +kernel
theorem dX1_takeRiseAtMiddle_42 : decode cX1_takeRiseAtMiddle 42 = .ok (.imul, 1) := by decide +kernel
theorem dX1_takeRiseAtMiddle_43 : decode cX1_takeRiseAtMiddle 43 = .ok (.iload_n 1, 1) := by decide +kernel
theorem dX1_takeRiseAtMiddle_44 : decode cX1_takeRiseAtMiddle 44 = .ok (.if_icmp .lt 46, 3) := by decide +kernel
theorem dX1_takeRiseAtMiddle_47 : decode cX1_takeRiseAtMiddle 47 = .ok (.aload_n 0, 1) := by decide +kernel
theorem dX1_takeRiseAtMiddle_48 : decode cX1_takeRiseAtMiddle 48 = .ok (.aload_n 0, 1) := by decide +kernel
theorem dX1_takeRiseAtMiddle_49 : decode cX1_takeRiseAtMiddle 49 = .ok (.getfield 20, 3) := by decide +kernel
theorem dX1_takeRiseAtMiddle_52 : decode cX1_takeRiseAtMiddle 52 = .ok (.iload_n 2, 1) := by decide +kernel
theorem dX1_takeRiseAtMiddle_53 : decode cX1_takeRiseAtMiddle 53 = .ok (.invokevirtual 56, 3) := by decide +kernel
theorem dX1_takeRiseAtMiddle_56 : decode cX1_takeRiseAtMiddle 56 = .ok (.aload_n 0, 1) := by decide +kernel
theorem dX1_takeRiseAtMiddle_57 : decode cX1_takeRiseAtMiddle 57 = .ok (.getfield 20, 3) := by decide +kernel
theorem dX1_takeRiseAtMiddle_60 : decode cX1_takeRiseAtMiddle 60 = .ok (.iload_n 2, 1) := by decide +kernel
theorem dX1_takeRiseAtMiddle_61 : decode cX1_takeRiseAtMiddle 61 = .ok (.iconst 1, 1) := by decide +kernel
theorem dX1_takeRiseAtMiddle_62 : decode cX1_takeRiseAtMiddle 62 = .ok (.isub, 1) := by decide +kernel
theorem dX1_takeRiseAtMiddle_63 : decode cX1_takeRiseAtMiddle 63 = .ok (.invokevirtual 56, 3) := by decide +kernel
theorem dX1_takeRiseAtMiddle_66 : decode cX1_takeRiseAtMiddle 66 = .ok (.isub, 1) := by decide +kernel
theorem dX1_takeRiseAtMiddle_67 : decode cX1_takeRiseAtMiddle 67 = .ok (.aload_n 0, 1) := by decide +kernel
theorem dX1_takeRiseAtMiddle_68 : decode cX1_takeRiseAtMiddle 68 = .ok (.getfield 14, 3) := by decide +kernel
theorem dX1_takeRiseAtMiddle_71 : decode cX1_takeRiseAtMiddle 71 = .ok (.iload_n 2, 1) := by decide +kernel
theorem dX1_takeRiseAtMiddle_72 : decode cX1_takeRiseAtMiddle 72 = .ok (.invokevirtual 56, 3) := by decide +kernel
theorem dX1_takeRiseAtMiddle_75 : decode cX1_takeRiseAtMiddle 75 = .ok (.aload_n 0, 1) := by decide +kernel
theorem dX1_takeRiseAtMiddle_76 : decode cX1_takeRiseAtMiddle 76 = .ok (.getfield 14, 3) := by decide +kernel
theorem dX1_takeRiseAtMiddle_79 : decode cX1_takeRiseAtMiddle 79 = .ok (.iload_n 2, 1) := by decide +kernel
theorem dX1_takeRiseAtMiddle_80 : decode cX1_takeRiseAtMiddle 80 = .ok (.iconst 1, 1) := by decide +kernel
theorem dX1_takeRiseAtMiddle_81 : decode cX1_takeRiseAtMiddle 81 = .ok (.isub, 1) := by decide +kernel
theorem dX1_takeRiseAtMiddle_82 : decode cX1_takeRiseAtMiddle 82 = .ok (.invokevirtual 56, 3) := by decide +kernel
theorem dX1_takeRiseAtMiddle_85 : decode cX1_takeRiseAtMiddle 85 = .ok (.isub, 1) := by decide +kernel
theorem dX1_takeRiseAtMiddle_86 : decode cX1_takeRiseAtMiddle 86 = .ok (.invokevirtual 59, 3) := by decide +kernel
theorem dX1_takeRiseAtMiddle_89 : decode cX1_takeRiseAtMiddle 89 = .ok (.return_, 1) := by decide +kernel
theorem dX1_takeRiseAtMiddle_90 : decode cX1_takeRiseAtMiddle 90 = .ok (.iinc 2 1, 3) := by decide +kernel
theorem dX1_takeRiseAtMiddle_93 : decode cX1_takeRiseAtMiddle 93 = .ok (.goto (-68), 3) := by decide +kernel
theorem dX1_takeRiseAtMiddle_96 : decode cX1_takeRiseAtMiddle 96 = .ok (.return_, 1) := by decide +kernel
set_option maxRecDepth 20000 in
theorem ggX1_setRise_X1_greatestDivisor : GoodIn wsX1_setRise wsX1_greatestDivisor := goodIn_r _ [10] (by decide +kernel) (by decide +kernel)
set_option maxRecDepth 20000 in
theorem gX1_setRise_X1_greatestDivisor : GoodIn wsX1_setRise (va_wsS RX1 67 yX1_greatestDivisor wsX1_greatestDivisor) := goodIn_app (goodIn_of _ (by decide +kernel)) ggX1_setRise_X1_greatestDivisor
theorem dX1_setRise_0 : decode cX1_setRise 0 = .ok (.iload_n 1, 1) := by decide +kernel
theorem dX1_setRise_1 : decode cX1_setRise 1 = .ok (.invokestatic 62, 3) := by decide +kernel
theorem dX1_setRise_4 : decode cX1_setRise 4 = .ok (.iload_n 2, 1) := by decide +kernel
theorem dX1_setRise_5 : decode cX1_setRise 5 = .ok (.invokestatic 67, 3) := by decide +kernel
theorem dX1_setRise_8 : decode cX1_setRise 8 = .ok (.istore_n 3, 1) := by decide +kernel
theorem dX1_setRise_9 : decode cX1_setRise 9 = .ok (.iload_n 3, 1) := by decide +kernel
theorem dX1_setRise_10 : decode cX1_setRise 10 = .ok (.ifCond .le 17, 3) := by decide +kernel
theorem dX1_setRise_13 : decode cX1_setRise 13 = .ok (.aload_n 0, 1) := by decide +kernel
theorem dX1_setRise_14 : decode cX1_setRise 14 = .ok (.iload_n 1, 1) := by decide +kernel
theorem dX1_setRise_15 : decode cX1_setRise 15 = .ok (.iload_n 3, 1) := by decide +kernel
theorem dX1_setRise_16 : decode cX1_setRise 16 = .ok (.idiv, 1) := by decide +kernel
theorem dX1_setRise_17 : decode cX1_setRise 17 = .ok (.putfield 27, 3) := by decide +kernel
theorem dX1_setRise_20 : decode cX1_setRise 20 = .ok (.aload_n 0, 1) := by decide +kernel
theorem dX1_setRise_21 : decode cX1_setRise 21 = .ok (.iload_n 2, 1) := by decide +kernel
theorem dX1_setRise_22 : decode cX1_setRise 22 = .ok (.iload_n 3, 1) := by decide +kernel
theorem dX1_setRise_23 : decode cX1_setRise 23 = .ok (.idiv, 1) := by decide +kernel
theorem dX1_setRise_24 : decode cX1_setRise 24 = .ok (.putfield 23, 3) := by decide +kernel
theorem dX1_setRise_27 : decode cX1_setRise 27 = .ok (.return_, 1) := by decide +kernel
theorem dX1_greatestDivisor_0 : decode cX1_greatestDivisor 0 = .ok (.iload_n 0, 1) := by decide +kernel
theorem dX1_greatestDivisor_1 : decode cX1_greatestDivisor 1 = .ok (.istore_n 2, 1) := by decide +kernel
theorem dX1_greatestDivisor_2 : decode cX1_greatestDivisor 2 = .ok (.iload_n 1, 1) := by decide +kernel
theorem dX1_greatestDivisor_3 : decode cX1_greatestDivisor 3 = .ok (.istore_n 3, 1) := by decide +kernel
theorem dX1_greatestDivisor_4 : decode cX1_greatestDivisor 4 = .ok (.iconst 0, 1) := by decide +kernel
theorem dX1_greatestDivisor_5 : decode cX1_greatestDivisor 5 = .ok (.istore 4, 2) := by decide +kernel
theorem dX1_greatestDivisor_7 : decode cX1_greatestDivisor 7 = .ok (.iload 4, 2) := by decide +kernel
theorem dX1_greatestDivisor_9 : decode cX1_greatestDivisor 9 = .ok (.bipush 64, 2) := by decide +kernel
theorem dX1_greatestDivisor_11 : decode cX1_greatestDivisor 11 = .ok (.if_icmp .ge 23, 3) := by decide +kernel
theorem dX1_greatestDivisor_14 : decode cX1_greatestDivisor 14 = .ok (.iload_n 3, 1) := by decide +kernel
theorem dX1_greatestDivisor_15 : decode cX1_greatestDivisor 15 = .ok (.ifCond .eq 19, 3) := by decide +kernel
theorem dX1_greatestDivisor_18 : decode cX1_greatestDivisor 18 = .ok (.iload_n 2, 1) := by decide +kernel
theorem dX1_greatestDivisor_19 : decode cX1_greatestDivisor 19 = .ok (.iload_n 3, 1) := by decide +kernel
theorem dX1_greatestDivisor_20 : decode cX1_greatestDivisor 20 = .ok (.irem, 1) := by decide +kernel
theorem dX1_greatestDivisor_21 : decode cX1_greatestDivisor 21 = .ok (.istore 5, 2) := by decide +kernel
theorem dX1_greatestDivisor_23 : decode cX1_greatestDivisor 23 = .ok (.iload_n 3, 1) := by decide +kernel
theorem dX1_greatestDivisor_24 : decode cX1_greatestDivisor 24 = .ok (.istore_n 2, 1) := by decide +kernel
theorem dX1_greatestDivisor_25 : decode cX1_greatestDivisor 25 = .ok (.iload 5, 2) := by decide +kernel
theorem dX1_greatestDivisor_27 : decode cX1_greatestDivisor 27 = .ok (.istore_n 3, 1) := by decide +kernel
theorem dX1_greatestDivisor_28 : decode cX1_greatestDivisor 28 = .ok (.iinc 4 1, 3) := by decide +kernel
theorem dX1_greatestDivisor_31 : decode cX1_greatestDivisor 31 = .ok (.goto (-24), 3) := by decide +kernel
theorem dX1_greatestDivisor_34 : decode cX1_greatestDivisor 34 = .ok (.iload_n 2, 1) := by decide +kernel
theorem dX1_greatestDivisor_35 : decode cX1_greatestDivisor 35 = .ok (.ireturn, 1) := by decide +kernel
set_option maxRecDepth 20000 in
theorem ggX1_riseOver_J9_floorDiv_7cf53 : GoodIn wsX1_riseOver wsJ9_floorDiv_7cf53 := goodIn_r _ [6] (by decide +kernel) (by decide +kernel)
set_option maxRecDepth 20000 in
theorem gX1_riseOver_J9_floorDiv_7cf53 : GoodIn wsX1_riseOver (va_wsS RX1 71 yJ9_floorDiv_7cf53 wsJ9_floorDiv_7cf53) := goodIn_app (goodIn_of _ (by decide +kernel)) ggX1_riseOver_J9_floorDiv_7cf53
theorem dX1_riseOver_0 : decode cX1_riseOver 0 = .ok (.aload_n 0, 1) := by decide +kernel
theorem dX1_riseOver_1 : decode cX1_riseOver 1 = .ok (.getfield 23, 3) := by decide +kernel
theorem dX1_riseOver_4 : decode cX1_riseOver 4 = .ok (.ifCond .le 21, 3) := by decide +kernel
theorem dX1_riseOver_7 : decode cX1_riseOver 7 = .ok (.aload_n 0, 1) := by decide +kernel
theorem dX1_riseOver_8 : decode cX1_riseOver 8 = .ok (.getfield 27, 3) := by decide +kernel
theorem dX1_riseOver_11 : decode cX1_riseOver 11 = .ok (.ineg, 1) := by decide +kernel
theorem dX1_riseOver_12 : decode cX1_riseOver 12 = .ok (.iload_n 1, 1) := by decide +kernel
theorem dX1_riseOver_13 : decode cX1_riseOver 13 = .ok (.imul, 1) := by decide +kernel
theorem dX1_riseOver_14 : decode cX1_riseOver 14 = .ok (.aload_n 0, 1) := by decide +kernel
theorem dX1_riseOver_15 : decode cX1_riseOver 15 = .ok (.getfield 23, 3) := by decide +kernel
theorem dX1_riseOver_18 : decode cX1_riseOver 18 = .ok (.invokestatic 71, 3) := by decide +kernel
theorem dX1_riseOver_21 : decode cX1_riseOver 21 = .ok (.ineg, 1) := by decide +kernel
theorem dX1_riseOver_22 : decode cX1_riseOver 22 = .ok (.goto 4, 3) := by decide +kernel
theorem dX1_riseOver_25 : decode cX1_riseOver 25 = .ok (.iconst 0, 1) := by decide +kernel
theorem dX1_riseOver_26 : decode cX1_riseOver 26 = .ok (.ireturn, 1) := by decide +kernel
theorem dX2_init_0 : decode cX2_init 0 = .ok (.aload_n 0, 1) := by decide +kernel
theorem dX2_init_1 : decode cX2_init 1 = .ok (.invokespecial 1, 3) := by decide +kernel
theorem dX2_init_4 : decode cX2_init 4 = .ok (.aload_n 0, 1) := by decide +kernel
theorem dX2_init_5 : decode cX2_init 5 = .ok (.iload_n 1, 1) := by decide +kernel
theorem dX2_init_6 : decode cX2_init 6 = .ok (.iconst 0, 1) := by decide +kernel
theorem dX2_init_7 : decode cX2_init 7 = .ok (.invokestatic 7, 3) := by decide +kernel
theorem dX2_init_10 : decode cX2_init 10 = .ok (.newarray .int, 2) := by decide +kernel
theorem dX2_init_12 : decode cX2_init 12 = .ok (.putfield 13, 3) := by decide +kernel
theorem dX2_init_15 : decode cX2_init 15 = .ok (.return_, 1) := by decide +kernel
theorem dX2_get_0 : decode cX2_get 0 = .ok (.iload_n 1, 1) := by decide +kernel
theorem dX2_get_1 : decode cX2_get 1 = .ok (.ifCond .lt 21, 3) := by decide +kernel
theorem dX2_get_4 : decode cX2_get 4 = .ok (.iload_n 1, 1) := by decide +kernel
theorem dX2_get_5 : decode cX2_get 5 = .ok (.aload_n 0, 1) := by decide +kernel
theorem dX2_get_6 : decode cX2_get 6 = .ok (.getfield 13, 3) := by decide +kernel
theorem dX2_get_9 : decode cX2_get 9 = .ok (.arraylength, 1) := by decide +kernel
theorem dX2_get_10 : decode cX2_get 10 = .ok (.if_icmp .ge 12, 3) := by decide +kernel
theorem dX2_get_13 : decode cX2_get 13 = .ok (.aload_n 0, 1) := by decide +kernel
theorem dX2_get_14 : decode cX2_get 14 = .ok (.getfield 13, 3) := by decide +kernel
theorem dX2_get_17 : decode cX2_get 17 = .ok (.iload_n 1, 1) := by decide +kernel
theorem dX2_get_18 : decode cX2_get 18 = .ok (.iaload, 1) := by decide +kernel
theorem dX2_get_19 : decode cX2_get 19 = .ok (.goto 4, 3) := by decide +kernel
theorem dX2_get_22 : decode cX2_get 22 = .ok (.iconst 0, 1) := by decide +kernel
theorem dX2_get_23 : decode cX2_get 23 = .ok (.ireturn, 1) := by decide +kernel
theorem dX2_set_0 : decode cX2_set 0 = .ok (.iload_n 1, 1) := by decide +kernel
theorem dX2_set_1 : decode cX2_set 1 = .ok (.ifCond .lt 19, 3) := by decide +kernel
theorem dX2_set_4 : decode cX2_set 4 = .ok (.iload_n 1, 1) := by decide +kernel
theorem dX2_set_5 : decode cX2_set 5 = .ok (.aload_n 0, 1) := by decide +kernel
theorem dX2_set_6 : decode cX2_set 6 = .ok (.getfield 13, 3) := by decide +kernel
theorem dX2_set_9 : decode cX2_set 9 = .ok (.arraylength, 1) := by decide +kernel
theorem dX2_set_10 : decode cX2_set 10 = .ok (.if_icmp .ge 10, 3) := by decide +kernel
theorem dX2_set_13 : decode cX2_set 13 = .ok (.aload_n 0, 1) := by decide +kernel
theorem dX2_set_14 : decode cX2_set 14 = .ok (.getfield 13, 3) := by decide +kernel
theorem dX2_set_17 : decode cX2_set 17 = .ok (.iload_n 1, 1) := by decide +kernel
theorem dX2_set_18 : decode cX2_set 18 = .ok (.iload_n 2, 1) := by decide +kernel
theorem dX2_set_19 : decode cX2_set 19 = .ok (.iastore, 1) := by decide +kernel
theorem dX2_set_20 : decode cX2_set 20 = .ok (.return_, 1) := by decide +kernel
set_option maxRecDepth 20000 in
theorem ggX2_add_X2_get : GoodIn wsX2_add wsX2_get := goodIn_r _ [5, 6, 11] (by decide +kernel) (by decide +kernel)
set_option maxRecDepth 20000 in
theorem gX2_add_X2_get : GoodIn wsX2_add (wsV RX2 19 RX2 yX2_get wsX2_get) := goodIn_app (goodIn_of _ (by decide +kernel)) ggX2_add_X2_get
set_option maxRecDepth 20000 in
theorem ggX2_add_X2_set : GoodIn wsX2_add wsX2_set := goodIn_r _ [10, 6, 11] (by decide +kernel) (by decide +kernel)
set_option maxRecDepth 20000 in
theorem gX2_add_X2_set : GoodIn wsX2_add (wsV RX2 23 RX2 yX2_set wsX2_set) := goodIn_app (goodIn_of _ (by decide +kernel)) ggX2_add_X2_set
theorem dX2_add_0 : decode cX2_add 0 = .ok (.aload_n 0, 1) := by decide +kernel
theorem dX2_add_1 : decode cX2_add 1 = .ok (.iload_n 1, 1) := by decide +kernel
theorem dX2_add_2 : decode cX2_add 2 = .ok (.aload_n 0, 1) := by decide +kernel
theorem dX2_add_3 : decode cX2_add 3 = .ok (.iload_n 1, 1) := by decide +kernel
theorem dX2_add_4 : decode cX2_add 4 = .ok (.invokevirtual 19, 3) := by decide +kernel
theorem dX2_add_7 : decode cX2_add 7 = .ok (.iload_n 2, 1) := by decide +kernel
theorem dX2_add_8 : decode cX2_add 8 = .ok (.iadd, 1) := by decide +kernel
theorem dX2_add_9 : decode cX2_add 9 = .ok (.invokevirtual 23, 3) := by decide +kernel
theorem dX2_add_12 : decode cX2_add 12 = .ok (.return_, 1) := by decide +kernel
set_option maxRecDepth 20000 in
theorem ggX3_init_X2_init : GoodIn wsX3_init wsX2_init := goodIn_r _ [10, 11, 2, 3, 12, 13, 14, 15, 16, 17, 18] (by decide +kernel) (by decide +kernel)
set_option maxRecDepth 20000 in
theorem gX3_init_X2_init : GoodIn wsX3_init (wsX2_init) := ggX3_init_X2_init
theorem dX3_init_0 : decode cX3_init 0 = .ok (.aload_n 0, 1) := by decide +kernel
theorem dX3_init_1 : decode cX3_init 1 = .ok (.invokespecial 3, 3) := by decide +kernel
theorem dX3_init_4 : decode cX3_init 4 = .ok (.aload_n 0, 1) := by decide +kernel
theorem dX3_init_5 : decode cX3_init 5 = .ok (.new 9, 3) := by decide +kernel
theorem dX3_init_8 : decode cX3_init 8 = .ok (.dup, 1) := by decide +kernel
theorem dX3_init_9 : decode cX3_init 9 = .ok (.bipush 32, 2) := by decide +kernel
theorem dX3_init_11 : decode cX3_init 11 = .ok (.invokespecial 11, 3) := by decide +kernel
theorem dX3_init_14 : decode cX3_init 14 = .ok (.putfield 14, 3) := by decide +kernel
theorem dX3_init_17 : decode cX3_init 17 = .ok (.return_, 1) := by decide +kernel
theorem dX3_size_0 : decode cX3_size 0 = .ok (.aload_n 0, 1) := by decide +kernel
theorem dX3_size_1 : decode cX3_size 1 = .ok (.getfield 20, 3) := by decide +kernel
theorem dX3_size_4 : decode cX3_size 4 = .ok (.ireturn, 1) := by decide +kernel
set_option maxRecDepth 20000 in
theorem ggX3_codeAt_X2_get : GoodIn wsX3_codeAt wsX2_get := goodIn_r _ [6, 7, 10] (by decide +kernel) (by decide +kernel)
set_option maxRecDepth 20000 in
theorem gX3_codeAt_X2_get : GoodIn wsX3_codeAt (wsV RX3 24 RX2 yX2_get wsX2_get) := goodIn_app (goodIn_of _ (by decide +kernel)) ggX3_codeAt_X2_get
theorem dX3_codeAt_0 : decode cX3_codeAt 0 = .ok (.aload_n 0, 1) := by decide +kernel
theorem dX3_codeAt_1 : decode cX3_codeAt 1 = .ok (.getfield 14, 3) := by decide +kernel
theorem dX3_codeAt_4 : decode cX3_codeAt 4 = .ok (.iload_n 1, 1) := by decide +kernel
theorem dX3_codeAt_5 : decode cX3_codeAt 5 = .ok (.invokevirtual 24, 3) := by decide +kernel
theorem dX3_codeAt_8 : decode cX3_codeAt 8 = .ok (.ireturn, 1) := by decide +kernel
theorem dX3_clear_0 : decode cX3_clear 0 = .ok (.aload_n 0, 1) := by decide +kernel
theorem dX3_clear_1 : decode cX3_clear 1 = .ok (.iconst 0, 1) := by decide +kernel
theorem dX3_clear_2 : decode cX3_clear 2 = .ok (.putfield 20, 3) := by decide +kernel
theorem dX3_clear_5 : decode cX3_clear 5 = .ok (.return_, 1) := by decide +kernel
set_option maxRecDepth 20000 in
theorem ggX3_put_X2_set : GoodIn wsX3_put wsX2_set := goodIn_r _ [7, 8, 11] (by decide +kernel) (by decide +kernel)
set_option maxRecDepth 20000 in
theorem gX3_put_X2_set : GoodIn wsX3_put (wsV RX3 28 RX2 yX2_set wsX2_set) := goodIn_app (goodIn_of _ (by decide +kernel)) ggX3_put_X2_set
theorem dX3_put_0 : decode cX3_put 0 = .ok (.aload_n 0, 1) := by decide +kernel
theorem dX3_put_1 : decode cX3_put 1 = .ok (.getfield 20, 3) := by decide +kernel
theorem dX3_put_4 : decode cX3_put 4 = .ok (.bipush 32, 2) := by decide +kernel
theorem dX3_put_6 : decode cX3_put 6 = .ok (.if_icmp .ge 25, 3) := by decide +kernel
theorem dX3_put_9 : decode cX3_put 9 = .ok (.aload_n 0, 1) := by decide +kernel
theorem dX3_put_10 : decode cX3_put 10 = .ok (.getfield 14, 3) := by decide +kernel
theorem dX3_put_13 : decode cX3_put 13 = .ok (.aload_n 0, 1) := by decide +kernel
theorem dX3_put_14 : decode cX3_put 14 = .ok (.getfield 20, 3) := by decide +kernel
theorem dX3_put_17 : decode cX3_put 17 = .ok (.iload_n 1, 1) := by decide +kernel
theorem dX3_put_18 : decode cX3_put 18 = .ok (.invokevirtual 28, 3) := by decide +kernel
theorem dX3_put_21 : decode cX3_put 21 = .ok (.aload_n 0, 1) := by decide +kernel
theorem dX3_put_22 : decode cX3_put 22 = .ok (.dup, 1) := by decide +kernel
theorem dX3_put_23 : decode cX3_put 23 = .ok (.getfield 20, 3) := by decide +kernel
theorem dX3_put_26 : decode cX3_put 26 = .ok (.iconst 1, 1) := by decide +kernel
theorem dX3_put_27 : decode cX3_put 27 = .ok (.iadd, 1) := by decide +kernel
theorem dX3_put_28 : decode cX3_put 28 = .ok (.putfield 20, 3) := by decide +kernel
theorem dX3_put_31 : decode cX3_put 31 = .ok (.return_, 1) := by decide +kernel
set_option maxRecDepth 20000 in
theorem ggX3_putWord_J0_length_8abf5 : GoodIn wsX3_putWord wsJ0_length_8abf5 := goodIn_r _ [5, 6, 7, 8, 9, 4, 10, 11, 12] (by decide +kernel) (by decide +kernel)
set_option maxRecDepth 20000 in
theorem gX3_putWord_J0_length_8abf5 : GoodIn wsX3_putWord (wsV RX3 32 RJ0 yJ0_length_8abf5 wsJ0_length_8abf5) := goodIn_app (goodIn_of _ (by decide +kernel)) ggX3_putWord_J0_length_8abf5
set_option maxRecDepth 20000 in
theorem ggX3_putWord_J0_charAt_5068e : GoodIn wsX3_putWord wsJ0_charAt_5068e := goodIn_r _ [16, 6, 17, 18, 19, 4, 20, 11, 12, 21, 22, 23, 24, 25, 26, 27, 28, 29, 30, 31, 32, 33, 34, 35, 36, 37, 38, 39, 40, 41, 42, 43, 44, 45, 46, 47, 48, 49] (by decide +kernel) (by decide +kernel)
set_option maxRecDepth 20000 in
theorem gX3_putWord_J0_charAt_5068e : GoodIn wsX3_putWord (wsV RX3 38 RJ0 yJ0_charAt_5068e wsJ0_charAt_5068e) := goodIn_app (goodIn_of _ (by decide +kernel)) ggX3_putWord_J0_charAt_5068e
set_option maxRecDepth 20000 in
theorem ggX3_putWord_X3_put : GoodIn wsX3_putWord wsX3_put := goodIn_r _ [54, 55, 56, 57, 58, 59, 60, 61, 62, 63, 64, 65] (by decide +kernel) (by decide +kernel)
set_option maxRecDepth 20000 in
theorem gX3_putWord_X3_put : GoodIn wsX3_putWord (wsV RX3 42 RX3 yX3_put wsX3_put) := goodIn_app (goodIn_of _ (by decide +kernel)) ggX3_putWord_X3_put
theorem dX3_putWord_0 : decode cX3_putWord 0 = .ok (.iconst 0, 1) := by decide +kernel
theorem dX3_putWord_1 : decode cX3_putWord 1 = .ok (.istore_n 2, 1) := by decide +kernel
theorem dX3_putWord_2 : decode cX3_putWord 2 = .ok (.iload_n 2, 1) := by decide +kernel
theorem dX3_putWord_3 : decode cX3_putWord 3 = .ok (.aload_n 1, 1) := by decide +kernel
theorem dX3_putWord_4 : decode cX3_putWord 4 = .ok (.invokevirtual 32, 3) := by decide +kernel
theorem dX3_putWord_7 : decode cX3_putWord 7 = .ok (.if_icmp .ge 18, 3) := by decide +kernel
theorem dX3_putWord_10 : decode cX3_putWord 10 = .ok (.aload_n 0, 1) := by decide +kernel
theorem dX3_putWord_11 : decode cX3_putWord 11 = .ok (.aload_n 1, 1) := by decide +kernel
theorem dX3_putWord_12 : decode cX3_putWord 12 = .ok (.iload_n 2, 1) := by decide +kernel
theorem dX3_putWord_13 : decode cX3_putWord 13 = .ok (.invokevirtual 38, 3) := by decide +kernel
theorem dX3_putWord_16 : decode cX3_putWord 16 = .ok (.invokevirtual 42, 3) := by decide +kernel
theorem dX3_putWord_19 : decode cX3_putWord 19 = .ok (.iinc 2 1, 3) := by decide +kernel
theorem dX3_putWord_22 : decode cX3_putWord 22 = .ok (.goto (-20), 3) := by decide +kernel
theorem dX3_putWord_25 : decode cX3_putWord 25 = .ok (.return_, 1) := by decide +kernel
set_option maxRecDepth 20000 in
theorem ggX3_putNumber_X3_put : GoodIn wsX3_putNumber wsX3_put := goodIn_r _ [6, 7, 8, 9, 10, 11, 12, 13, 14, 15, 16, 17] (by decide +kernel) (by decide +kernel)
set_option maxRecDepth 20000 in
theorem gX3_putNumber_X3_put : GoodIn wsX3_putNumber (wsV RX3 42 RX3 yX3_put wsX3_put) := goodIn_app (goodIn_of _ (by decide +kernel)) ggX3_putNumber_X3_put
theorem dX3_putNumber_0 : decode cX3_putNumber 0 = .ok (.iload_n 1, 1) := by decide +kernel
theorem dX3_putNumber_1 : decode cX3_putNumber 1 = .ok (.ifCond .ge 9, 3) := by decide +kernel
theorem dX3_putNumber_4 : decode cX3_putNumber 4 = .ok (.aload_n 0, 1) := by decide +kernel
theorem dX3_putNumber_5 : decode cX3_putNumber 5 = .ok (.bipush 45, 2) := by decide +kernel
theorem dX3_putNumber_7 : decode cX3_putNumber 7 = .ok (.invokevirtual 42, 3) := by decide +kernel
theorem dX3_putNumber_10 : decode cX3_putNumber 10 = .ok (.iload_n 1, 1) := by decide +kernel
theorem dX3_putNumber_11 : decode cX3_putNumber 11 = .ok (.ifCond .ge 7, 3) := by decide +kernel
theorem dX3_putNumber_14 : decode cX3_putNumber 14 = .ok (.iload_n 1, 1) := by decide +kernel
theorem dX3_putNumber_15 : decode cX3_putNumber 15 = .ok (.goto 5, 3) := by decide +kernel
theorem dX3_putNumber_18 : decode cX3_putNumber 18 = .ok (.iload_n 1, 1) := by decide +kernel
theorem dX3_putNumber_19 : decode cX3_putNumber 19 = .ok (.ineg, 1) := by decide +kernel
theorem dX3_putNumber_20 : decode cX3_putNumber 20 = .ok (.istore_n 2, 1) := by decide +kernel
theorem dX3_putNumber_21 : decode cX3_putNumber 21 = .ok (.iconst 0, 1) := by decide +kernel
theorem dX3_putNumber_22 : decode cX3_putNumber 22 = .ok (.istore_n 3, 1) := by decide +kernel
theorem dX3_putNumber_23 : decode cX3_putNumber 23 = .ok (.ldc 45, 2) := by decide +kernel
theorem dX3_putNumber_25 : decode cX3_putNumber 25 = .ok (.istore 4, 2) := by decide +kernel
theorem dX3_putNumber_27 : decode cX3_putNumber 27 = .ok (.iload 4, 2) := by decide +kernel
theorem dX3_putNumber_29 : decode cX3_putNumber 29 = .ok (.ifCond .le 49, 3) := by decide +kernel
theorem dX3_putNumber_32 : decode cX3_putNumber 32 = .ok (.iload_n 2, 1) := by decide +kernel
theorem dX3_putNumber_33 : decode cX3_putNumber 33 = .ok (.iload 4, 2) := by decide +kernel
theorem dX3_putNumber_35 : decode cX3_putNumber 35 = .ok (.idiv, 1) := by decide +kernel
theorem dX3_putNumber_36 : decode cX3_putNumber 36 = .ok (.bipush 10, 2) := by decide +kernel
theorem dX3_putNumber_38 : decode cX3_putNumber 38 = .ok (.irem, 1) := by decide +kernel
theorem dX3_putNumber_39 : decode cX3_putNumber 39 = .ok (.ineg, 1) := by decide +kernel
theorem dX3_putNumber_40 : decode cX3_putNumber 40 = .ok (.istore 5, 2) := by decide +kernel
theorem dX3_putNumber_42 : decode cX3_putNumber 42 = .ok (.iload_n 3, 1) := by decide +kernel
theorem dX3_putNumber_43 : decode cX3_putNumber 43 = .ok (.ifCond .ne 14, 3) := by decide +kernel
theorem dX3_putNumber_46 : decode cX3_putNumber 46 = .ok (.iload 5, 2) := by decide +kernel
theorem dX3_putNumber_48 : decode cX3_putNumber 48 = .ok (.ifCond .ne 9, 3) := by decide +kernel
theorem dX3_putNumber_51 : decode cX3_putNumber 51 = .ok (.iload 4, 2) := by decide +kernel
theorem dX3_putNumber_53 : decode cX3_putNumber 53 = .ok (.iconst 1, 1) := by decide +kernel
theorem dX3_putNumber_54 : decode cX3_putNumber 54 = .ok (.if_icmp .ne 14, 3) := by decide +kernel
theorem dX3_putNumber_57 : decode cX3_putNumber 57 = .ok (.aload_n 0, 1) := by decide +kernel
theorem dX3_putNumber_58 : decode cX3_putNumber 58 = .ok (.bipush 48, 2) := by decide +kernel
theorem dX3_putNumber_60 : decode cX3_putNumber 60 = .ok (.iload 5, 2) := by decide +kernel
theorem dX3_putNumber_62 : decode cX3_putNumber 62 = .ok (.iadd, 1) := by decide +kernel
theorem dX3_putNumber_63 : decode cX3_putNumber 63 = .ok (.invokevirtual 42, 3) := by decide +kernel
theorem dX3_putNumber_66 : decode cX3_putNumber 66 = .ok (.iconst 1, 1) := by decide +kernel
theorem dX3_putNumber_67 : decode cX3_putNumber 67 = .ok (.istore_n 3, 1) := by decide +kernel
theorem dX3_putNumber_68 : decode cX3_putNumber 68 = .ok (.iload 4, 2) := by decide +kernel
theorem dX3_putNumber_70 : decode cX3_putNumber 70 = .ok (.bipush 10, 2) := by decide +kernel
theorem dX3_putNumber_72 : decode cX3_putNumber 72 = .ok (.idiv, 1) := by decide +kernel
theorem dX3_putNumber_73 : decode cX3_putNumber 73 = .ok (.istore 4, 2) := by decide +kernel
theorem dX3_putNumber_75 : decode cX3_putNumber 75 = .ok (.goto (-48), 3) := by decide +kernel
theorem dX3_putNumber_78 : decode cX3_putNumber 78 = .ok (.return_, 1) := by decide +kernel
set_option maxRecDepth 20000 in
theorem ggX4_init_X2_init : GoodIn wsX4_init wsX2_init := goodIn_r _ [17, 18, 2, 3, 19, 20, 21, 22, 23, 24, 25] (by decide +kernel) (by decide +kernel)
set_option maxRecDepth 20000 in
theorem gX4_init_X2_init : GoodIn wsX4_init (wsX2_init) := ggX4_init_X2_init
theorem dX4_init_0 : decode cX4_init 0 = .ok (.aload_n 0, 1) := by decide +kernel
theorem dX4_init_1 : decode cX4_init 1 = .ok (.invokespecial 3, 3) := by decide +kernel
theorem dX4_init_4 : decode cX4_init 4 = .ok (.aload_n 0, 1) := by decide +kernel
theorem dX4_init_5 : decode cX4_init 5 = .ok (.new 9, 3) := by decide +kernel
theorem dX4_init_8 : decode cX4_init 8 = .ok (.dup, 1) := by decide +kernel
theorem dX4_init_9 : decode cX4_init 9 = .ok (.bipush 120, 2) := by decide +kernel
theorem dX4_init_11 : decode cX4_init 11 = .ok (.invokespecial 11, 3) := by decide +kernel
theorem dX4_init_14 : decode cX4_init 14 = .ok (.putfield 14, 3) := by decide +kernel
theorem dX4_init_17 : decode cX4_init 17 = .ok (.aload_n 0, 1) := by decide +kernel
theorem dX4_init_18 : decode cX4_init 18 = .ok (.new 9, 3) := by decide +kernel
theorem dX4_init_21 : decode cX4_init 21 = .ok (.dup, 1) := by decide +kernel
theorem dX4_init_22 : decode cX4_init 22 = .ok (.bipush 120, 2) := by decide +kernel
theorem dX4_init_24 : decode cX4_init 24 = .ok (.invokespecial 11, 3) := by decide +kernel
theorem dX4_init_27 : decode cX4_init 27 = .ok (.putfield 20, 3) := by decide +kernel
theorem dX4_init_30 : decode cX4_init 30 = .ok (.aload_n 0, 1) := by decide +kernel
theorem dX4_init_31 : decode cX4_init 31 = .ok (.new 9, 3) := by decide +kernel
theorem dX4_init_34 : decode cX4_init 34 = .ok (.dup, 1) := by decide +kernel
theorem dX4_init_35 : decode cX4_init 35 = .ok (.bipush 120, 2) := by decide +kernel
theorem dX4_init_37 : decode cX4_init 37 = .ok (.invokespecial 11, 3) := by decide +kernel
theorem dX4_init_40 : decode cX4_init 40 = .ok (.putfield 23, 3) := by decide +kernel
theorem dX4_init_43 : decode cX4_init 43 = .ok (.aload_n 0, 1) := by decide +kernel
theorem dX4_init_44 : decode cX4_init 44 = .ok (.new 9, 3) := by decide +kernel
theorem dX4_init_47 : decode cX4_init 47 = .ok (.dup, 1) := by decide +kernel
theorem dX4_init_48 : decode cX4_init 48 = .ok (.bipush 120, 2) := by decide +kernel
theorem dX4_init_50 : decode cX4_init 50 = .ok (.invokespecial 11, 3) := by decide +kernel
theorem dX4_init_53 : decode cX4_init 53 = .ok (.putfield 26, 3) := by decide +kernel
theorem dX4_init_56 : decode cX4_init 56 = .ok (.aload_n 0, 1) := by decide +kernel
theorem dX4_init_57 : decode cX4_init 57 = .ok (.new 9, 3) := by decide +kernel
theorem dX4_init_60 : decode cX4_init 60 = .ok (.dup, 1) := by decide +kernel
theorem dX4_init_61 : decode cX4_init 61 = .ok (.bipush 120, 2) := by decide +kernel
theorem dX4_init_63 : decode cX4_init 63 = .ok (.invokespecial 11, 3) := by decide +kernel
theorem dX4_init_66 : decode cX4_init 66 = .ok (.putfield 29, 3) := by decide +kernel
theorem dX4_init_69 : decode cX4_init 69 = .ok (.aload_n 0, 1) := by decide +kernel
theorem dX4_init_70 : decode cX4_init 70 = .ok (.new 9, 3) := by decide +kernel
theorem dX4_init_73 : decode cX4_init 73 = .ok (.dup, 1) := by decide +kernel
theorem dX4_init_74 : decode cX4_init 74 = .ok (.bipush 120, 2) := by decide +kernel
theorem dX4_init_76 : decode cX4_init 76 = .ok (.invokespecial 11, 3) := by decide +kernel
theorem dX4_init_79 : decode cX4_init 79 = .ok (.putfield 32, 3) := by decide +kernel
theorem dX4_init_82 : decode cX4_init 82 = .ok (.aload_n 0, 1) := by decide +kernel
theorem dX4_init_83 : decode cX4_init 83 = .ok (.new 9, 3) := by decide +kernel
theorem dX4_init_86 : decode cX4_init 86 = .ok (.dup, 1) := by decide +kernel
theorem dX4_init_87 : decode cX4_init 87 = .ok (.bipush 120, 2) := by decide +kernel
theorem dX4_init_89 : decode cX4_init 89 = .ok (.invokespecial 11, 3) := by decide +kernel
theorem dX4_init_92 : decode cX4_init 92 = .ok (.putfield 35, 3) := by decide +kernel
theorem dX4_init_95 : decode cX4_init 95 = .ok (.aload_n 0, 1) := by decide +kernel
theorem dX4_init_96 : decode cX4_init 96 = .ok (.new 9, 3) := by decide +kernel
theorem dX4_init_99 : decode cX4_init 99 = .ok (.dup, 1) := by decide +kernel
theorem dX4_init_100 : decode cX4_init 100 = .ok (.bipush 120, 2) := by decide +kernel
theorem dX4_init_102 : decode cX4_init 102 = .ok (.invokespecial 11, 3) := by decide +kernel
theorem dX4_init_105 : decode cX4_init 105 = .ok (.putfield 38, 3) := by decide +kernel
theorem dX4_init_108 : decode cX4_init 108 = .ok (.return_, 1) := by decide +kernel
theorem dX4_count_0 : decode cX4_count 0 = .ok (.aload_n 0, 1) := by decide +kernel
theorem dX4_count_1 : decode cX4_count 1 = .ok (.getfield 41, 3) := by decide +kernel
theorem dX4_count_4 : decode cX4_count 4 = .ok (.ireturn, 1) := by decide +kernel
set_option maxRecDepth 20000 in
theorem ggX4_headOf_X2_get : GoodIn wsX4_headOf wsX2_get := goodIn_r _ [6, 7, 17] (by decide +kernel) (by decide +kernel)
set_option maxRecDepth 20000 in
theorem gX4_headOf_X2_get : GoodIn wsX4_headOf (wsV RX4 45 RX2 yX2_get wsX2_get) := goodIn_app (goodIn_of _ (by decide +kernel)) ggX4_headOf_X2_get
theorem dX4_headOf_0 : decode cX4_headOf 0 = .ok (.aload_n 0, 1) := by decide +kernel
theorem dX4_headOf_1 : decode cX4_headOf 1 = .ok (.getfield 14, 3) := by decide +kernel
theorem dX4_headOf_4 : decode cX4_headOf 4 = .ok (.iload_n 1, 1) := by decide +kernel
theorem dX4_headOf_5 : decode cX4_headOf 5 = .ok (.invokevirtual 45, 3) := by decide +kernel
theorem dX4_headOf_8 : decode cX4_headOf 8 = .ok (.ireturn, 1) := by decide +kernel
set_option maxRecDepth 20000 in
theorem ggX4_pauseOf_X2_get : GoodIn wsX4_pauseOf wsX2_get := goodIn_r _ [6, 7, 17] (by decide +kernel) (by decide +kernel)
set_option maxRecDepth 20000 in
theorem gX4_pauseOf_X2_get : GoodIn wsX4_pauseOf (wsV RX4 45 RX2 yX2_get wsX2_get) := goodIn_app (goodIn_of _ (by decide +kernel)) ggX4_pauseOf_X2_get
theorem dX4_pauseOf_0 : decode cX4_pauseOf 0 = .ok (.aload_n 0, 1) := by decide +kernel
theorem dX4_pauseOf_1 : decode cX4_pauseOf 1 = .ok (.getfield 20, 3) := by decide +kernel
theorem dX4_pauseOf_4 : decode cX4_pauseOf 4 = .ok (.iload_n 1, 1) := by decide +kernel
theorem dX4_pauseOf_5 : decode cX4_pauseOf 5 = .ok (.invokevirtual 45, 3) := by decide +kernel
theorem dX4_pauseOf_8 : decode cX4_pauseOf 8 = .ok (.ireturn, 1) := by decide +kernel
set_option maxRecDepth 20000 in
theorem ggX4_timeOf_X2_get : GoodIn wsX4_timeOf wsX2_get := goodIn_r _ [6, 7, 17] (by decide +kernel) (by decide +kernel)
set_option maxRecDepth 20000 in
theorem gX4_timeOf_X2_get : GoodIn wsX4_timeOf (wsV RX4 45 RX2 yX2_get wsX2_get) := goodIn_app (goodIn_of _ (by decide +kernel)) ggX4_timeOf_X2_get
theorem dX4_timeOf_0 : decode cX4_timeOf 0 = .ok (.aload_n 0, 1) := by decide +kernel
theorem dX4_timeOf_1 : decode cX4_timeOf 1 = .ok (.getfield 23, 3) := by decide +kernel
theorem dX4_timeOf_4 : decode cX4_timeOf 4 = .ok (.iload_n 1, 1) := by decide +kernel
theorem dX4_timeOf_5 : decode cX4_timeOf 5 = .ok (.invokevirtual 45, 3) := by decide +kernel
theorem dX4_timeOf_8 : decode cX4_timeOf 8 = .ok (.ireturn, 1) := by decide +kernel
set_option maxRecDepth 20000 in
theorem ggX4_mannerOf_X2_get : GoodIn wsX4_mannerOf wsX2_get := goodIn_r _ [6, 7, 17] (by decide +kernel) (by decide +kernel)
set_option maxRecDepth 20000 in
theorem gX4_mannerOf_X2_get : GoodIn wsX4_mannerOf (wsV RX4 45 RX2 yX2_get wsX2_get) := goodIn_app (goodIn_of _ (by decide +kernel)) ggX4_mannerOf_X2_get
theorem dX4_mannerOf_0 : decode cX4_mannerOf 0 = .ok (.aload_n 0, 1) := by decide +kernel
theorem dX4_mannerOf_1 : decode cX4_mannerOf 1 = .ok (.getfield 26, 3) := by decide +kernel
theorem dX4_mannerOf_4 : decode cX4_mannerOf 4 = .ok (.iload_n 1, 1) := by decide +kernel
theorem dX4_mannerOf_5 : decode cX4_mannerOf 5 = .ok (.invokevirtual 45, 3) := by decide +kernel
theorem dX4_mannerOf_8 : decode cX4_mannerOf 8 = .ok (.ireturn, 1) := by decide +kernel
set_option maxRecDepth 20000 in
theorem ggX4_cameOf_X2_get : GoodIn wsX4_cameOf wsX2_get := goodIn_r _ [6, 7, 17] (by decide +kernel) (by decide +kernel)
set_option maxRecDepth 20000 in
theorem gX4_cameOf_X2_get : GoodIn wsX4_cameOf (wsV RX4 45 RX2 yX2_get wsX2_get) := goodIn_app (goodIn_of _ (by decide +kernel)) ggX4_cameOf_X2_get
theorem dX4_cameOf_0 : decode cX4_cameOf 0 = .ok (.aload_n 0, 1) := by decide +kernel
theorem dX4_cameOf_1 : decode cX4_cameOf 1 = .ok (.getfield 29, 3) := by decide +kernel
theorem dX4_cameOf_4 : decode cX4_cameOf 4 = .ok (.iload_n 1, 1) := by decide +kernel
theorem dX4_cameOf_5 : decode cX4_cameOf 5 = .ok (.invokevirtual 45, 3) := by decide +kernel
theorem dX4_cameOf_8 : decode cX4_cameOf 8 = .ok (.ireturn, 1) := by decide +kernel
set_option maxRecDepth 20000 in
theorem ggX4_playedOf_X2_get : GoodIn wsX4_playedOf wsX2_get := goodIn_r _ [6, 7, 17] (by decide +kernel) (by decide +kernel)
set_option maxRecDepth 20000 in
theorem gX4_playedOf_X2_get : GoodIn wsX4_playedOf (wsV RX4 45 RX2 yX2_get wsX2_get) := goodIn_app (goodIn_of _ (by decide +kernel)) ggX4_playedOf_X2_get
theorem dX4_playedOf_0 : decode cX4_playedOf 0 = .ok (.aload_n 0, 1) := by decide +kernel
theorem dX4_playedOf_1 : decode cX4_playedOf 1 = .ok (.getfield 32, 3) := by decide +kernel
theorem dX4_playedOf_4 : decode cX4_playedOf 4 = .ok (.iload_n 1, 1) := by decide +kernel
theorem dX4_playedOf_5 : decode cX4_playedOf 5 = .ok (.invokevirtual 45, 3) := by decide +kernel
theorem dX4_playedOf_8 : decode cX4_playedOf 8 = .ok (.ireturn, 1) := by decide +kernel
set_option maxRecDepth 20000 in
theorem ggX4_greatestOf_X2_get : GoodIn wsX4_greatestOf wsX2_get := goodIn_r _ [6, 7, 17] (by decide +kernel) (by decide +kernel)
set_option maxRecDepth 20000 in
theorem gX4_greatestOf_X2_get : GoodIn wsX4_greatestOf (wsV RX4 45 RX2 yX2_get wsX2_get) := goodIn_app (goodIn_of _ (by decide +kernel)) ggX4_greatestOf_X2_get
theorem dX4_greatestOf_0 : decode cX4_greatestOf 0 = .ok (.aload_n 0, 1) := by decide +kernel
theorem dX4_greatestOf_1 : decode cX4_greatestOf 1 = .ok (.getfield 35, 3) := by decide +kernel
theorem dX4_greatestOf_4 : decode cX4_greatestOf 4 = .ok (.iload_n 1, 1) := by decide +kernel
theorem dX4_greatestOf_5 : decode cX4_greatestOf 5 = .ok (.invokevirtual 45, 3) := by decide +kernel
theorem dX4_greatestOf_8 : decode cX4_greatestOf 8 = .ok (.ireturn, 1) := by decide +kernel
set_option maxRecDepth 20000 in
theorem ggX4_missingOf_X2_get : GoodIn wsX4_missingOf wsX2_get := goodIn_r _ [8, 9, 19] (by decide +kernel) (by decide +kernel)
set_option maxRecDepth 20000 in
theorem gX4_missingOf_X2_get : GoodIn wsX4_missingOf (wsV RX4 45 RX2 yX2_get wsX2_get) := goodIn_app (goodIn_of _ (by decide +kernel)) ggX4_missingOf_X2_get
theorem dX4_missingOf_0 : decode cX4_missingOf 0 = .ok (.aload_n 0, 1) := by decide +kernel
theorem dX4_missingOf_1 : decode cX4_missingOf 1 = .ok (.getfield 35, 3) := by decide +kernel
theorem dX4_missingOf_4 : decode cX4_missingOf 4 = .ok (.iload_n 1, 1) := by decide +kernel
theorem dX4_missingOf_5 : decode cX4_missingOf 5 = .ok (.invokevirtual 45, 3) := by decide +kernel
theorem dX4_missingOf_8 : decode cX4_missingOf 8 = .ok (.aload_n 0, 1) := by decide +kernel
theorem dX4_missingOf_9 : decode cX4_missingOf 9 = .ok (.getfield 14, 3) := by decide +kernel
theorem dX4_missingOf_12 : decode cX4_missingOf 12 = .ok (.iload_n 1, 1) := by decide +kernel
theorem dX4_missingOf_13 : decode cX4_missingOf 13 = .ok (.invokevirtual 45, 3) := by decide +kernel
theorem dX4_missingOf_16 : decode cX4_missingOf 16 = .ok (.isub, 1) := by decide +kernel
theorem dX4_missingOf_17 : decode cX4_missingOf 17 = .ok (.iconst 1, 1) := by decide +kernel
theorem dX4_missingOf_18 : decode cX4_missingOf 18 = .ok (.iadd, 1) := by decide +kernel
theorem dX4_missingOf_19 : decode cX4_missingOf 19 = .ok (.aload_n 0, 1) := by decide +kernel
theorem dX4_missingOf_20 : decode cX4_missingOf 20 = .ok (.getfield 29, 3) := by decide +kernel
theorem dX4_missingOf_23 : decode cX4_missingOf 23 = .ok (.iload_n 1, 1) := by decide +kernel
theorem dX4_missingOf_24 : decode cX4_missingOf 24 = .ok (.invokevirtual 45, 3) := by decide +kernel
theorem dX4_missingOf_27 : decode cX4_missingOf 27 = .ok (.isub, 1) := by decide +kernel
theorem dX4_missingOf_28 : decode cX4_missingOf 28 = .ok (.ireturn, 1) := by decide +kernel
set_option maxRecDepth 20000 in
theorem ggX4_atRank_X2_get : GoodIn wsX4_atRank wsX2_get := goodIn_r _ [6, 7, 17] (by decide +kernel) (by decide +kernel)
set_option maxRecDepth 20000 in
theorem gX4_atRank_X2_get : GoodIn wsX4_atRank (wsV RX4 45 RX2 yX2_get wsX2_get) := goodIn_app (goodIn_of _ (by decide +kernel)) ggX4_atRank_X2_get
theorem dX4_atRank_0 : decode cX4_atRank 0 = .ok (.aload_n 0, 1) := by decide +kernel
theorem dX4_atRank_1 : decode cX4_atRank 1 = .ok (.getfield 38, 3) := by decide +kernel
theorem dX4_atRank_4 : decode cX4_atRank 4 = .ok (.iload_n 1, 1) := by decide +kernel
theorem dX4_atRank_5 : decode cX4_atRank 5 = .ok (.invokevirtual 45, 3) := by decide +kernel
theorem dX4_atRank_8 : decode cX4_atRank 8 = .ok (.ireturn, 1) := by decide +kernel
set_option maxRecDepth 20000 in
theorem ggX4_playedOfAll_X4_playedOf : GoodIn wsX4_playedOfAll wsX4_playedOf := goodIn_r _ [6, 7, 8, 9, 10, 11, 12, 13, 14, 15, 16, 17, 18, 19, 20, 21, 22, 23] (by decide +kernel) (by decide +kernel)
set_option maxRecDepth 20000 in
theorem gX4_playedOfAll_X4_playedOf : GoodIn wsX4_playedOfAll (wsV RX4 49 RX4 yX4_playedOf wsX4_playedOf) := goodIn_app (goodIn_of _ (by decide +kernel)) ggX4_playedOfAll_X4_playedOf
theorem dX4_playedOfAll_0 : decode cX4_playedOfAll 0 = .ok (.iconst 0, 1) := by decide +kernel
theorem dX4_playedOfAll_1 : decode cX4_playedOfAll 1 = .ok (.istore_n 1, 1) := by decide +kernel
theorem dX4_playedOfAll_2 : decode cX4_playedOfAll 2 = .ok (.iconst 0, 1) := by decide +kernel
theorem dX4_playedOfAll_3 : decode cX4_playedOfAll 3 = .ok (.istore_n 2, 1) := by decide +kernel
theorem dX4_playedOfAll_4 : decode cX4_playedOfAll 4 = .ok (.iload_n 2, 1) := by decide +kernel
theorem dX4_playedOfAll_5 : decode cX4_playedOfAll 5 = .ok (.aload_n 0, 1) := by decide +kernel
theorem dX4_playedOfAll_6 : decode cX4_playedOfAll 6 = .ok (.getfield 41, 3) := by decide +kernel
theorem dX4_playedOfAll_9 : decode cX4_playedOfAll 9 = .ok (.if_icmp .ge 17, 3) := by decide +kernel
theorem dX4_playedOfAll_12 : decode cX4_playedOfAll 12 = .ok (.iload_n 1, 1) := by decide +kernel
theorem dX4_playedOfAll_13 : decode cX4_playedOfAll 13 = .ok (.aload_n 0, 1) := by decide +kernel
theorem dX4_playedOfAll_14 : decode cX4_playedOfAll 14 = .ok (.iload_n 2, 1) := by decide +kernel
theorem dX4_playedOfAll_15 : decode cX4_playedOfAll 15 = .ok (.invokevirtual 49, 3) := by decide +kernel
theorem dX4_playedOfAll_18 : decode cX4_playedOfAll 18 = .ok (.iadd, 1) := by decide +kernel
theorem dX4_playedOfAll_19 : decode cX4_playedOfAll 19 = .ok (.istore_n 1, 1) := by decide +kernel
theorem dX4_playedOfAll_20 : decode cX4_playedOfAll 20 = .ok (.iinc 2 1, 3) := by decide +kernel
theorem dX4_playedOfAll_23 : decode cX4_playedOfAll 23 = .ok (.goto (-19), 3) := by decide +kernel
theorem dX4_playedOfAll_26 : decode cX4_playedOfAll 26 = .ok (.iload_n 1, 1) := by decide +kernel
theorem dX4_playedOfAll_27 : decode cX4_playedOfAll 27 = .ok (.ireturn, 1) := by decide +kernel
set_option maxRecDepth 20000 in
theorem ggX4_missingOfAll_X4_missingOf : GoodIn wsX4_missingOfAll wsX4_missingOf := goodIn_r _ [6, 7, 8, 9, 10, 11, 12, 13, 14, 15, 16, 17, 18, 19, 20, 21, 22, 23, 24, 25] (by decide +kernel) (by decide +kernel)
set_option maxRecDepth 20000 in
theorem gX4_missingOfAll_X4_missingOf : GoodIn wsX4_missingOfAll (wsV RX4 52 RX4 yX4_missingOf wsX4_missingOf) := goodIn_app (goodIn_of _ (by decide +kernel)) ggX4_missingOfAll_X4_missingOf
theorem dX4_missingOfAll_0 : decode cX4_missingOfAll 0 = .ok (.iconst 0, 1) := by decide +kernel
theorem dX4_missingOfAll_1 : decode cX4_missingOfAll 1 = .ok (.istore_n 1, 1) := by decide +kernel
theorem dX4_missingOfAll_2 : decode cX4_missingOfAll 2 = .ok (.iconst 0, 1) := by decide +kernel
theorem dX4_missingOfAll_3 : decode cX4_missingOfAll 3 = .ok (.istore_n 2, 1) := by decide +kernel
theorem dX4_missingOfAll_4 : decode cX4_missingOfAll 4 = .ok (.iload_n 2, 1) := by decide +kernel
theorem dX4_missingOfAll_5 : decode cX4_missingOfAll 5 = .ok (.aload_n 0, 1) := by decide +kernel
theorem dX4_missingOfAll_6 : decode cX4_missingOfAll 6 = .ok (.getfield 41, 3) := by decide +kernel
theorem dX4_missingOfAll_9 : decode cX4_missingOfAll 9 = .ok (.if_icmp .ge 17, 3) := by decide +kernel
theorem dX4_missingOfAll_12 : decode cX4_missingOfAll 12 = .ok (.iload_n 1, 1) := by decide +kernel
theorem dX4_missingOfAll_13 : decode cX4_missingOfAll 13 = .ok (.aload_n 0, 1) := by decide +kernel
theorem dX4_missingOfAll_14 : decode cX4_missingOfAll 14 = .ok (.iload_n 2, 1) := by decide +kernel
theorem dX4_missingOfAll_15 : decode cX4_missingOfAll 15 = .ok (.invokevirtual 52, 3) := by decide +kernel
theorem dX4_missingOfAll_18 : decode cX4_missingOfAll 18 = .ok (.iadd, 1) := by decide +kernel
theorem dX4_missingOfAll_19 : decode cX4_missingOfAll 19 = .ok (.istore_n 1, 1) := by decide +kernel
theorem dX4_missingOfAll_20 : decode cX4_missingOfAll 20 = .ok (.iinc 2 1, 3) := by decide +kernel
theorem dX4_missingOfAll_23 : decode cX4_missingOfAll 23 = .ok (.goto (-19), 3) := by decide +kernel
theorem dX4_missingOfAll_26 : decode cX4_missingOfAll 26 = .ok (.iload_n 1, 1) := by decide +kernel
theorem dX4_missingOfAll_27 : decode cX4_missingOfAll 27 = .ok (.ireturn, 1) := by decide +kernel
set_option maxRecDepth 20000 in
theorem ggX4_withHead_X2_get : GoodIn wsX4_withHead wsX2_get := goodIn_r _ [7, 8, 18] (by decide +kernel) (by decide +kernel)
set_option maxRecDepth 20000 in
theorem gX4_withHead_X2_get : GoodIn wsX4_withHead (wsV RX4 45 RX2 yX2_get wsX2_get) := goodIn_app (goodIn_of _ (by decide +kernel)) ggX4_withHead_X2_get
theorem dX4_withHead_0 : decode cX4_withHead 0 = .ok (.iconst 0, 1) := by decide +kernel
theorem dX4_withHead_1 : decode cX4_withHead 1 = .ok (.istore_n 2, 1) := by decide +kernel
theorem dX4_withHead_2 : decode cX4_withHead 2 = .ok (.iload_n 2, 1) := by decide +kernel
theorem dX4_withHead_3 : decode cX4_withHead 3 = .ok (.aload_n 0, 1) := by decide +kernel
theorem dX4_withHead_4 : decode cX4_withHead 4 = .ok (.getfield 41, 3) := by decide +kernel
theorem dX4_withHead_7 : decode cX4_withHead 7 = .ok (.if_icmp .ge 23, 3) := by decide +kernel
theorem dX4_withHead_10 : decode cX4_withHead 10 = .ok (.aload_n 0, 1) := by decide +kernel
theorem dX4_withHead_11 : decode cX4_withHead 11 = .ok (.getfield 14, 3) := by decide +kernel
theorem dX4_withHead_14 : decode cX4_withHead 14 = .ok (.iload_n 2, 1) := by decide +kernel
theorem dX4_withHead_15 : decode cX4_withHead 15 = .ok (.invokevirtual 45, 3) := by decide +kernel
theorem dX4_withHead_18 : decode cX4_withHead 18 = .ok (.iload_n 1, 1) := by decide +kernel
theorem dX4_withHead_19 : decode cX4_withHead 19 = .ok (.if_icmp .ne 5, 3) := by decide +kernel
theorem dX4_withHead_22 : decode cX4_withHead 22 = .ok (.iload_n 2, 1) := by decide +kernel
theorem dX4_withHead_23 : decode cX4_withHead 23 = .ok (.ireturn, 1) := by decide +kernel
theorem dX4_withHead_24 : decode cX4_withHead 24 = .ok (.iinc 2 1, 3) := by decide +kernel
theorem dX4_withHead_27 : decode cX4_withHead 27 = .ok (.goto (-25), 3) := by decide +kernel
theorem dX4_withHead_30 : decode cX4_withHead 30 = .ok (.iconst (-1), 1) := by decide +kernel
theorem dX4_withHead_31 : decode cX4_withHead 31 = .ok (.ireturn, 1) := by decide +kernel
set_option maxRecDepth 20000 in
theorem ggX4_bar_X2_get : GoodIn wsX4_bar wsX2_get := goodIn_r _ [8, 9, 25] (by decide +kernel) (by decide +kernel)
set_option maxRecDepth 20000 in
theorem gX4_bar_X2_get : GoodIn wsX4_bar (wsV RX4 45 RX2 yX2_get wsX2_get) := goodIn_app (goodIn_of _ (by decide +kernel)) ggX4_bar_X2_get
set_option maxRecDepth 20000 in
theorem ggX4_bar_X4_isInTheWay : GoodIn wsX4_bar wsX4_isInTheWay := goodIn_r _ [14, 2, 15, 3, 4, 5, 6, 7, 8, 9, 16, 17, 18, 19, 20, 21, 22, 23, 24, 25] (by decide +kernel) (by decide +kernel)
set_option maxRecDepth 20000 in
theorem gX4_bar_X4_isInTheWay : GoodIn wsX4_bar (wsV RX4 55 RX4 yX4_isInTheWay wsX4_isInTheWay) := goodIn_app (goodIn_of _ (by decide +kernel)) ggX4_bar_X4_isInTheWay
theorem dX4_bar_0 : decode cX4_bar 0 = .ok (.iconst 0, 1) := by decide +kernel
theorem dX4_bar_1 : decode cX4_bar 1 = .ok (.istore 4, 2) := by decide +kernel
theorem dX4_bar_3 : decode cX4_bar 3 = .ok (.iload 4, 2) := by decide +kernel
theorem dX4_bar_5 : decode cX4_bar 5 = .ok (.aload_n 0, 1) := by decide +kernel
theorem dX4_bar_6 : decode cX4_bar 6 = .ok (.getfield 41, 3) := by decide +kernel
theorem dX4_bar_9 : decode cX4_bar 9 = .ok (.if_icmp .ge 61, 3) := by decide +kernel
theorem dX4_bar_12 : decode cX4_bar 12 = .ok (.aload_n 0, 1) := by decide +kernel
theorem dX4_bar_13 : decode cX4_bar 13 = .ok (.getfield 14, 3) := by decide +kernel
theorem dX4_bar_16 : decode cX4_bar 16 = .ok (.iload 4, 2) := by decide +kernel
theorem dX4_bar_18 : decode cX4_bar 18 = .ok (.invokevirtual 45, 3) := by decide +kernel
theorem dX4_bar_21 : decode cX4_bar 21 = .ok (.iload_n 2, 1) := by decide +kernel
theorem dX4_bar_22 : decode cX4_bar 22 = .ok (.if_icmp .ne 20, 3) := by decide +kernel
theorem dX4_bar_25 : decode cX4_bar 25 = .ok (.aload_n 0, 1) := by decide +kernel
theorem dX4_bar_26 : decode cX4_bar 26 = .ok (.getfield 20, 3) := by decide +kernel
theorem dX4_bar_29 : decode cX4_bar 29 = .ok (.iload 4, 2) := by decide +kernel
theorem dX4_bar_31 : decode cX4_bar 31 = .ok (.invokevirtual 45, 3) := by decide +kernel
theorem dX4_bar_34 : decode cX4_bar 34 = .ok (.iload_n 3, 1) := by decide +kernel
theorem dX4_bar_35 : decode cX4_bar 35 = .ok (.if_icmp .eq 7, 3) := by decide +kernel
theorem dX4_bar_38 : decode cX4_bar 38 = .ok (.iconst 1, 1) := by decide +kernel
theorem dX4_bar_39 : decode cX4_bar 39 = .ok (.goto 4, 3) := by decide +kernel
theorem dX4_bar_42 : decode cX4_bar 42 = .ok (.iconst 0, 1) := by decide +kernel
theorem dX4_bar_43 : decode cX4_bar 43 = .ok (.istore 5, 2) := by decide +kernel
theorem dX4_bar_45 : decode cX4_bar 45 = .ok (.iload 5, 2) := by decide +kernel
theorem dX4_bar_47 : decode cX4_bar 47 = .ok (.ifCond .ne 15, 3) := by decide +kernel
theorem dX4_bar_50 : decode cX4_bar 50 = .ok (.aload_n 0, 1) := by decide +kernel
theorem dX4_bar_51 : decode cX4_bar 51 = .ok (.iload 4, 2) := by decide +kernel
theorem dX4_bar_53 : decode cX4_bar 53 = .ok (.iload_n 1, 1) := by decide +kernel
theorem dX4_bar_54 : decode cX4_bar 54 = .ok (.iload_n 2, 1) := by decide +kernel
theorem dX4_bar_55 : decode cX4_bar 55 = .ok (.iload_n 3, 1) := by decide +kernel
theorem dX4_bar_56 : decode cX4_bar 56 = .ok (.invokevirtual 55, 3) := by decide +kernel
theorem dX4_bar_59 : decode cX4_bar 59 = .ok (.ifCond .eq 5, 3) := by decide +kernel
theorem dX4_bar_62 : decode cX4_bar 62 = .ok (.iconst 1, 1) := by decide +kernel
theorem dX4_bar_63 : decode cX4_bar 63 = .ok (.ireturn, 1) := by decide +kernel
theorem dX4_bar_64 : decode cX4_bar 64 = .ok (.iinc 4 1, 3) := by decide +kernel
theorem dX4_bar_67 : decode cX4_bar 67 = .ok (.goto (-64), 3) := by decide +kernel
theorem dX4_bar_70 : decode cX4_bar 70 = .ok (.iconst 0, 1) := by decide +kernel
theorem dX4_bar_71 : decode cX4_bar 71 = .ok (.ireturn, 1) := by decide +kernel
set_option maxRecDepth 20000 in
theorem ggX4_isInTheWay_X2_get : GoodIn wsX4_isInTheWay wsX2_get := goodIn_r _ [8, 9, 19] (by decide +kernel) (by decide +kernel)
set_option maxRecDepth 20000 in
theorem gX4_isInTheWay_X2_get : GoodIn wsX4_isInTheWay (wsV RX4 45 RX2 yX2_get wsX2_get) := goodIn_app (goodIn_of _ (by decide +kernel)) ggX4_isInTheWay_X2_get
theorem dX4_isInTheWay_0 : decode cX4_isInTheWay 0 = .ok (.aload_n 0, 1) := by decide +kernel
theorem dX4_isInTheWay_1 : decode cX4_isInTheWay 1 = .ok (.getfield 14, 3) := by decide +kernel
theorem dX4_isInTheWay_4 : decode cX4_isInTheWay 4 = .ok (.iload_n 1, 1) := by decide +kernel
theorem dX4_isInTheWay_5 : decode cX4_isInTheWay 5 = .ok (.invokevirtual 45, 3) := by decide +kernel
theorem dX4_isInTheWay_8 : decode cX4_isInTheWay 8 = .ok (.istore 5, 2) := by decide +kernel
theorem dX4_isInTheWay_10 : decode cX4_isInTheWay 10 = .ok (.iload 5, 2) := by decide +kernel
theorem dX4_isInTheWay_12 : decode cX4_isInTheWay 12 = .ok (.iload_n 3, 1) := by decide +kernel
theorem dX4_isInTheWay_13 : decode cX4_isInTheWay 13 = .ok (.if_icmp .ge 24, 3) := by decide +kernel
theorem dX4_isInTheWay_16 : decode cX4_isInTheWay 16 = .ok (.aload_n 0, 1) := by decide +kernel
theorem dX4_isInTheWay_17 : decode cX4_isInTheWay 17 = .ok (.getfield 35, 3) := by decide +kernel
theorem dX4_isInTheWay_20 : decode cX4_isInTheWay 20 = .ok (.iload_n 1, 1) := by decide +kernel
theorem dX4_isInTheWay_21 : decode cX4_isInTheWay 21 = .ok (.invokevirtual 45, 3) := by decide +kernel
theorem dX4_isInTheWay_24 : decode cX4_isInTheWay 24 = .ok (.iload_n 3, 1) := by decide +kernel
theorem dX4_isInTheWay_25 : decode cX4_isInTheWay 25 = .ok (.iload 4, 2) := by decide +kernel
theorem dX4_isInTheWay_27 : decode cX4_isInTheWay 27 = .ok (.isub, 1) := by decide +kernel
theorem dX4_isInTheWay_28 : decode cX4_isInTheWay 28 = .ok (.if_icmp .lt 7, 3) := by decide +kernel
theorem dX4_isInTheWay_31 : decode cX4_isInTheWay 31 = .ok (.iconst 1, 1) := by decide +kernel
theorem dX4_isInTheWay_32 : decode cX4_isInTheWay 32 = .ok (.goto 4, 3) := by decide +kernel
theorem dX4_isInTheWay_35 : decode cX4_isInTheWay 35 = .ok (.iconst 0, 1) := by decide +kernel
theorem dX4_isInTheWay_36 : decode cX4_isInTheWay 36 = .ok (.ireturn, 1) := by decide +kernel
theorem dX4_isInTheWay_37 : decode cX4_isInTheWay 37 = .ok (.iload 5, 2) := by decide +kernel
theorem dX4_isInTheWay_39 : decode cX4_isInTheWay 39 = .ok (.iload_n 3, 1) := by decide +kernel
theorem dX4_isInTheWay_40 : decode cX4_isInTheWay 40 = .ok (.if_icmp .le 22, 3) := by decide +kernel
theorem dX4_isInTheWay_43 : decode cX4_isInTheWay 43 = .ok (.iload_n 2, 1) := by decide +kernel
theorem dX4_isInTheWay_44 : decode cX4_isInTheWay 44 = .ok (.iload 5, 2) := by decide +kernel
theorem dX4_isInTheWay_46 : decode cX4_isInTheWay 46 = .ok (.aload_n 0, 1) := by decide +kernel
theorem dX4_isInTheWay_47 : decode cX4_isInTheWay 47 = .ok (.getfield 20, 3) := by decide +kernel
theorem dX4_isInTheWay_50 : decode cX4_isInTheWay 50 = .ok (.iload_n 1, 1) := by decide +kernel
theorem dX4_isInTheWay_51 : decode cX4_isInTheWay 51 = .ok (.invokevirtual 45, 3) := by decide +kernel
theorem dX4_isInTheWay_54 : decode cX4_isInTheWay 54 = .ok (.isub, 1) := by decide +kernel
theorem dX4_isInTheWay_55 : decode cX4_isInTheWay 55 = .ok (.if_icmp .lt 7, 3) := by decide +kernel
theorem dX4_isInTheWay_58 : decode cX4_isInTheWay 58 = .ok (.iconst 1, 1) := by decide +kernel
theorem dX4_isInTheWay_59 : decode cX4_isInTheWay 59 = .ok (.goto 4, 3) := by decide +kernel
theorem dX4_isInTheWay_62 : decode cX4_isInTheWay 62 = .ok (.iconst 0, 1) := by decide +kernel
theorem dX4_isInTheWay_63 : decode cX4_isInTheWay 63 = .ok (.ireturn, 1) := by decide +kernel
set_option maxRecDepth 20000 in
theorem ggX4_headsBelow_X2_get : GoodIn wsX4_headsBelow wsX2_get := goodIn_r _ [7, 8, 18] (by decide +kernel) (by decide +kernel)
set_option maxRecDepth 20000 in
theorem gX4_headsBelow_X2_get : GoodIn wsX4_headsBelow (wsV RX4 45 RX2 yX2_get wsX2_get) := goodIn_app (goodIn_of _ (by decide +kernel)) ggX4_headsBelow_X2_get
theorem dX4_headsBelow_0 : decode cX4_headsBelow 0 = .ok (.iconst 0, 1) := by decide +kernel
theorem dX4_headsBelow_1 : decode cX4_headsBelow 1 = .ok (.istore_n 2, 1) := by decide +kernel
theorem dX4_headsBelow_2 : decode cX4_headsBelow 2 = .ok (.iconst 0, 1) := by decide +kernel
theorem dX4_headsBelow_3 : decode cX4_headsBelow 3 = .ok (.istore_n 3, 1) := by decide +kernel
theorem dX4_headsBelow_4 : decode cX4_headsBelow 4 = .ok (.iload_n 3, 1) := by decide +kernel
theorem dX4_headsBelow_5 : decode cX4_headsBelow 5 = .ok (.aload_n 0, 1) := by decide +kernel
theorem dX4_headsBelow_6 : decode cX4_headsBelow 6 = .ok (.getfield 41, 3) := by decide +kernel
theorem dX4_headsBelow_9 : decode cX4_headsBelow 9 = .ok (.if_icmp .ge 24, 3) := by decide +kernel
theorem dX4_headsBelow_12 : decode cX4_headsBelow 12 = .ok (.aload_n 0, 1) := by decide +kernel
theorem dX4_headsBelow_13 : decode cX4_headsBelow 13 = .ok (.getfield 14, 3) := by decide +kernel
theorem dX4_headsBelow_16 : decode cX4_headsBelow 16 = .ok (.iload_n 3, 1) := by decide +kernel
theorem dX4_headsBelow_17 : decode cX4_headsBelow 17 = .ok (.invokevirtual 45, 3) := by decide +kernel
theorem dX4_headsBelow_20 : decode cX4_headsBelow 20 = .ok (.iload_n 1, 1) := by decide +kernel
theorem dX4_headsBelow_21 : decode cX4_headsBelow 21 = .ok (.if_icmp .ge 6, 3) := by decide +kernel
theorem dX4_headsBelow_24 : decode cX4_headsBelow 24 = .ok (.iinc 2 1, 3) := by decide +kernel
theorem dX4_headsBelow_27 : decode cX4_headsBelow 27 = .ok (.iinc 3 1, 3) := by decide +kernel
theorem dX4_headsBelow_30 : decode cX4_headsBelow 30 = .ok (.goto (-26), 3) := by decide +kernel
theorem dX4_headsBelow_33 : decode cX4_headsBelow 33 = .ok (.iload_n 2, 1) := by decide +kernel
theorem dX4_headsBelow_34 : decode cX4_headsBelow 34 = .ok (.ireturn, 1) := by decide +kernel
set_option maxRecDepth 20000 in
theorem ggX4_timeInTurn_X4_headsBelow : GoodIn wsX4_timeInTurn wsX4_headsBelow := goodIn_r _ [16, 7, 17, 18, 19, 20, 21, 22, 23, 24, 25, 26, 27, 28, 29, 30, 31, 32, 33] (by decide +kernel) (by decide +kernel)
set_option maxRecDepth 20000 in
theorem gX4_timeInTurn_X4_headsBelow : GoodIn wsX4_timeInTurn (wsV RX4 59 RX4 yX4_headsBelow wsX4_headsBelow) := goodIn_app (goodIn_of _ (by decide +kernel)) ggX4_timeInTurn_X4_headsBelow
set_option maxRecDepth 20000 in
theorem ggX4_timeInTurn_X2_get : GoodIn wsX4_timeInTurn wsX2_get := goodIn_r _ [22, 23, 33] (by decide +kernel) (by decide +kernel)
set_option maxRecDepth 20000 in
theorem gX4_timeInTurn_X2_get : GoodIn wsX4_timeInTurn (wsV RX4 45 RX2 yX2_get wsX2_get) := goodIn_app (goodIn_of _ (by decide +kernel)) ggX4_timeInTurn_X2_get
theorem dX4_timeInTurn_0 : decode cX4_timeInTurn 0 = .ok (.aload_n 0, 1) := by decide +kernel
theorem dX4_timeInTurn_1 : decode cX4_timeInTurn 1 = .ok (.iload_n 1, 1) := by decide +kernel
theorem dX4_timeInTurn_2 : decode cX4_timeInTurn 2 = .ok (.invokevirtual 59, 3) := by decide +kernel
theorem dX4_timeInTurn_5 : decode cX4_timeInTurn 5 = .ok (.istore 4, 2) := by decide +kernel
theorem dX4_timeInTurn_7 : decode cX4_timeInTurn 7 = .ok (.iload_n 3, 1) := by decide +kernel
theorem dX4_timeInTurn_8 : decode cX4_timeInTurn 8 = .ok (.istore 5, 2) := by decide +kernel
theorem dX4_timeInTurn_10 : decode cX4_timeInTurn 10 = .ok (.iload 4, 2) := by decide +kernel
theorem dX4_timeInTurn_12 : decode cX4_timeInTurn 12 = .ok (.ifCond .le 37, 3) := by decide +kernel
theorem dX4_timeInTurn_15 : decode cX4_timeInTurn 15 = .ok (.aload_n 0, 1) := by decide +kernel
theorem dX4_timeInTurn_16 : decode cX4_timeInTurn 16 = .ok (.getfield 38, 3) := by decide +kernel
theorem dX4_timeInTurn_19 : decode cX4_timeInTurn 19 = .ok (.iload 4, 2) := by decide +kernel
theorem dX4_timeInTurn_21 : decode cX4_timeInTurn 21 = .ok (.iconst 1, 1) := by decide +kernel
theorem dX4_timeInTurn_22 : decode cX4_timeInTurn 22 = .ok (.isub, 1) := by decide +kernel
theorem dX4_timeInTurn_23 : decode cX4_timeInTurn 23 = .ok (.invokevirtual 45, 3) := by decide +kernel
theorem dX4_timeInTurn_26 : decode cX4_timeInTurn 26 = .ok (.istore 6, 2) := by decide +kernel
theorem dX4_timeInTurn_28 : decode cX4_timeInTurn 28 = .ok (.iload 5, 2) := by decide +kernel
theorem dX4_timeInTurn_30 : decode cX4_timeInTurn 30 = .ok (.aload_n 0, 1) := by decide +kernel
theorem dX4_timeInTurn_31 : decode cX4_timeInTurn 31 = .ok (.getfield 23, 3) := by decide +kernel
theorem dX4_timeInTurn_34 : decode cX4_timeInTurn 34 = .ok (.iload 6, 2) := by decide +kernel
theorem dX4_timeInTurn_36 : decode cX4_timeInTurn 36 = .ok (.invokevirtual 45, 3) := by decide +kernel
theorem dX4_timeInTurn_39 : decode cX4_timeInTurn 39 = .ok (.bipush 20, 2) := by decide +kernel
theorem dX4_timeInTurn_41 : decode cX4_timeInTurn 41 = .ok (.iload_n 2, 1) := by decide +kernel
theorem dX4_timeInTurn_42 : decode cX4_timeInTurn 42 = .ok (.imul, 1) := by decide +kernel
theorem dX4_timeInTurn_43 : decode cX4_timeInTurn 43 = .ok (.isub, 1) := by decide +kernel
theorem dX4_timeInTurn_44 : decode cX4_timeInTurn 44 = .ok (.invokestatic 62, 3) := by decide +kernel
theorem dX4_timeInTurn_47 : decode cX4_timeInTurn 47 = .ok (.istore 5, 2) := by decide +kernel
theorem dX4_timeInTurn_49 : decode cX4_timeInTurn 49 = .ok (.iload 4, 2) := by decide +kernel
theorem dX4_timeInTurn_51 : decode cX4_timeInTurn 51 = .ok (.aload_n 0, 1) := by decide +kernel
theorem dX4_timeInTurn_52 : decode cX4_timeInTurn 52 = .ok (.getfield 41, 3) := by decide +kernel
theorem dX4_timeInTurn_55 : decode cX4_timeInTurn 55 = .ok (.if_icmp .ge 43, 3) := by decide +kernel
theorem dX4_timeInTurn_58 : decode cX4_timeInTurn 58 = .ok (.aload_n 0, 1) := by decide +kernel
theorem dX4_timeInTurn_59 : decode cX4_timeInTurn 59 = .ok (.getfield 38, 3) := by decide +kernel
theorem dX4_timeInTurn_62 : decode cX4_timeInTurn 62 = .ok (.iload 4, 2) := by decide +kernel
theorem dX4_timeInTurn_64 : decode cX4_timeInTurn 64 = .ok (.invokevirtual 45, 3) := by decide +kernel
theorem dX4_timeInTurn_67 : decode cX4_timeInTurn 67 = .ok (.istore 6, 2) := by decide +kernel
theorem dX4_timeInTurn_69 : decode cX4_timeInTurn 69 = .ok (.iload 5, 2) := by decide +kernel
theorem dX4_timeInTurn_71 : decode cX4_timeInTurn 71 = .ok (.aload_n 0, 1) := by decide +kernel
theorem dX4_timeInTurn_72 : decode cX4_timeInTurn 72 = .ok (.getfield 23, 3) := by decide +kernel
theorem dX4_timeInTurn_75 : decode cX4_timeInTurn 75 = .ok (.iload 6, 2) := by decide +kernel
theorem dX4_timeInTurn_77 : decode cX4_timeInTurn 77 = .ok (.invokevirtual 45, 3) := by decide +kernel
theorem dX4_timeInTurn_80 : decode cX4_timeInTurn 80 = .ok (.bipush 20, 2) := by decide +kernel
theorem dX4_timeInTurn_82 : decode cX4_timeInTurn 82 = .ok (.aload_n 0, 1) := by decide +kernel
theorem dX4_timeInTurn_83 : decode cX4_timeInTurn 83 = .ok (.getfield 20, 3) := by decide +kernel
theorem dX4_timeInTurn_86 : decode cX4_timeInTurn 86 = .ok (.iload 6, 2) := by decide +kernel
theorem dX4_timeInTurn_88 : decode cX4_timeInTurn 88 = .ok (.invokevirtual 45, 3) := by decide +kernel
theorem dX4_timeInTurn_91 : decode cX4_timeInTurn 91 = .ok (.imul, 1) := by decide +kernel
theorem dX4_timeInTurn_92 : decode cX4_timeInTurn 92 = .ok (.iadd, 1) := by decide +kernel
theorem dX4_timeInTurn_93 : decode cX4_timeInTurn 93 = .ok (.invokestatic 68, 3) := by decide +kernel
theorem dX4_timeInTurn_96 : decode cX4_timeInTurn 96 = .ok (.istore 5, 2) := by decide +kernel
theorem dX4_timeInTurn_98 : decode cX4_timeInTurn 98 = .ok (.iload 5, 2) := by decide +kernel
theorem dX4_timeInTurn_100 : decode cX4_timeInTurn 100 = .ok (.ireturn, 1) := by decide +kernel
set_option maxRecDepth 20000 in
theorem ggX4_add_X4_headsBelow : GoodIn wsX4_add wsX4_headsBelow := goodIn_r _ [14, 1, 3, 15, 16, 17, 18, 19, 20, 25, 26, 27, 28, 29, 30, 31, 32, 33, 34] (by decide +kernel) (by decide +kernel)
set_option maxRecDepth 20000 in
theorem gX4_add_X4_headsBelow : GoodIn wsX4_add (wsV RX4 59 RX4 yX4_headsBelow wsX4_headsBelow) := goodIn_app (goodIn_of _ (by decide +kernel)) ggX4_add_X4_headsBelow
set_option maxRecDepth 20000 in
theorem ggX4_add_X2_get : GoodIn wsX4_add wsX2_get := goodIn_r _ [19, 20, 34] (by decide +kernel) (by decide +kernel)
set_option maxRecDepth 20000 in
theorem gX4_add_X2_get : GoodIn wsX4_add (wsV RX4 45 RX2 yX2_get wsX2_get) := goodIn_app (goodIn_of _ (by decide +kernel)) ggX4_add_X2_get
set_option maxRecDepth 20000 in
theorem ggX4_add_X2_set : GoodIn wsX4_add wsX2_set := goodIn_r _ [24, 20, 34] (by decide +kernel) (by decide +kernel)
set_option maxRecDepth 20000 in
theorem gX4_add_X2_set : GoodIn wsX4_add (wsV RX4 71 RX2 yX2_set wsX2_set) := goodIn_app (goodIn_of _ (by decide +kernel)) ggX4_add_X2_set
theorem dX4_add_0 : decode cX4_add 0 = .ok (.aload_n 0, 1) := by decide +kernel
theorem dX4_add_1 : decode cX4_add 1 = .ok (.getfield 41, 3) := by decide +kernel
theorem dX4_add_4 : decode cX4_add 4 = .ok (.istore 5, 2) := by decide +kernel
theorem dX4_add_6 : decode cX4_add 6 = .ok (.aload_n 0, 1) := by decide +kernel
theorem dX4_add_7 : decode cX4_add 7 = .ok (.iload_n 1, 1) := by decide +kernel
theorem dX4_add_8 : decode cX4_add 8 = .ok (.invokevirtual 59, 3) := by decide +kernel
theorem dX4_add_11 : decode cX4_add 11 = .ok (.istore 6, 2) := by decide +kernel
theorem dX4_add_13 : decode cX4_add 13 = .ok (.aload_n 0, 1) := by decide +kernel
theorem dX4_add_14 : decode cX4_add 14 = .ok (.getfield 41, 3) := by decide +kernel
theorem dX4_add_17 : decode cX4_add 17 = .ok (.istore 7, 2) := by decide +kernel
theorem dX4_add_19 : decode cX4_add 19 = .ok (.iload 7, 2) := by decide +kernel
theorem dX4_add_21 : decode cX4_add 21 = .ok (.iload 6, 2) := by decide +kernel
theorem dX4_add_23 : decode cX4_add 23 = .ok (.if_icmp .le 29, 3) := by decide +kernel
theorem dX4_add_26 : decode cX4_add 26 = .ok (.aload_n 0, 1) := by decide +kernel
theorem dX4_add_27 : decode cX4_add 27 = .ok (.getfield 38, 3) := by decide +kernel
theorem dX4_add_30 : decode cX4_add 30 = .ok (.iload 7, 2) := by decide +kernel
theorem dX4_add_32 : decode cX4_add 32 = .ok (.aload_n 0, 1) := by decide +kernel
theorem dX4_add_33 : decode cX4_add 33 = .ok (.getfield 38, 3) := by decide +kernel
theorem dX4_add_36 : decode cX4_add 36 = .ok (.iload 7, 2) := by decide +kernel
theorem dX4_add_38 : decode cX4_add 38 = .ok (.iconst 1, 1) := by decide +kernel
theorem dX4_add_39 : decode cX4_add 39 = .ok (.isub, 1) := by decide +kernel
theorem dX4_add_40 : decode cX4_add 40 = .ok (.invokevirtual 45, 3) := by decide +kernel
theorem dX4_add_43 : decode cX4_add 43 = .ok (.invokevirtual 71, 3) := by decide +kernel
theorem dX4_add_46 : decode cX4_add 46 = .ok (.iinc 7 (-1), 3) := by decide +kernel
theorem dX4_add_49 : decode cX4_add 49 = .ok (.goto (-30), 3) := by decide +kernel
theorem dX4_add_52 : decode cX4_add 52 = .ok (.aload_n 0, 1) := by decide +kernel
theorem dX4_add_53 : decode cX4_add 53 = .ok (.getfield 38, 3) := by decide +kernel
theorem dX4_add_56 : decode cX4_add 56 = .ok (.iload 6, 2) := by decide +kernel
theorem dX4_add_58 : decode cX4_add 58 = .ok (.iload 5, 2) := by decide +kernel
theorem dX4_add_60 : decode cX4_add 60 = .ok (.invokevirtual 71, 3) := by decide +kernel
theorem dX4_add_63 : decode cX4_add 63 = .ok (.aload_n 0, 1) := by decide +kernel
theorem dX4_add_64 : decode cX4_add 64 = .ok (.getfield 14, 3) := by decide +kernel
theorem dX4_add_67 : decode cX4_add 67 = .ok (.iload 5, 2) := by decide +kernel
theorem dX4_add_69 : decode cX4_add 69 = .ok (.iload_n 1, 1) := by decide +kernel
theorem dX4_add_70 : decode cX4_add 70 = .ok (.invokevirtual 71, 3) := by decide +kernel
theorem dX4_add_73 : decode cX4_add 73 = .ok (.aload_n 0, 1) := by decide +kernel
theorem dX4_add_74 : decode cX4_add 74 = .ok (.getfield 20, 3) := by decide +kernel
theorem dX4_add_77 : decode cX4_add 77 = .ok (.iload 5, 2) := by decide +kernel
theorem dX4_add_79 : decode cX4_add 79 = .ok (.iload_n 2, 1) := by decide +kernel
theorem dX4_add_80 : decode cX4_add 80 = .ok (.invokevirtual 71, 3) := by decide +kernel
theorem dX4_add_83 : decode cX4_add 83 = .ok (.aload_n 0, 1) := by decide +kernel
theorem dX4_add_84 : decode cX4_add 84 = .ok (.getfield 23, 3) := by decide +kernel
theorem dX4_add_87 : decode cX4_add 87 = .ok (.iload 5, 2) := by decide +kernel
theorem dX4_add_89 : decode cX4_add 89 = .ok (.iload_n 3, 1) := by decide +kernel
theorem dX4_add_90 : decode cX4_add 90 = .ok (.invokevirtual 71, 3) := by decide +kernel
theorem dX4_add_93 : decode cX4_add 93 = .ok (.aload_n 0, 1) := by decide +kernel
theorem dX4_add_94 : decode cX4_add 94 = .ok (.getfield 26, 3) := by decide +kernel
theorem dX4_add_97 : decode cX4_add 97 = .ok (.iload 5, 2) := by decide +kernel
theorem dX4_add_99 : decode cX4_add 99 = .ok (.iload 4, 2) := by decide +kernel
theorem dX4_add_101 : decode cX4_add 101 = .ok (.invokevirtual 71, 3) := by decide +kernel
theorem dX4_add_104 : decode cX4_add 104 = .ok (.aload_n 0, 1) := by decide +kernel
theorem dX4_add_105 : decode cX4_add 105 = .ok (.getfield 29, 3) := by decide +kernel
theorem dX4_add_108 : decode cX4_add 108 = .ok (.iload 5, 2) := by decide +kernel
theorem dX4_add_110 : decode cX4_add 110 = .ok (.iconst 0, 1) := by decide +kernel
theorem dX4_add_111 : decode cX4_add 111 = .ok (.invokevirtual 71, 3) := by decide +kernel
theorem dX4_add_114 : decode cX4_add 114 = .ok (.aload_n 0, 1) := by decide +kernel
theorem dX4_add_115 : decode cX4_add 115 = .ok (.getfield 32, 3) := by decide +kernel
theorem dX4_add_118 : decode cX4_add 118 = .ok (.iload 5, 2) := by decide +kernel
theorem dX4_add_120 : decode cX4_add 120 = .ok (.iconst 0, 1) := by decide +kernel
theorem dX4_add_121 : decode cX4_add 121 = .ok (.invokevirtual 71, 3) := by decide +kernel
theorem dX4_add_124 : decode cX4_add 124 = .ok (.aload_n 0, 1) := by decide +kernel
theorem dX4_add_125 : decode cX4_add 125 = .ok (.getfield 35, 3) := by decide +kernel
theorem dX4_add_128 : decode cX4_add 128 = .ok (.iload 5, 2) := by decide +kernel
theorem dX4_add_130 : decode cX4_add 130 = .ok (.iload_n 1, 1) := by decide +kernel
theorem dX4_add_131 : decode cX4_add 131 = .ok (.invokevirtual 71, 3) := by decide +kernel
theorem dX4_add_134 : decode cX4_add 134 = .ok (.aload_n 0, 1) := by decide +kernel
theorem dX4_add_135 : decode cX4_add 135 = .ok (.dup, 1) := by decide +kernel
theorem dX4_add_136 : decode cX4_add 136 = .ok (.getfield 41, 3) := by decide +kernel
theorem dX4_add_139 : decode cX4_add 139 = .ok (.iconst 1, 1) := by decide +kernel
theorem dX4_add_140 : decode cX4_add 140 = .ok (.iadd, 1) := by decide +kernel
theorem dX4_add_141 : decode cX4_add 141 = .ok (.putfield 41, 3) := by decide +kernel
theorem dX4_add_144 : decode cX4_add 144 = .ok (.iload 5, 2) := by decide +kernel
theorem dX4_add_146 : decode cX4_add 146 = .ok (.ireturn, 1) := by decide +kernel
set_option maxRecDepth 20000 in
theorem ggX4_countFrame_X2_add : GoodIn wsX4_countFrame wsX2_add := goodIn_r _ [12, 13, 14, 15, 11, 16, 17, 18, 19, 20, 21, 33] (by decide +kernel) (by decide +kernel)
set_option maxRecDepth 20000 in
theorem gX4_countFrame_X2_add : GoodIn wsX4_countFrame (wsV RX4 75 RX2 yX2_add wsX2_add) := goodIn_app (goodIn_of _ (by decide +kernel)) ggX4_countFrame_X2_add
set_option maxRecDepth 20000 in
theorem ggX4_countFrame_X2_get : GoodIn wsX4_countFrame wsX2_get := goodIn_r _ [16, 17, 33] (by decide +kernel) (by decide +kernel)
set_option maxRecDepth 20000 in
theorem gX4_countFrame_X2_get : GoodIn wsX4_countFrame (wsV RX4 45 RX2 yX2_get wsX2_get) := goodIn_app (goodIn_of _ (by decide +kernel)) ggX4_countFrame_X2_get
set_option maxRecDepth 20000 in
theorem ggX4_countFrame_X2_set : GoodIn wsX4_countFrame wsX2_set := goodIn_r _ [21, 17, 33] (by decide +kernel) (by decide +kernel)
set_option maxRecDepth 20000 in
theorem gX4_countFrame_X2_set : GoodIn wsX4_countFrame (wsV RX4 71 RX2 yX2_set wsX2_set) := goodIn_app (goodIn_of _ (by decide +kernel)) ggX4_countFrame_X2_set
theorem dX4_countFrame_0 : decode cX4_countFrame 0 = .ok (.aload_n 0, 1) := by decide +kernel
theorem dX4_countFrame_1 : decode cX4_countFrame 1 = .ok (.getfield 29, 3) := by decide +kernel
theorem dX4_countFrame_4 : decode cX4_countFrame 4 = .ok (.iload_n 1, 1) := by decide +kernel
theorem dX4_countFrame_5 : decode cX4_countFrame 5 = .ok (.iconst 1, 1) := by decide +kernel
theorem dX4_countFrame_6 : decode cX4_countFrame 6 = .ok (.invokevirtual 75, 3) := by decide +kernel
theorem dX4_countFrame_9 : decode cX4_countFrame 9 = .ok (.aload_n 0, 1) := by decide +kernel
theorem dX4_countFrame_10 : decode cX4_countFrame 10 = .ok (.getfield 32, 3) := by decide +kernel
theorem dX4_countFrame_13 : decode cX4_countFrame 13 = .ok (.iload_n 1, 1) := by decide +kernel
theorem dX4_countFrame_14 : decode cX4_countFrame 14 = .ok (.iload_n 3, 1) := by decide +kernel
theorem dX4_countFrame_15 : decode cX4_countFrame 15 = .ok (.ifCond .eq 7, 3) := by decide +kernel
theorem dX4_countFrame_18 : decode cX4_countFrame 18 = .ok (.iconst 1, 1) := by decide +kernel
theorem dX4_countFrame_19 : decode cX4_countFrame 19 = .ok (.goto 4, 3) := by decide +kernel
theorem dX4_countFrame_22 : decode cX4_countFrame 22 = .ok (.iconst 0, 1) := by decide +kernel
theorem dX4_countFrame_23 : decode cX4_countFrame 23 = .ok (.invokevirtual 75, 3) := by decide +kernel
theorem dX4_countFrame_26 : decode cX4_countFrame 26 = .ok (.aload_n 0, 1) := by decide +kernel
theorem dX4_countFrame_27 : decode cX4_countFrame 27 = .ok (.getfield 35, 3) := by decide +kernel
theorem dX4_countFrame_30 : decode cX4_countFrame 30 = .ok (.iload_n 1, 1) := by decide +kernel
theorem dX4_countFrame_31 : decode cX4_countFrame 31 = .ok (.aload_n 0, 1) := by decide +kernel
theorem dX4_countFrame_32 : decode cX4_countFrame 32 = .ok (.getfield 35, 3) := by decide +kernel
theorem dX4_countFrame_35 : decode cX4_countFrame 35 = .ok (.iload_n 1, 1) := by decide +kernel
theorem dX4_countFrame_36 : decode cX4_countFrame 36 = .ok (.invokevirtual 45, 3) := by decide +kernel
theorem dX4_countFrame_39 : decode cX4_countFrame 39 = .ok (.iload_n 2, 1) := by decide +kernel
theorem dX4_countFrame_40 : decode cX4_countFrame 40 = .ok (.invokestatic 62, 3) := by decide +kernel
theorem dX4_countFrame_43 : decode cX4_countFrame 43 = .ok (.invokevirtual 71, 3) := by decide +kernel
theorem dX4_countFrame_46 : decode cX4_countFrame 46 = .ok (.return_, 1) := by decide +kernel
theorem dX4_clear_0 : decode cX4_clear 0 = .ok (.aload_n 0, 1) := by decide +kernel
theorem dX4_clear_1 : decode cX4_clear 1 = .ok (.iconst 0, 1) := by decide +kernel
theorem dX4_clear_2 : decode cX4_clear 2 = .ok (.putfield 41, 3) := by decide +kernel
theorem dX4_clear_5 : decode cX4_clear 5 = .ok (.return_, 1) := by decide +kernel
theorem dX5_init_0 : decode cX5_init 0 = .ok (.aload_n 0, 1) := by decide +kernel
theorem dX5_init_1 : decode cX5_init 1 = .ok (.invokespecial 1, 3) := by decide +kernel
theorem dX5_init_4 : decode cX5_init 4 = .ok (.return_, 1) := by decide +kernel
theorem dX5_isOn_0 : decode cX5_isOn 0 = .ok (.aload_n 0, 1) := by decide +kernel
theorem dX5_isOn_1 : decode cX5_isOn 1 = .ok (.getfield 7, 3) := by decide +kernel
theorem dX5_isOn_4 : decode cX5_isOn 4 = .ok (.ireturn, 1) := by decide +kernel
theorem dX5_base_0 : decode cX5_base 0 = .ok (.aload_n 0, 1) := by decide +kernel
theorem dX5_base_1 : decode cX5_base 1 = .ok (.getfield 13, 3) := by decide +kernel
theorem dX5_base_4 : decode cX5_base 4 = .ok (.ireturn, 1) := by decide +kernel
theorem dX5_begun_0 : decode cX5_begun 0 = .ok (.aload_n 0, 1) := by decide +kernel
theorem dX5_begun_1 : decode cX5_begun 1 = .ok (.getfield 17, 3) := by decide +kernel
theorem dX5_begun_4 : decode cX5_begun 4 = .ok (.ireturn, 1) := by decide +kernel
theorem dX5_follow_0 : decode cX5_follow 0 = .ok (.aload_n 0, 1) := by decide +kernel
theorem dX5_follow_1 : decode cX5_follow 1 = .ok (.getfield 7, 3) := by decide +kernel
theorem dX5_follow_4 : decode cX5_follow 4 = .ok (.ifCond .eq 27, 3) := by decide +kernel
theorem dX5_follow_7 : decode cX5_follow 7 = .ok (.aload_n 0, 1) := by decide +kernel
theorem dX5_follow_8 : decode cX5_follow 8 = .ok (.iload_n 2, 1) := by decide +kernel
theorem dX5_follow_9 : decode cX5_follow 9 = .ok (.aload_n 0, 1) := by decide +kernel
theorem dX5_follow_10 : decode cX5_follow 10 = .ok (.getfield 13, 3) := by decide +kernel
theorem dX5_follow_13 : decode cX5_follow 13 = .ok (.iload_n 3, 1) := by decide +kernel
theorem dX5_follow_14 : decode cX5_follow 14 = .ok (.iconst 2, 1) := by decide +kernel
theorem dX5_follow_15 : decode cX5_follow 15 = .ok (.idiv, 1) := by decide +kernel
theorem dX5_follow_16 : decode cX5_follow 16 = .ok (.iadd, 1) := by decide +kernel
theorem dX5_follow_17 : decode cX5_follow 17 = .ok (.if_icmp .le 7, 3) := by decide +kernel
theorem dX5_follow_20 : decode cX5_follow 20 = .ok (.iconst 1, 1) := by decide +kernel
theorem dX5_follow_21 : decode cX5_follow 21 = .ok (.goto 4, 3) := by decide +kernel
theorem dX5_follow_24 : decode cX5_follow 24 = .ok (.iconst 0, 1) := by decide +kernel
theorem dX5_follow_25 : decode cX5_follow 25 = .ok (.putfield 7, 3) := by decide +kernel
theorem dX5_follow_28 : decode cX5_follow 28 = .ok (.goto 30, 3) := by decide +kernel
theorem dX5_follow_31 : decode cX5_follow 31 = .ok (.iload_n 2, 1) := by decide +kernel
theorem dX5_follow_32 : decode cX5_follow 32 = .ok (.iload_n 1, 1) := by decide +kernel
theorem dX5_follow_33 : decode cX5_follow 33 = .ok (.iload_n 3, 1) := by decide +kernel
theorem dX5_follow_34 : decode cX5_follow 34 = .ok (.iadd, 1) := by decide +kernel
theorem dX5_follow_35 : decode cX5_follow 35 = .ok (.if_icmp .lt 23, 3) := by decide +kernel
theorem dX5_follow_38 : decode cX5_follow 38 = .ok (.aload_n 0, 1) := by decide +kernel
theorem dX5_follow_39 : decode cX5_follow 39 = .ok (.iconst 1, 1) := by decide +kernel
theorem dX5_follow_40 : decode cX5_follow 40 = .ok (.putfield 7, 3) := by decide +kernel
theorem dX5_follow_43 : decode cX5_follow 43 = .ok (.aload_n 0, 1) := by decide +kernel
theorem dX5_follow_44 : decode cX5_follow 44 = .ok (.iload_n 1, 1) := by decide +kernel
theorem dX5_follow_45 : decode cX5_follow 45 = .ok (.putfield 13, 3) := by decide +kernel
theorem dX5_follow_48 : decode cX5_follow 48 = .ok (.aload_n 0, 1) := by decide +kernel
theorem dX5_follow_49 : decode cX5_follow 49 = .ok (.dup, 1) := by decide +kernel
theorem dX5_follow_50 : decode cX5_follow 50 = .ok (.getfield 17, 3) := by decide +kernel
theorem dX5_follow_53 : decode cX5_follow 53 = .ok (.iconst 1, 1) := by decide +kernel
theorem dX5_follow_54 : decode cX5_follow 54 = .ok (.iadd, 1) := by decide +kernel
theorem dX5_follow_55 : decode cX5_follow 55 = .ok (.putfield 17, 3) := by decide +kernel
theorem dX5_follow_58 : decode cX5_follow 58 = .ok (.return_, 1) := by decide +kernel
theorem dX5_clear_0 : decode cX5_clear 0 = .ok (.aload_n 0, 1) := by decide +kernel
theorem dX5_clear_1 : decode cX5_clear 1 = .ok (.iconst 0, 1) := by decide +kernel
theorem dX5_clear_2 : decode cX5_clear 2 = .ok (.putfield 7, 3) := by decide +kernel
theorem dX5_clear_5 : decode cX5_clear 5 = .ok (.aload_n 0, 1) := by decide +kernel
theorem dX5_clear_6 : decode cX5_clear 6 = .ok (.iconst 0, 1) := by decide +kernel
theorem dX5_clear_7 : decode cX5_clear 7 = .ok (.putfield 17, 3) := by decide +kernel
theorem dX5_clear_10 : decode cX5_clear 10 = .ok (.return_, 1) := by decide +kernel
set_option maxRecDepth 20000 in
theorem ggX6_init_X2_init : GoodIn wsX6_init wsX2_init := goodIn_r _ [10, 11, 2, 3, 12, 13, 14, 15, 16, 17, 18] (by decide +kernel) (by decide +kernel)
set_option maxRecDepth 20000 in
theorem gX6_init_X2_init : GoodIn wsX6_init (wsX2_init) := ggX6_init_X2_init
theorem dX6_init_0 : decode cX6_init 0 = .ok (.aload_n 0, 1) := by decide +kernel
theorem dX6_init_1 : decode cX6_init 1 = .ok (.invokespecial 3, 3) := by decide +kernel
theorem dX6_init_4 : decode cX6_init 4 = .ok (.aload_n 0, 1) := by decide +kernel
theorem dX6_init_5 : decode cX6_init 5 = .ok (.new 9, 3) := by decide +kernel
theorem dX6_init_8 : decode cX6_init 8 = .ok (.dup, 1) := by decide +kernel
theorem dX6_init_9 : decode cX6_init 9 = .ok (.bipush 8, 2) := by decide +kernel
theorem dX6_init_11 : decode cX6_init 11 = .ok (.invokespecial 11, 3) := by decide +kernel
theorem dX6_init_14 : decode cX6_init 14 = .ok (.putfield 14, 3) := by decide +kernel
theorem dX6_init_17 : decode cX6_init 17 = .ok (.return_, 1) := by decide +kernel
theorem dX6_size_0 : decode cX6_size 0 = .ok (.aload_n 0, 1) := by decide +kernel
theorem dX6_size_1 : decode cX6_size 1 = .ok (.getfield 20, 3) := by decide +kernel
theorem dX6_size_4 : decode cX6_size 4 = .ok (.ireturn, 1) := by decide +kernel
set_option maxRecDepth 20000 in
theorem ggX6_add_X2_set : GoodIn wsX6_add wsX2_set := goodIn_r _ [7, 8, 11] (by decide +kernel) (by decide +kernel)
set_option maxRecDepth 20000 in
theorem gX6_add_X2_set : GoodIn wsX6_add (wsV RX6 24 RX2 yX2_set wsX2_set) := goodIn_app (goodIn_of _ (by decide +kernel)) ggX6_add_X2_set
theorem dX6_add_0 : decode cX6_add 0 = .ok (.aload_n 0, 1) := by decide +kernel
theorem dX6_add_1 : decode cX6_add 1 = .ok (.getfield 20, 3) := by decide +kernel
theorem dX6_add_4 : decode cX6_add 4 = .ok (.bipush 8, 2) := by decide +kernel
theorem dX6_add_6 : decode cX6_add 6 = .ok (.if_icmp .ge 25, 3) := by decide +kernel
theorem dX6_add_9 : decode cX6_add 9 = .ok (.aload_n 0, 1) := by decide +kernel
theorem dX6_add_10 : decode cX6_add 10 = .ok (.getfield 14, 3) := by decide +kernel
theorem dX6_add_13 : decode cX6_add 13 = .ok (.aload_n 0, 1) := by decide +kernel
theorem dX6_add_14 : decode cX6_add 14 = .ok (.getfield 20, 3) := by decide +kernel
theorem dX6_add_17 : decode cX6_add 17 = .ok (.iload_n 1, 1) := by decide +kernel
theorem dX6_add_18 : decode cX6_add 18 = .ok (.invokevirtual 24, 3) := by decide +kernel
theorem dX6_add_21 : decode cX6_add 21 = .ok (.aload_n 0, 1) := by decide +kernel
theorem dX6_add_22 : decode cX6_add 22 = .ok (.dup, 1) := by decide +kernel
theorem dX6_add_23 : decode cX6_add 23 = .ok (.getfield 20, 3) := by decide +kernel
theorem dX6_add_26 : decode cX6_add 26 = .ok (.iconst 1, 1) := by decide +kernel
theorem dX6_add_27 : decode cX6_add 27 = .ok (.iadd, 1) := by decide +kernel
theorem dX6_add_28 : decode cX6_add 28 = .ok (.putfield 20, 3) := by decide +kernel
theorem dX6_add_31 : decode cX6_add 31 = .ok (.return_, 1) := by decide +kernel
theorem dX6_clear_0 : decode cX6_clear 0 = .ok (.aload_n 0, 1) := by decide +kernel
theorem dX6_clear_1 : decode cX6_clear 1 = .ok (.iconst 0, 1) := by decide +kernel
theorem dX6_clear_2 : decode cX6_clear 2 = .ok (.putfield 20, 3) := by decide +kernel
theorem dX6_clear_5 : decode cX6_clear 5 = .ok (.return_, 1) := by decide +kernel
set_option maxRecDepth 20000 in
theorem ggX6_spells_J0_length_8abf5 : GoodIn wsX6_spells wsJ0_length_8abf5 := goodIn_r _ [7, 8, 9, 10, 11, 6, 12, 13, 14] (by decide +kernel) (by decide +kernel)
set_option maxRecDepth 20000 in
theorem gX6_spells_J0_length_8abf5 : GoodIn wsX6_spells (wsV RX6 28 RJ0 yJ0_length_8abf5 wsJ0_length_8abf5) := goodIn_app (goodIn_of _ (by decide +kernel)) ggX6_spells_J0_length_8abf5
set_option maxRecDepth 20000 in
theorem ggX6_spells_J0_charAt_5068e : GoodIn wsX6_spells wsJ0_charAt_5068e := goodIn_r _ [18, 8, 19, 20, 21, 6, 22, 13, 14, 23, 24, 25, 26, 27, 28, 29, 30, 31, 32, 33, 34, 35, 36, 37, 38, 39, 40, 41, 42, 43, 44, 45, 46, 47, 48, 49, 50, 51] (by decide +kernel) (by decide +kernel)
set_option maxRecDepth 20000 in
theorem gX6_spells_J0_charAt_5068e : GoodIn wsX6_spells (wsV RX6 34 RJ0 yJ0_charAt_5068e wsJ0_charAt_5068e) := goodIn_app (goodIn_of _ (by decide +kernel)) ggX6_spells_J0_charAt_5068e
set_option maxRecDepth 20000 in
theorem ggX6_spells_X2_get : GoodIn wsX6_spells wsX2_get := goodIn_r _ [56, 57, 60] (by decide +kernel) (by decide +kernel)
set_option maxRecDepth 20000 in
theorem gX6_spells_X2_get : GoodIn wsX6_spells (wsV RX6 38 RX2 yX2_get wsX2_get) := goodIn_app (goodIn_of _ (by decide +kernel)) ggX6_spells_X2_get
theorem dX6_spells_0 : decode cX6_spells 0 = .ok (.aload_n 1, 1) := by decide +kernel
theorem dX6_spells_1 : decode cX6_spells 1 = .ok (.invokevirtual 28, 3) := by decide +kernel
theorem dX6_spells_4 : decode cX6_spells 4 = .ok (.aload_n 0, 1) := by decide +kernel
theorem dX6_spells_5 : decode cX6_spells 5 = .ok (.getfield 20, 3) := by decide +kernel
theorem dX6_spells_8 : decode cX6_spells 8 = .ok (.if_icmp .eq 5, 3) := by decide +kernel
theorem dX6_spells_11 : decode cX6_spells 11 = .ok (.iconst 0, 1) := by decide +kernel
theorem dX6_spells_12 : decode cX6_spells 12 = .ok (.ireturn, 1) := by decide +kernel
theorem dX6_spells_13 : decode cX6_spells 13 = .ok (.iconst 0, 1) := by decide +kernel
theorem dX6_spells_14 : decode cX6_spells 14 = .ok (.istore_n 2, 1) := by decide +kernel
theorem dX6_spells_15 : decode cX6_spells 15 = .ok (.iload_n 2, 1) := by decide +kernel
theorem dX6_spells_16 : decode cX6_spells 16 = .ok (.aload_n 1, 1) := by decide +kernel
theorem dX6_spells_17 : decode cX6_spells 17 = .ok (.invokevirtual 28, 3) := by decide +kernel
theorem dX6_spells_20 : decode cX6_spells 20 = .ok (.if_icmp .ge 27, 3) := by decide +kernel
theorem dX6_spells_23 : decode cX6_spells 23 = .ok (.aload_n 1, 1) := by decide +kernel
theorem dX6_spells_24 : decode cX6_spells 24 = .ok (.iload_n 2, 1) := by decide +kernel
theorem dX6_spells_25 : decode cX6_spells 25 = .ok (.invokevirtual 34, 3) := by decide +kernel
theorem dX6_spells_28 : decode cX6_spells 28 = .ok (.aload_n 0, 1) := by decide +kernel
theorem dX6_spells_29 : decode cX6_spells 29 = .ok (.getfield 14, 3) := by decide +kernel
theorem dX6_spells_32 : decode cX6_spells 32 = .ok (.iload_n 2, 1) := by decide +kernel
theorem dX6_spells_33 : decode cX6_spells 33 = .ok (.invokevirtual 38, 3) := by decide +kernel
theorem dX6_spells_36 : decode cX6_spells 36 = .ok (.if_icmp .eq 5, 3) := by decide +kernel
theorem dX6_spells_39 : decode cX6_spells 39 = .ok (.iconst 0, 1) := by decide +kernel
theorem dX6_spells_40 : decode cX6_spells 40 = .ok (.ireturn, 1) := by decide +kernel
theorem dX6_spells_41 : decode cX6_spells 41 = .ok (.iinc 2 1, 3) := by decide +kernel
theorem dX6_spells_44 : decode cX6_spells 44 = .ok (.goto (-29), 3) := by decide +kernel
theorem dX6_spells_47 : decode cX6_spells 47 = .ok (.iconst 1, 1) := by decide +kernel
theorem dX6_spells_48 : decode cX6_spells 48 = .ok (.ireturn, 1) := by decide +kernel
set_option maxRecDepth 20000 in
theorem ggX7_init_X2_init : GoodIn wsX7_init wsX2_init := goodIn_r _ [10, 11, 2, 3, 12, 13, 14, 15, 16, 17, 18] (by decide +kernel) (by decide +kernel)
set_option maxRecDepth 20000 in
theorem gX7_init_X2_init : GoodIn wsX7_init (wsX2_init) := ggX7_init_X2_init
theorem dX7_init_0 : decode cX7_init 0 = .ok (.aload_n 0, 1) := by decide +kernel
theorem dX7_init_1 : decode cX7_init 1 = .ok (.invokespecial 3, 3) := by decide +kernel
theorem dX7_init_4 : decode cX7_init 4 = .ok (.aload_n 0, 1) := by decide +kernel
theorem dX7_init_5 : decode cX7_init 5 = .ok (.new 9, 3) := by decide +kernel
theorem dX7_init_8 : decode cX7_init 8 = .ok (.dup, 1) := by decide +kernel
theorem dX7_init_9 : decode cX7_init 9 = .ok (.bipush 32, 2) := by decide +kernel
theorem dX7_init_11 : decode cX7_init 11 = .ok (.invokespecial 11, 3) := by decide +kernel
theorem dX7_init_14 : decode cX7_init 14 = .ok (.putfield 14, 3) := by decide +kernel
theorem dX7_init_17 : decode cX7_init 17 = .ok (.return_, 1) := by decide +kernel
set_option maxRecDepth 20000 in
theorem ggX7_gather_X0_historySize : GoodIn wsX7_gather wsX0_historySize := goodIn_r _ [7, 8, 9, 10, 11, 12, 35, 36, 37, 38, 39, 40] (by decide +kernel) (by decide +kernel)
set_option maxRecDepth 20000 in
theorem gX7_gather_X0_historySize : GoodIn wsX7_gather (wsV RX7 20 RX0 yX0_historySize wsX0_historySize) := goodIn_app (goodIn_of _ (by decide +kernel)) ggX7_gather_X0_historySize
set_option maxRecDepth 20000 in
theorem ggX7_gather_X0_lastPlace : GoodIn wsX7_gather wsX0_lastPlace := goodIn_r _ [16, 8, 35, 36, 37, 38, 39, 40] (by decide +kernel) (by decide +kernel)
set_option maxRecDepth 20000 in
theorem gX7_gather_X0_lastPlace : GoodIn wsX7_gather (wsV RX7 30 RX0 yX0_lastPlace wsX0_lastPlace) := goodIn_app (goodIn_of _ (by decide +kernel)) ggX7_gather_X0_lastPlace
set_option maxRecDepth 20000 in
theorem ggX7_gather_X0_delayAt : GoodIn wsX7_gather wsX0_delayAt := goodIn_r _ [20, 21, 22, 23, 24, 25, 26, 27, 28, 35, 36, 37, 38, 39, 40, 41] (by decide +kernel) (by decide +kernel)
set_option maxRecDepth 20000 in
theorem gX7_gather_X0_delayAt : GoodIn wsX7_gather (wsV RX7 33 RX0 yX0_delayAt wsX0_delayAt) := goodIn_app (goodIn_of _ (by decide +kernel)) ggX7_gather_X0_delayAt
set_option maxRecDepth 20000 in
theorem ggX7_gather_X2_set : GoodIn wsX7_gather wsX2_set := goodIn_r _ [32, 28, 41] (by decide +kernel) (by decide +kernel)
set_option maxRecDepth 20000 in
theorem gX7_gather_X2_set : GoodIn wsX7_gather (wsV RX7 37 RX2 yX2_set wsX2_set) := goodIn_app (goodIn_of _ (by decide +kernel)) ggX7_gather_X2_set
theorem dX7_gather_0 : decode cX7_gather 0 = .ok (.aload_n 0, 1) := by decide +kernel
theorem dX7_gather_1 : decode cX7_gather 1 = .ok (.aload_n 1, 1) := by decide +kernel
theorem dX7_gather_2 : decode cX7_gather 2 = .ok (.invokevirtual 20, 3) := by decide +kernel
theorem dX7_gather_5 : decode cX7_gather 5 = .ok (.putfield 26, 3) := by decide +kernel
theorem dX7_gather_8 : decode cX7_gather 8 = .ok (.iconst 0, 1) := by decide +kernel
theorem dX7_gather_9 : decode cX7_gather 9 = .ok (.istore_n 2, 1) := by decide +kernel
theorem dX7_gather_10 : decode cX7_gather 10 = .ok (.iload_n 2, 1) := by decide +kernel
theorem dX7_gather_11 : decode cX7_gather 11 = .ok (.aload_n 0, 1) := by decide +kernel
theorem dX7_gather_12 : decode cX7_gather 12 = .ok (.getfield 26, 3) := by decide +kernel
theorem dX7_gather_15 : decode cX7_gather 15 = .ok (.if_icmp .ge 27, 3) := by decide +kernel
theorem dX7_gather_18 : decode cX7_gather 18 = .ok (.aload_n 0, 1) := by decide +kernel
theorem dX7_gather_19 : decode cX7_gather 19 = .ok (.getfield 14, 3) := by decide +kernel
theorem dX7_gather_22 : decode cX7_gather 22 = .ok (.iload_n 2, 1) := by decide +kernel
theorem dX7_gather_23 : decode cX7_gather 23 = .ok (.aload_n 1, 1) := by decide +kernel
theorem dX7_gather_24 : decode cX7_gather 24 = .ok (.aload_n 1, 1) := by decide +kernel
theorem dX7_gather_25 : decode cX7_gather 25 = .ok (.invokevirtual 30, 3) := by decide +kernel
theorem dX7_gather_28 : decode cX7_gather 28 = .ok (.iload_n 2, 1) := by decide +kernel
theorem dX7_gather_29 : decode cX7_gather 29 = .ok (.isub, 1) := by decide +kernel
theorem dX7_gather_30 : decode cX7_gather 30 = .ok (.invokevirtual 33, 3) := by decide +kernel
theorem dX7_gather_33 : decode cX7_gather 33 = .ok (.invokevirtual 37, 3) := by decide +kernel
theorem dX7_gather_36 : decode cX7_gather 36 = .ok (.iinc 2 1, 3) := by decide +kernel
theorem dX7_gather_39 : decode cX7_gather 39 = .ok (.goto (-29), 3) := by decide +kernel
theorem dX7_gather_42 : decode cX7_gather 42 = .ok (.return_, 1) := by decide +kernel
set_option maxRecDepth 20000 in
theorem ggX7_carryAlong_X0_lastPlace : GoodIn wsX7_carryAlong wsX0_lastPlace := goodIn_r _ [7, 8, 42, 43, 44, 45, 46, 47] (by decide +kernel) (by decide +kernel)
set_option maxRecDepth 20000 in
theorem gX7_carryAlong_X0_lastPlace : GoodIn wsX7_carryAlong (wsV RX7 30 RX0 yX0_lastPlace wsX0_lastPlace) := goodIn_app (goodIn_of _ (by decide +kernel)) ggX7_carryAlong_X0_lastPlace
set_option maxRecDepth 20000 in
theorem ggX7_carryAlong_X0_frameAt : GoodIn wsX7_carryAlong wsX0_frameAt := goodIn_r _ [12, 13, 14, 15, 16, 17, 18, 19, 42, 43, 44, 45, 46, 47, 48] (by decide +kernel) (by decide +kernel)
set_option maxRecDepth 20000 in
theorem gX7_carryAlong_X0_frameAt : GoodIn wsX7_carryAlong (wsV RX7 41 RX0 yX0_frameAt wsX0_frameAt) := goodIn_app (goodIn_of _ (by decide +kernel)) ggX7_carryAlong_X0_frameAt
set_option maxRecDepth 20000 in
theorem ggX7_carryAlong_X1_riseOver : GoodIn wsX7_carryAlong wsX1_riseOver := goodIn_r _ [24, 25, 26, 27, 28, 29, 30, 49, 50, 51, 52, 53] (by decide +kernel) (by decide +kernel)
set_option maxRecDepth 20000 in
theorem gX7_carryAlong_X1_riseOver : GoodIn wsX7_carryAlong (wsV RX7 44 RX1 yX1_riseOver wsX1_riseOver) := goodIn_app (goodIn_of _ (by decide +kernel)) ggX7_carryAlong_X1_riseOver
set_option maxRecDepth 20000 in
theorem ggX7_carryAlong_X2_add : GoodIn wsX7_carryAlong wsX2_add := goodIn_r _ [34, 35, 15, 16, 17, 18, 19, 36, 37, 38, 39, 48] (by decide +kernel) (by decide +kernel)
set_option maxRecDepth 20000 in
theorem gX7_carryAlong_X2_add : GoodIn wsX7_carryAlong (wsV RX7 49 RX2 yX2_add wsX2_add) := goodIn_app (goodIn_of _ (by decide +kernel)) ggX7_carryAlong_X2_add
theorem dX7_carryAlong_0 : decode cX7_carryAlong 0 = .ok (.iconst 0, 1) := by decide +kernel
theorem dX7_carryAlong_1 : decode cX7_carryAlong 1 = .ok (.istore 4, 2) := by decide +kernel
theorem dX7_carryAlong_3 : decode cX7_carryAlong 3 = .ok (.iload 4, 2) := by decide +kernel
theorem dX7_carryAlong_5 : decode cX7_carryAlong 5 = .ok (.aload_n 0, 1) := by decide +kernel
theorem dX7_carryAlong_6 : decode cX7_carryAlong 6 = .ok (.getfield 26, 3) := by decide +kernel
theorem dX7_carryAlong_9 : decode cX7_carryAlong 9 = .ok (.if_icmp .ge 39, 3) := by decide +kernel
theorem dX7_carryAlong_12 : decode cX7_carryAlong 12 = .ok (.aload_n 2, 1) := by decide +kernel
theorem dX7_carryAlong_13 : decode cX7_carryAlong 13 = .ok (.aload_n 2, 1) := by decide +kernel
theorem dX7_carryAlong_14 : decode cX7_carryAlong 14 = .ok (.invokevirtual 30, 3) := by decide +kernel
theorem dX7_carryAlong_17 : decode cX7_carryAlong 17 = .ok (.iload 4, 2) := by decide +kernel
theorem dX7_carryAlong_19 : decode cX7_carryAlong 19 = .ok (.isub, 1) := by decide +kernel
theorem dX7_carryAlong_20 : decode cX7_carryAlong 20 = .ok (.invokevirtual 41, 3) := by decide +kernel
theorem dX7_carryAlong_23 : decode cX7_carryAlong 23 = .ok (.istore 5, 2) := by decide +kernel
theorem dX7_carryAlong_25 : decode cX7_carryAlong 25 = .ok (.aload_n 0, 1) := by decide +kernel
theorem dX7_carryAlong_26 : decode cX7_carryAlong 26 = .ok (.getfield 14, 3) := by decide +kernel
theorem dX7_carryAlong_29 : decode cX7_carryAlong 29 = .ok (.iload 4, 2) := by decide +kernel
theorem dX7_carryAlong_31 : decode cX7_carryAlong 31 = .ok (.aload_n 1, 1) := by decide +kernel
theorem dX7_carryAlong_32 : decode cX7_carryAlong 32 = .ok (.iload_n 3, 1) := by decide +kernel
theorem dX7_carryAlong_33 : decode cX7_carryAlong 33 = .ok (.iload 5, 2) := by decide +kernel
theorem dX7_carryAlong_35 : decode cX7_carryAlong 35 = .ok (.isub, 1) := by decide +kernel
theorem dX7_carryAlong_36 : decode cX7_carryAlong 36 = .ok (.invokevirtual 44, 3) := by decide +kernel
theorem dX7_carryAlong_39 : decode cX7_carryAlong 39 = .ok (.invokevirtual 49, 3) := by decide +kernel
theorem dX7_carryAlong_42 : decode cX7_carryAlong 42 = .ok (.iinc 4 1, 3) := by decide +kernel
theorem dX7_carryAlong_45 : decode cX7_carryAlong 45 = .ok (.goto (-42), 3) := by decide +kernel
theorem dX7_carryAlong_48 : decode cX7_carryAlong 48 = .ok (.return_, 1) := by decide +kernel
set_option maxRecDepth 20000 in
theorem ggX7_byShare_X7_greatestOfLast : GoodIn wsX7_byShare wsX7_greatestOfLast := goodIn_r _ [7, 2, 8, 9, 10, 11, 12, 13, 14, 15, 16, 17, 22, 23, 24] (by decide +kernel) (by decide +kernel)
end
section
set_option maxRecDepth 20000 in
theorem gX7_byShare_X7_greatestOfLast : GoodIn wsX7_byShare (wsV RX7 52 RX7 yX7_greatestOfLast wsX7_greatestOfLast) := goodIn_app (goodIn_of _ (by decide +kernel)) ggX7_byShare_X7_greatestOfLast
set_option maxRecDepth 20000 in
theorem ggX7_byShare_X2_get : GoodIn wsX7_byShare wsX2_get := goodIn_r _ [16, 17, 24] (by decide +kernel) (by decide +kernel)
set_option maxRecDepth 20000 in
theorem gX7_byShare_X2_get : GoodIn wsX7_byShare (wsV RX7 55 RX2 yX2_get wsX2_get) := goodIn_app (goodIn_of _ (by decide +kernel)) ggX7_byShare_X2_get
set_option maxRecDepth 20000 in
theorem ggX7_byShare_X7_countAbove : GoodIn wsX7_byShare wsX7_countAbove := goodIn_r _ [21, 1, 2, 12, 13, 14, 15, 16, 17, 22, 23, 24] (by decide +kernel) (by decide +kernel)
set_option maxRecDepth 20000 in
theorem gX7_byShare_X7_countAbove : GoodIn wsX7_byShare (wsV RX7 58 RX7 yX7_countAbove wsX7_countAbove) := goodIn_app (goodIn_of _ (by decide +kernel)) ggX7_byShare_X7_countAbove
theorem dX7_byShare_0 : decode cX7_byShare 0 = .ok (.aload_n 0, 1) := by decide +kernel
theorem dX7_byShare_1 : decode cX7_byShare 1 = .ok (.aload_n 0, 1) := by decide +kernel
theorem dX7_byShare_2 : decode cX7_byShare 2 = .ok (.getfield 26, 3) := by decide +kernel
theorem dX7_byShare_5 : decode cX7_byShare 5 = .ok (.invokevirtual 52, 3) := by decide +kernel
theorem dX7_byShare_8 : decode cX7_byShare 8 = .ok (.istore_n 2, 1) := by decide +kernel
theorem dX7_byShare_9 : decode cX7_byShare 9 = .ok (.iconst 0, 1) := by decide +kernel
theorem dX7_byShare_10 : decode cX7_byShare 10 = .ok (.istore_n 3, 1) := by decide +kernel
theorem dX7_byShare_11 : decode cX7_byShare 11 = .ok (.iload_n 3, 1) := by decide +kernel
theorem dX7_byShare_12 : decode cX7_byShare 12 = .ok (.aload_n 0, 1) := by decide +kernel
theorem dX7_byShare_13 : decode cX7_byShare 13 = .ok (.getfield 26, 3) := by decide +kernel
theorem dX7_byShare_16 : decode cX7_byShare 16 = .ok (.if_icmp .ge 47, 3) := by decide +kernel
theorem dX7_byShare_19 : decode cX7_byShare 19 = .ok (.aload_n 0, 1) := by decide +kernel
theorem dX7_byShare_20 : decode cX7_byShare 20 = .ok (.getfield 14, 3) := by decide +kernel
theorem dX7_byShare_23 : decode cX7_byShare 23 = .ok (.iload_n 3, 1) := by decide +kernel
theorem dX7_byShare_24 : decode cX7_byShare 24 = .ok (.invokevirtual 55, 3) := by decide +kernel
theorem dX7_byShare_27 : decode cX7_byShare 27 = .ok (.istore 4, 2) := by decide +kernel
theorem dX7_byShare_29 : decode cX7_byShare 29 = .ok (.iload 4, 2) := by decide +kernel
theorem dX7_byShare_31 : decode cX7_byShare 31 = .ok (.iload_n 2, 1) := by decide +kernel
theorem dX7_byShare_32 : decode cX7_byShare 32 = .ok (.if_icmp .ge 25, 3) := by decide +kernel
theorem dX7_byShare_35 : decode cX7_byShare 35 = .ok (.sipush 256, 3) := by decide +kernel
theorem dX7_byShare_38 : decode cX7_byShare 38 = .ok (.aload_n 0, 1) := by decide +kernel
theorem dX7_byShare_39 : decode cX7_byShare 39 = .ok (.iload 4, 2) := by decide +kernel
theorem dX7_byShare_41 : decode cX7_byShare 41 = .ok (.invokevirtual 58, 3) := by decide +kernel
theorem dX7_byShare_44 : decode cX7_byShare 44 = .ok (.imul, 1) := by decide +kernel
theorem dX7_byShare_45 : decode cX7_byShare 45 = .ok (.iload_n 1, 1) := by decide +kernel
theorem dX7_byShare_46 : decode cX7_byShare 46 = .ok (.aload_n 0, 1) := by decide +kernel
theorem dX7_byShare_47 : decode cX7_byShare 47 = .ok (.getfield 26, 3) := by decide +kernel
theorem dX7_byShare_50 : decode cX7_byShare 50 = .ok (.imul, 1) := by decide +kernel
theorem dX7_byShare_51 : decode cX7_byShare 51 = .ok (.if_icmp .gt 6, 3) := by decide +kernel
theorem dX7_byShare_54 : decode cX7_byShare 54 = .ok (.iload 4, 2) := by decide +kernel
theorem dX7_byShare_56 : decode cX7_byShare 56 = .ok (.istore_n 2, 1) := by decide +kernel
theorem dX7_byShare_57 : decode cX7_byShare 57 = .ok (.iinc 3 1, 3) := by decide +kernel
theorem dX7_byShare_60 : decode cX7_byShare 60 = .ok (.goto (-49), 3) := by decide +kernel
theorem dX7_byShare_63 : decode cX7_byShare 63 = .ok (.iload_n 2, 1) := by decide +kernel
theorem dX7_byShare_64 : decode cX7_byShare 64 = .ok (.ireturn, 1) := by decide +kernel
set_option maxRecDepth 20000 in
theorem ggX7_greatestOfLastThree_X7_greatestOfLast : GoodIn wsX7_greatestOfLastThree wsX7_greatestOfLast := goodIn_r _ [10, 11, 12, 13, 4, 14, 15, 16, 17, 18, 19, 20, 21, 22, 23] (by decide +kernel) (by decide +kernel)
set_option maxRecDepth 20000 in
theorem gX7_greatestOfLastThree_X7_greatestOfLast : GoodIn wsX7_greatestOfLastThree (wsV RX7 52 RX7 yX7_greatestOfLast wsX7_greatestOfLast) := goodIn_app (goodIn_of _ (by decide +kernel)) ggX7_greatestOfLastThree_X7_greatestOfLast
theorem dX7_greatestOfLastThree_0 : decode cX7_greatestOfLastThree 0 = .ok (.aload_n 0, 1) := by decide +kernel
theorem dX7_greatestOfLastThree_1 : decode cX7_greatestOfLastThree 1 = .ok (.aload_n 0, 1) := by decide +kernel
theorem dX7_greatestOfLastThree_2 : decode cX7_greatestOfLastThree 2 = .ok (.getfield 26, 3) := by decide +kernel
theorem dX7_greatestOfLastThree_5 : decode cX7_greatestOfLastThree 5 = .ok (.iconst 3, 1) := by decide +kernel
theorem dX7_greatestOfLastThree_6 : decode cX7_greatestOfLastThree 6 = .ok (.invokestatic 61, 3) := by decide +kernel
theorem dX7_greatestOfLastThree_9 : decode cX7_greatestOfLastThree 9 = .ok (.invokevirtual 52, 3) := by decide +kernel
theorem dX7_greatestOfLastThree_12 : decode cX7_greatestOfLastThree 12 = .ok (.ireturn, 1) := by decide +kernel
set_option maxRecDepth 20000 in
theorem ggX7_byMean_X2_get : GoodIn wsX7_byMean wsX2_get := goodIn_r _ [11, 12, 19] (by decide +kernel) (by decide +kernel)
set_option maxRecDepth 20000 in
theorem gX7_byMean_X2_get : GoodIn wsX7_byMean (wsV RX7 55 RX2 yX2_get wsX2_get) := goodIn_app (goodIn_of _ (by decide +kernel)) ggX7_byMean_X2_get
set_option maxRecDepth 20000 in
theorem ggX7_byMean_J9_floorDiv_7cf53 : GoodIn wsX7_byMean wsJ9_floorDiv_7cf53 := goodIn_r _ [16] (by decide +kernel) (by decide +kernel)
set_option maxRecDepth 20000 in
theorem gX7_byMean_J9_floorDiv_7cf53 : GoodIn wsX7_byMean (va_wsS RX7 67 yJ9_floorDiv_7cf53 wsJ9_floorDiv_7cf53) := goodIn_app (goodIn_of _ (by decide +kernel)) ggX7_byMean_J9_floorDiv_7cf53
theorem dX7_byMean_0 : decode cX7_byMean 0 = .ok (.aload_n 0, 1) := by decide +kernel
theorem dX7_byMean_1 : decode cX7_byMean 1 = .ok (.getfield 26, 3) := by decide +kernel
theorem dX7_byMean_4 : decode cX7_byMean 4 = .ok (.ifCond .gt 5, 3) := by decide +kernel
theorem dX7_byMean_7 : decode cX7_byMean 7 = .ok (.iconst 0, 1) := by decide +kernel
theorem dX7_byMean_8 : decode cX7_byMean 8 = .ok (.ireturn, 1) := by decide +kernel
theorem dX7_byMean_9 : decode cX7_byMean 9 = .ok (.iconst 0, 1) := by decide +kernel
theorem dX7_byMean_10 : decode cX7_byMean 10 = .ok (.istore_n 2, 1) := by decide +kernel
theorem dX7_byMean_11 : decode cX7_byMean 11 = .ok (.iconst 0, 1) := by decide +kernel
theorem dX7_byMean_12 : decode cX7_byMean 12 = .ok (.istore_n 3, 1) := by decide +kernel
theorem dX7_byMean_13 : decode cX7_byMean 13 = .ok (.iload_n 3, 1) := by decide +kernel
theorem dX7_byMean_14 : decode cX7_byMean 14 = .ok (.aload_n 0, 1) := by decide +kernel
theorem dX7_byMean_15 : decode cX7_byMean 15 = .ok (.getfield 26, 3) := by decide +kernel
theorem dX7_byMean_18 : decode cX7_byMean 18 = .ok (.if_icmp .ge 20, 3) := by decide +kernel
theorem dX7_byMean_21 : decode cX7_byMean 21 = .ok (.iload_n 2, 1) := by decide +kernel
theorem dX7_byMean_22 : decode cX7_byMean 22 = .ok (.aload_n 0, 1) := by decide +kernel
theorem dX7_byMean_23 : decode cX7_byMean 23 = .ok (.getfield 14, 3) := by decide +kernel
theorem dX7_byMean_26 : decode cX7_byMean 26 = .ok (.iload_n 3, 1) := by decide +kernel
theorem dX7_byMean_27 : decode cX7_byMean 27 = .ok (.invokevirtual 55, 3) := by decide +kernel
theorem dX7_byMean_30 : decode cX7_byMean 30 = .ok (.iadd, 1) := by decide +kernel
theorem dX7_byMean_31 : decode cX7_byMean 31 = .ok (.istore_n 2, 1) := by decide +kernel
theorem dX7_byMean_32 : decode cX7_byMean 32 = .ok (.iinc 3 1, 3) := by decide +kernel
theorem dX7_byMean_35 : decode cX7_byMean 35 = .ok (.goto (-22), 3) := by decide +kernel
theorem dX7_byMean_38 : decode cX7_byMean 38 = .ok (.iload_n 2, 1) := by decide +kernel
theorem dX7_byMean_39 : decode cX7_byMean 39 = .ok (.aload_n 0, 1) := by decide +kernel
theorem dX7_byMean_40 : decode cX7_byMean 40 = .ok (.getfield 26, 3) := by decide +kernel
theorem dX7_byMean_43 : decode cX7_byMean 43 = .ok (.invokestatic 67, 3) := by decide +kernel
theorem dX7_byMean_46 : decode cX7_byMean 46 = .ok (.istore_n 3, 1) := by decide +kernel
theorem dX7_byMean_47 : decode cX7_byMean 47 = .ok (.iconst 0, 1) := by decide +kernel
theorem dX7_byMean_48 : decode cX7_byMean 48 = .ok (.istore 4, 2) := by decide +kernel
theorem dX7_byMean_50 : decode cX7_byMean 50 = .ok (.iconst 0, 1) := by decide +kernel
theorem dX7_byMean_51 : decode cX7_byMean 51 = .ok (.istore 5, 2) := by decide +kernel
theorem dX7_byMean_53 : decode cX7_byMean 53 = .ok (.iload 5, 2) := by decide +kernel
theorem dX7_byMean_55 : decode cX7_byMean 55 = .ok (.aload_n 0, 1) := by decide +kernel
theorem dX7_byMean_56 : decode cX7_byMean 56 = .ok (.getfield 26, 3) := by decide +kernel
theorem dX7_byMean_59 : decode cX7_byMean 59 = .ok (.if_icmp .ge 28, 3) := by decide +kernel
theorem dX7_byMean_62 : decode cX7_byMean 62 = .ok (.iload 4, 2) := by decide +kernel
theorem dX7_byMean_64 : decode cX7_byMean 64 = .ok (.aload_n 0, 1) := by decide +kernel
theorem dX7_byMean_65 : decode cX7_byMean 65 = .ok (.getfield 14, 3) := by decide +kernel
theorem dX7_byMean_68 : decode cX7_byMean 68 = .ok (.iload 5, 2) := by decide +kernel
theorem dX7_byMean_70 : decode cX7_byMean 70 = .ok (.invokevirtual 55, 3) := by decide +kernel
theorem dX7_byMean_73 : decode cX7_byMean 73 = .ok (.iload_n 3, 1) := by decide +kernel
theorem dX7_byMean_74 : decode cX7_byMean 74 = .ok (.isub, 1) := by decide +kernel
theorem dX7_byMean_75 : decode cX7_byMean 75 = .ok (.invokestatic 70, 3) := by decide +kernel
theorem dX7_byMean_78 : decode cX7_byMean 78 = .ok (.iadd, 1) := by decide +kernel
theorem dX7_byMean_79 : decode cX7_byMean 79 = .ok (.istore 4, 2) := by decide +kernel
theorem dX7_byMean_81 : decode cX7_byMean 81 = .ok (.iinc 5 1, 3) := by decide +kernel
theorem dX7_byMean_84 : decode cX7_byMean 84 = .ok (.goto (-31), 3) := by decide +kernel
theorem dX7_byMean_87 : decode cX7_byMean 87 = .ok (.iload_n 3, 1) := by decide +kernel
theorem dX7_byMean_88 : decode cX7_byMean 88 = .ok (.iload_n 1, 1) := by decide +kernel
theorem dX7_byMean_89 : decode cX7_byMean 89 = .ok (.iload 4, 2) := by decide +kernel
theorem dX7_byMean_91 : decode cX7_byMean 91 = .ok (.aload_n 0, 1) := by decide +kernel
theorem dX7_byMean_92 : decode cX7_byMean 92 = .ok (.getfield 26, 3) := by decide +kernel
theorem dX7_byMean_95 : decode cX7_byMean 95 = .ok (.invokestatic 67, 3) := by decide +kernel
theorem dX7_byMean_98 : decode cX7_byMean 98 = .ok (.imul, 1) := by decide +kernel
theorem dX7_byMean_99 : decode cX7_byMean 99 = .ok (.iadd, 1) := by decide +kernel
theorem dX7_byMean_100 : decode cX7_byMean 100 = .ok (.ireturn, 1) := by decide +kernel
set_option maxRecDepth 20000 in
theorem ggX7_countAbove_X2_get : GoodIn wsX7_countAbove wsX2_get := goodIn_r _ [7, 8, 11] (by decide +kernel) (by decide +kernel)
set_option maxRecDepth 20000 in
theorem gX7_countAbove_X2_get : GoodIn wsX7_countAbove (wsV RX7 55 RX2 yX2_get wsX2_get) := goodIn_app (goodIn_of _ (by decide +kernel)) ggX7_countAbove_X2_get
theorem dX7_countAbove_0 : decode cX7_countAbove 0 = .ok (.iconst 0, 1) := by decide +kernel
theorem dX7_countAbove_1 : decode cX7_countAbove 1 = .ok (.istore_n 2, 1) := by decide +kernel
theorem dX7_countAbove_2 : decode cX7_countAbove 2 = .ok (.iconst 0, 1) := by decide +kernel
theorem dX7_countAbove_3 : decode cX7_countAbove 3 = .ok (.istore_n 3, 1) := by decide +kernel
theorem dX7_countAbove_4 : decode cX7_countAbove 4 = .ok (.iload_n 3, 1) := by decide +kernel
theorem dX7_countAbove_5 : decode cX7_countAbove 5 = .ok (.aload_n 0, 1) := by decide +kernel
theorem dX7_countAbove_6 : decode cX7_countAbove 6 = .ok (.getfield 26, 3) := by decide +kernel
theorem dX7_countAbove_9 : decode cX7_countAbove 9 = .ok (.if_icmp .ge 24, 3) := by decide +kernel
theorem dX7_countAbove_12 : decode cX7_countAbove 12 = .ok (.aload_n 0, 1) := by decide +kernel
theorem dX7_countAbove_13 : decode cX7_countAbove 13 = .ok (.getfield 14, 3) := by decide +kernel
theorem dX7_countAbove_16 : decode cX7_countAbove 16 = .ok (.iload_n 3, 1) := by decide +kernel
theorem dX7_countAbove_17 : decode cX7_countAbove 17 = .ok (.invokevirtual 55, 3) := by decide +kernel
theorem dX7_countAbove_20 : decode cX7_countAbove 20 = .ok (.iload_n 1, 1) := by decide +kernel
theorem dX7_countAbove_21 : decode cX7_countAbove 21 = .ok (.if_icmp .le 6, 3) := by decide +kernel
theorem dX7_countAbove_24 : decode cX7_countAbove 24 = .ok (.iinc 2 1, 3) := by decide +kernel
theorem dX7_countAbove_27 : decode cX7_countAbove 27 = .ok (.iinc 3 1, 3) := by decide +kernel
theorem dX7_countAbove_30 : decode cX7_countAbove 30 = .ok (.goto (-26), 3) := by decide +kernel
theorem dX7_countAbove_33 : decode cX7_countAbove 33 = .ok (.iload_n 2, 1) := by decide +kernel
theorem dX7_countAbove_34 : decode cX7_countAbove 34 = .ok (.ireturn, 1) := by decide +kernel
set_option maxRecDepth 20000 in
theorem ggX7_greatestOfLast_X2_get : GoodIn wsX7_greatestOfLast wsX2_get := goodIn_r _ [10, 11, 14] (by decide +kernel) (by decide +kernel)
set_option maxRecDepth 20000 in
theorem gX7_greatestOfLast_X2_get : GoodIn wsX7_greatestOfLast (wsV RX7 55 RX2 yX2_get wsX2_get) := goodIn_app (goodIn_of _ (by decide +kernel)) ggX7_greatestOfLast_X2_get
theorem dX7_greatestOfLast_0 : decode cX7_greatestOfLast 0 = .ok (.aload_n 0, 1) := by decide +kernel
theorem dX7_greatestOfLast_1 : decode cX7_greatestOfLast 1 = .ok (.getfield 14, 3) := by decide +kernel
theorem dX7_greatestOfLast_4 : decode cX7_greatestOfLast 4 = .ok (.iconst 0, 1) := by decide +kernel
theorem dX7_greatestOfLast_5 : decode cX7_greatestOfLast 5 = .ok (.invokevirtual 55, 3) := by decide +kernel
theorem dX7_greatestOfLast_8 : decode cX7_greatestOfLast 8 = .ok (.istore_n 2, 1) := by decide +kernel
theorem dX7_greatestOfLast_9 : decode cX7_greatestOfLast 9 = .ok (.iconst 1, 1) := by decide +kernel
theorem dX7_greatestOfLast_10 : decode cX7_greatestOfLast 10 = .ok (.istore_n 3, 1) := by decide +kernel
theorem dX7_greatestOfLast_11 : decode cX7_greatestOfLast 11 = .ok (.iload_n 3, 1) := by decide +kernel
theorem dX7_greatestOfLast_12 : decode cX7_greatestOfLast 12 = .ok (.iload_n 1, 1) := by decide +kernel
theorem dX7_greatestOfLast_13 : decode cX7_greatestOfLast 13 = .ok (.if_icmp .ge 22, 3) := by decide +kernel
theorem dX7_greatestOfLast_16 : decode cX7_greatestOfLast 16 = .ok (.iload_n 2, 1) := by decide +kernel
theorem dX7_greatestOfLast_17 : decode cX7_greatestOfLast 17 = .ok (.aload_n 0, 1) := by decide +kernel
theorem dX7_greatestOfLast_18 : decode cX7_greatestOfLast 18 = .ok (.getfield 14, 3) := by decide +kernel
theorem dX7_greatestOfLast_21 : decode cX7_greatestOfLast 21 = .ok (.iload_n 3, 1) := by decide +kernel
theorem dX7_greatestOfLast_22 : decode cX7_greatestOfLast 22 = .ok (.invokevirtual 55, 3) := by decide +kernel
theorem dX7_greatestOfLast_25 : decode cX7_greatestOfLast 25 = .ok (.invokestatic 73, 3) := by decide +kernel
theorem dX7_greatestOfLast_28 : decode cX7_greatestOfLast 28 = .ok (.istore_n 2, 1) := by decide +kernel
theorem dX7_greatestOfLast_29 : decode cX7_greatestOfLast 29 = .ok (.iinc 3 1, 3) := by decide +kernel
theorem dX7_greatestOfLast_32 : decode cX7_greatestOfLast 32 = .ok (.goto (-21), 3) := by decide +kernel
theorem dX7_greatestOfLast_35 : decode cX7_greatestOfLast 35 = .ok (.iload_n 2, 1) := by decide +kernel
theorem dX7_greatestOfLast_36 : decode cX7_greatestOfLast 36 = .ok (.ireturn, 1) := by decide +kernel
set_option maxRecDepth 20000 in
theorem ggX8_init_X6_init : GoodIn wsX8_init wsX6_init := goodIn_r _ [37, 38, 2, 3, 39, 40, 41, 42, 43, 44, 45, 46, 47, 48, 49, 50, 51, 52, 139, 99, 100] (by decide +kernel) (by decide +kernel)
set_option maxRecDepth 20000 in
theorem gX8_init_X6_init_n11 : GoodIn wsX8_init (wsX6_init) := ggX8_init_X6_init
set_option maxRecDepth 20000 in
theorem ggX8_init_X0_init : GoodIn wsX8_init wsX0_init := goodIn_r _ [54, 55, 2, 3, 56, 40, 41, 57, 58, 59, 60, 61, 62, 44, 45, 46, 47, 48, 49, 50, 51, 52, 139, 112, 113, 114, 115, 116, 117] (by decide +kernel) (by decide +kernel)
set_option maxRecDepth 20000 in
theorem gX8_init_X0_init_n20 : GoodIn wsX8_init (wsX0_init) := ggX8_init_X0_init
set_option maxRecDepth 20000 in
theorem ggX8_init_X4_init : GoodIn wsX8_init wsX4_init := goodIn_r _ [64, 65, 2, 3, 66, 40, 41, 67, 68, 69, 70, 71, 72, 73, 74, 75, 44, 45, 46, 47, 48, 49, 50, 51, 52, 139, 118, 119, 120, 121, 122, 123, 124, 125, 126] (by decide +kernel) (by decide +kernel)
set_option maxRecDepth 20000 in
theorem gX8_init_X4_init_n27 : GoodIn wsX8_init (wsX4_init) := ggX8_init_X4_init
set_option maxRecDepth 20000 in
theorem ggX8_init_X5_init : GoodIn wsX8_init wsX5_init := goodIn_r _ [77, 78, 2, 3] (by decide +kernel) (by decide +kernel)
set_option maxRecDepth 20000 in
theorem gX8_init_X5_init_n34 : GoodIn wsX8_init (wsX5_init) := ggX8_init_X5_init
set_option maxRecDepth 20000 in
theorem ggX8_init_X1_init : GoodIn wsX8_init wsX1_init := goodIn_r _ [80, 81, 2, 3, 82, 40, 41, 83, 84, 85, 86, 44, 45, 46, 47, 48, 49, 50, 51, 52, 139, 130, 131, 132, 133, 134] (by decide +kernel) (by decide +kernel)
set_option maxRecDepth 20000 in
theorem gX8_init_X1_init_n41 : GoodIn wsX8_init (wsX1_init) := ggX8_init_X1_init
set_option maxRecDepth 20000 in
theorem ggX8_init_X7_init : GoodIn wsX8_init wsX7_init := goodIn_r _ [88, 89, 2, 3, 90, 40, 41, 91, 92, 44, 45, 46, 47, 48, 49, 50, 51, 52, 139, 135, 136] (by decide +kernel) (by decide +kernel)
set_option maxRecDepth 20000 in
theorem gX8_init_X7_init_n48 : GoodIn wsX8_init (wsX7_init) := ggX8_init_X7_init
set_option maxRecDepth 20000 in
theorem ggX8_init_X3_init : GoodIn wsX8_init wsX3_init := goodIn_r _ [94, 95, 2, 3, 96, 40, 41, 97, 98, 44, 45, 46, 47, 48, 49, 50, 51, 52, 139, 137, 138] (by decide +kernel) (by decide +kernel)
set_option maxRecDepth 20000 in
theorem gX8_init_X3_init_n55 : GoodIn wsX8_init (wsX3_init) := ggX8_init_X3_init
theorem dX8_init_0 : decode cX8_init 0 = .ok (.aload_n 0, 1) := by decide +kernel
theorem dX8_init_1 : decode cX8_init 1 = .ok (.invokespecial 3, 3) := by decide +kernel
theorem dX8_init_4 : decode cX8_init 4 = .ok (.aload_n 0, 1) := by decide +kernel
theorem dX8_init_5 : decode cX8_init 5 = .ok (.new 9, 3) := by decide +kernel
theorem dX8_init_8 : decode cX8_init 8 = .ok (.dup, 1) := by decide +kernel
theorem dX8_init_9 : decode cX8_init 9 = .ok (.invokespecial 11, 3) := by decide +kernel
theorem dX8_init_12 : decode cX8_init 12 = .ok (.putfield 12, 3) := by decide +kernel
theorem dX8_init_15 : decode cX8_init 15 = .ok (.aload_n 0, 1) := by decide +kernel
theorem dX8_init_16 : decode cX8_init 16 = .ok (.new 18, 3) := by decide +kernel
theorem dX8_init_19 : decode cX8_init 19 = .ok (.dup, 1) := by decide +kernel
theorem dX8_init_20 : decode cX8_init 20 = .ok (.invokespecial 20, 3) := by decide +kernel
theorem dX8_init_23 : decode cX8_init 23 = .ok (.putfield 21, 3) := by decide +kernel
theorem dX8_init_26 : decode cX8_init 26 = .ok (.aload_n 0, 1) := by decide +kernel
theorem dX8_init_27 : decode cX8_init 27 = .ok (.new 25, 3) := by decide +kernel
theorem dX8_init_30 : decode cX8_init 30 = .ok (.dup, 1) := by decide +kernel
theorem dX8_init_31 : decode cX8_init 31 = .ok (.invokespecial 27, 3) := by decide +kernel
theorem dX8_init_34 : decode cX8_init 34 = .ok (.putfield 28, 3) := by decide +kernel
theorem dX8_init_37 : decode cX8_init 37 = .ok (.aload_n 0, 1) := by decide +kernel
theorem dX8_init_38 : decode cX8_init 38 = .ok (.new 32, 3) := by decide +kernel
theorem dX8_init_41 : decode cX8_init 41 = .ok (.dup, 1) := by decide +kernel
theorem dX8_init_42 : decode cX8_init 42 = .ok (.invokespecial 34, 3) := by decide +kernel
theorem dX8_init_45 : decode cX8_init 45 = .ok (.putfield 35, 3) := by decide +kernel
theorem dX8_init_48 : decode cX8_init 48 = .ok (.aload_n 0, 1) := by decide +kernel
theorem dX8_init_49 : decode cX8_init 49 = .ok (.new 39, 3) := by decide +kernel
theorem dX8_init_52 : decode cX8_init 52 = .ok (.dup, 1) := by decide +kernel
theorem dX8_init_53 : decode cX8_init 53 = .ok (.invokespecial 41, 3) := by decide +kernel
theorem dX8_init_56 : decode cX8_init 56 = .ok (.putfield 42, 3) := by decide +kernel
theorem dX8_init_59 : decode cX8_init 59 = .ok (.aload_n 0, 1) := by decide +kernel
theorem dX8_init_60 : decode cX8_init 60 = .ok (.new 46, 3) := by decide +kernel
theorem dX8_init_63 : decode cX8_init 63 = .ok (.dup, 1) := by decide +kernel
theorem dX8_init_64 : decode cX8_init 64 = .ok (.invokespecial 48, 3) := by decide +kernel
theorem dX8_init_67 : decode cX8_init 67 = .ok (.putfield 49, 3) := by decide +kernel
theorem dX8_init_70 : decode cX8_init 70 = .ok (.aload_n 0, 1) := by decide +kernel
theorem dX8_init_71 : decode cX8_init 71 = .ok (.new 53, 3) := by decide +kernel
theorem dX8_init_74 : decode cX8_init 74 = .ok (.dup, 1) := by decide +kernel
theorem dX8_init_75 : decode cX8_init 75 = .ok (.invokespecial 55, 3) := by decide +kernel
theorem dX8_init_78 : decode cX8_init 78 = .ok (.putfield 56, 3) := by decide +kernel
theorem dX8_init_81 : decode cX8_init 81 = .ok (.aload_n 0, 1) := by decide +kernel
theorem dX8_init_82 : decode cX8_init 82 = .ok (.iconst 0, 1) := by decide +kernel
theorem dX8_init_83 : decode cX8_init 83 = .ok (.putfield 60, 3) := by decide +kernel
theorem dX8_init_86 : decode cX8_init 86 = .ok (.aload_n 0, 1) := by decide +kernel
theorem dX8_init_87 : decode cX8_init 87 = .ok (.bipush 60, 2) := by decide +kernel
theorem dX8_init_89 : decode cX8_init 89 = .ok (.putfield 64, 3) := by decide +kernel
theorem dX8_init_92 : decode cX8_init 92 = .ok (.aload_n 0, 1) := by decide +kernel
theorem dX8_init_93 : decode cX8_init 93 = .ok (.iconst 0, 1) := by decide +kernel
theorem dX8_init_94 : decode cX8_init 94 = .ok (.putfield 67, 3) := by decide +kernel
theorem dX8_init_97 : decode cX8_init 97 = .ok (.aload_n 0, 1) := by decide +kernel
theorem dX8_init_98 : decode cX8_init 98 = .ok (.bipush 80, 2) := by decide +kernel
theorem dX8_init_100 : decode cX8_init 100 = .ok (.putfield 70, 3) := by decide +kernel
theorem dX8_init_103 : decode cX8_init 103 = .ok (.return_, 1) := by decide +kernel
set_option maxRecDepth 20000 in
theorem ggX8_key_X8_isOutside : GoodIn wsX8_key wsX8_isOutside := goodIn_r _ [5] (by decide +kernel) (by decide +kernel)
set_option maxRecDepth 20000 in
theorem gX8_key_X8_isOutside : GoodIn wsX8_key (va_wsS RX8 73 yX8_isOutside wsX8_isOutside) := goodIn_app (goodIn_of _ (by decide +kernel)) ggX8_key_X8_isOutside
set_option maxRecDepth 20000 in
theorem ggX8_key_X6_size : GoodIn wsX8_key wsX6_size := goodIn_r _ [10, 11, 34, 35] (by decide +kernel) (by decide +kernel)
set_option maxRecDepth 20000 in
theorem gX8_key_X6_size : GoodIn wsX8_key (wsV RX8 77 RX6 yX6_size wsX6_size) := goodIn_app (goodIn_of _ (by decide +kernel)) ggX8_key_X6_size
set_option maxRecDepth 20000 in
theorem ggX8_key_X6_add : GoodIn wsX8_key wsX6_add := goodIn_r _ [15, 11, 16, 17, 18, 19, 20, 21, 22, 34, 35, 36] (by decide +kernel) (by decide +kernel)
set_option maxRecDepth 20000 in
theorem gX8_key_X6_add : GoodIn wsX8_key (wsV RX8 81 RX6 yX6_add wsX6_add) := goodIn_app (goodIn_of _ (by decide +kernel)) ggX8_key_X6_add
theorem dX8_key_0 : decode cX8_key 0 = .ok (.iload_n 1, 1) := by decide +kernel
theorem dX8_key_1 : decode cX8_key 1 = .ok (.iconst 0, 1) := by decide +kernel
theorem dX8_key_2 : decode cX8_key 2 = .ok (.bipush 127, 2) := by decide +kernel
theorem dX8_key_4 : decode cX8_key 4 = .ok (.invokestatic 73, 3) := by decide +kernel
theorem dX8_key_7 : decode cX8_key 7 = .ok (.ifCond .eq 6, 3) := by decide +kernel
theorem dX8_key_10 : decode cX8_key 10 = .ok (.bipush (-2), 2) := by decide +kernel
theorem dX8_key_12 : decode cX8_key 12 = .ok (.ireturn, 1) := by decide +kernel
theorem dX8_key_13 : decode cX8_key 13 = .ok (.aload_n 0, 1) := by decide +kernel
theorem dX8_key_14 : decode cX8_key 14 = .ok (.getfield 12, 3) := by decide +kernel
theorem dX8_key_17 : decode cX8_key 17 = .ok (.invokevirtual 77, 3) := by decide +kernel
theorem dX8_key_20 : decode cX8_key 20 = .ok (.bipush 8, 2) := by decide +kernel
theorem dX8_key_22 : decode cX8_key 22 = .ok (.if_icmp .lt 6, 3) := by decide +kernel
theorem dX8_key_25 : decode cX8_key 25 = .ok (.bipush (-4), 2) := by decide +kernel
theorem dX8_key_27 : decode cX8_key 27 = .ok (.ireturn, 1) := by decide +kernel
theorem dX8_key_28 : decode cX8_key 28 = .ok (.aload_n 0, 1) := by decide +kernel
theorem dX8_key_29 : decode cX8_key 29 = .ok (.getfield 12, 3) := by decide +kernel
theorem dX8_key_32 : decode cX8_key 32 = .ok (.iload_n 1, 1) := by decide +kernel
theorem dX8_key_33 : decode cX8_key 33 = .ok (.invokevirtual 81, 3) := by decide +kernel
theorem dX8_key_36 : decode cX8_key 36 = .ok (.aload_n 0, 1) := by decide +kernel
theorem dX8_key_37 : decode cX8_key 37 = .ok (.getfield 12, 3) := by decide +kernel
theorem dX8_key_40 : decode cX8_key 40 = .ok (.invokevirtual 77, 3) := by decide +kernel
theorem dX8_key_43 : decode cX8_key 43 = .ok (.ireturn, 1) := by decide +kernel
set_option maxRecDepth 20000 in
theorem ggX8_wipe_X6_size : GoodIn wsX8_wipe wsX6_size := goodIn_r _ [6, 7, 23, 24] (by decide +kernel) (by decide +kernel)
set_option maxRecDepth 20000 in
theorem gX8_wipe_X6_size : GoodIn wsX8_wipe (wsV RX8 77 RX6 yX6_size wsX6_size) := goodIn_app (goodIn_of _ (by decide +kernel)) ggX8_wipe_X6_size
set_option maxRecDepth 20000 in
theorem ggX8_wipe_X6_clear : GoodIn wsX8_wipe wsX6_clear := goodIn_r _ [11, 7, 23, 24] (by decide +kernel) (by decide +kernel)
set_option maxRecDepth 20000 in
theorem gX8_wipe_X6_clear : GoodIn wsX8_wipe (wsV RX8 85 RX6 yX6_clear wsX6_clear) := goodIn_app (goodIn_of _ (by decide +kernel)) ggX8_wipe_X6_clear
theorem dX8_wipe_0 : decode cX8_wipe 0 = .ok (.aload_n 0, 1) := by decide +kernel
theorem dX8_wipe_1 : decode cX8_wipe 1 = .ok (.getfield 12, 3) := by decide +kernel
theorem dX8_wipe_4 : decode cX8_wipe 4 = .ok (.invokevirtual 77, 3) := by decide +kernel
theorem dX8_wipe_7 : decode cX8_wipe 7 = .ok (.istore_n 1, 1) := by decide +kernel
theorem dX8_wipe_8 : decode cX8_wipe 8 = .ok (.aload_n 0, 1) := by decide +kernel
theorem dX8_wipe_9 : decode cX8_wipe 9 = .ok (.getfield 12, 3) := by decide +kernel
theorem dX8_wipe_12 : decode cX8_wipe 12 = .ok (.invokevirtual 85, 3) := by decide +kernel
theorem dX8_wipe_15 : decode cX8_wipe 15 = .ok (.iload_n 1, 1) := by decide +kernel
theorem dX8_wipe_16 : decode cX8_wipe 16 = .ok (.ireturn, 1) := by decide +kernel
set_option maxRecDepth 20000 in
theorem ggX8_manner_X8_mannerOnTape : GoodIn wsX8_manner wsX8_mannerOnTape := goodIn_r _ [8, 3, 9, 10, 7, 11, 12, 13, 14, 15, 16, 17, 18, 19, 20, 21, 22, 23, 24, 25, 26, 27, 28, 29, 30, 31, 32, 33, 34, 35, 36, 37, 38, 39, 40, 41, 42, 43, 44, 45, 46, 47, 48, 49, 50, 51, 52, 53, 54, 55, 56, 57, 58, 59, 60, 61, 62, 63, 64, 65, 66, 67, 68, 69, 70, 71, 72, 73, 87, 88, 89, 90, 91, 92, 93, 94, 95, 96, 97, 98, 99, 100] (by decide +kernel) (by decide +kernel)
set_option maxRecDepth 20000 in
theorem gX8_manner_X8_mannerOnTape : GoodIn wsX8_manner (wsV RX8 88 RX8 yX8_mannerOnTape wsX8_mannerOnTape) := goodIn_app (goodIn_of _ (by decide +kernel)) ggX8_manner_X8_mannerOnTape
set_option maxRecDepth 20000 in
theorem ggX8_manner_X8_leastNumber : GoodIn wsX8_manner wsX8_leastNumber := goodIn_r _ [76] (by decide +kernel) (by decide +kernel)
set_option maxRecDepth 20000 in
theorem gX8_manner_X8_leastNumber : GoodIn wsX8_manner (va_wsS RX8 91 yX8_leastNumber wsX8_leastNumber) := goodIn_app (goodIn_of _ (by decide +kernel)) ggX8_manner_X8_leastNumber
set_option maxRecDepth 20000 in
theorem ggX8_manner_X8_greatestNumber : GoodIn wsX8_manner wsX8_greatestNumber := goodIn_r _ [79] (by decide +kernel) (by decide +kernel)
set_option maxRecDepth 20000 in
theorem gX8_manner_X8_greatestNumber : GoodIn wsX8_manner (va_wsS RX8 95 yX8_greatestNumber wsX8_greatestNumber) := goodIn_app (goodIn_of _ (by decide +kernel)) ggX8_manner_X8_greatestNumber
set_option maxRecDepth 20000 in
theorem ggX8_manner_X8_isOutside : GoodIn wsX8_manner wsX8_isOutside := goodIn_r _ [82] (by decide +kernel) (by decide +kernel)
set_option maxRecDepth 20000 in
theorem gX8_manner_X8_isOutside : GoodIn wsX8_manner (va_wsS RX8 73 yX8_isOutside wsX8_isOutside) := goodIn_app (goodIn_of _ (by decide +kernel)) ggX8_manner_X8_isOutside
set_option maxRecDepth 20000 in
theorem ggX8_manner_X6_clear : GoodIn wsX8_manner wsX6_clear := goodIn_r _ [86, 17, 98, 99] (by decide +kernel) (by decide +kernel)
set_option maxRecDepth 20000 in
theorem gX8_manner_X6_clear : GoodIn wsX8_manner (wsV RX8 85 RX6 yX6_clear wsX6_clear) := goodIn_app (goodIn_of _ (by decide +kernel)) ggX8_manner_X6_clear
theorem dX8_manner_0 : decode cX8_manner 0 = .ok (.aload_n 0, 1) := by decide +kernel
theorem dX8_manner_1 : decode cX8_manner 1 = .ok (.invokevirtual 88, 3) := by decide +kernel
theorem dX8_manner_4 : decode cX8_manner 4 = .ok (.istore_n 2, 1) := by decide +kernel
theorem dX8_manner_5 : decode cX8_manner 5 = .ok (.iload_n 2, 1) := by decide +kernel
theorem dX8_manner_6 : decode cX8_manner 6 = .ok (.iconst (-1), 1) := by decide +kernel
theorem dX8_manner_7 : decode cX8_manner 7 = .ok (.if_icmp .ne 5, 3) := by decide +kernel
theorem dX8_manner_10 : decode cX8_manner 10 = .ok (.iconst (-1), 1) := by decide +kernel
theorem dX8_manner_11 : decode cX8_manner 11 = .ok (.ireturn, 1) := by decide +kernel
theorem dX8_manner_12 : decode cX8_manner 12 = .ok (.iload_n 1, 1) := by decide +kernel
theorem dX8_manner_13 : decode cX8_manner 13 = .ok (.iload_n 2, 1) := by decide +kernel
theorem dX8_manner_14 : decode cX8_manner 14 = .ok (.invokestatic 91, 3) := by decide +kernel
theorem dX8_manner_17 : decode cX8_manner 17 = .ok (.iload_n 2, 1) := by decide +kernel
theorem dX8_manner_18 : decode cX8_manner 18 = .ok (.invokestatic 95, 3) := by decide +kernel
theorem dX8_manner_21 : decode cX8_manner 21 = .ok (.invokestatic 73, 3) := by decide +kernel
theorem dX8_manner_24 : decode cX8_manner 24 = .ok (.ifCond .eq 6, 3) := by decide +kernel
theorem dX8_manner_27 : decode cX8_manner 27 = .ok (.bipush (-2), 2) := by decide +kernel
theorem dX8_manner_29 : decode cX8_manner 29 = .ok (.ireturn, 1) := by decide +kernel
theorem dX8_manner_30 : decode cX8_manner 30 = .ok (.aload_n 0, 1) := by decide +kernel
theorem dX8_manner_31 : decode cX8_manner 31 = .ok (.iload_n 2, 1) := by decide +kernel
theorem dX8_manner_32 : decode cX8_manner 32 = .ok (.putfield 60, 3) := by decide +kernel
theorem dX8_manner_35 : decode cX8_manner 35 = .ok (.aload_n 0, 1) := by decide +kernel
theorem dX8_manner_36 : decode cX8_manner 36 = .ok (.iload_n 1, 1) := by decide +kernel
theorem dX8_manner_37 : decode cX8_manner 37 = .ok (.putfield 64, 3) := by decide +kernel
theorem dX8_manner_40 : decode cX8_manner 40 = .ok (.aload_n 0, 1) := by decide +kernel
theorem dX8_manner_41 : decode cX8_manner 41 = .ok (.getfield 12, 3) := by decide +kernel
theorem dX8_manner_44 : decode cX8_manner 44 = .ok (.invokevirtual 85, 3) := by decide +kernel
theorem dX8_manner_47 : decode cX8_manner 47 = .ok (.iload_n 2, 1) := by decide +kernel
theorem dX8_manner_48 : decode cX8_manner 48 = .ok (.ireturn, 1) := by decide +kernel
set_option maxRecDepth 20000 in
theorem ggX8_margin_X8_isOutside : GoodIn wsX8_margin wsX8_isOutside := goodIn_r _ [5] (by decide +kernel) (by decide +kernel)
set_option maxRecDepth 20000 in
theorem gX8_margin_X8_isOutside : GoodIn wsX8_margin (va_wsS RX8 73 yX8_isOutside wsX8_isOutside) := goodIn_app (goodIn_of _ (by decide +kernel)) ggX8_margin_X8_isOutside
theorem dX8_margin_0 : decode cX8_margin 0 = .ok (.iload_n 1, 1) := by decide +kernel
theorem dX8_margin_1 : decode cX8_margin 1 = .ok (.iconst 0, 1) := by decide +kernel
theorem dX8_margin_2 : decode cX8_margin 2 = .ok (.sipush 200, 3) := by decide +kernel
theorem dX8_margin_5 : decode cX8_margin 5 = .ok (.invokestatic 73, 3) := by decide +kernel
theorem dX8_margin_8 : decode cX8_margin 8 = .ok (.ifCond .eq 6, 3) := by decide +kernel
theorem dX8_margin_11 : decode cX8_margin 11 = .ok (.bipush (-2), 2) := by decide +kernel
theorem dX8_margin_13 : decode cX8_margin 13 = .ok (.ireturn, 1) := by decide +kernel
theorem dX8_margin_14 : decode cX8_margin 14 = .ok (.aload_n 0, 1) := by decide +kernel
theorem dX8_margin_15 : decode cX8_margin 15 = .ok (.getfield 67, 3) := by decide +kernel
theorem dX8_margin_18 : decode cX8_margin 18 = .ok (.istore_n 2, 1) := by decide +kernel
theorem dX8_margin_19 : decode cX8_margin 19 = .ok (.aload_n 0, 1) := by decide +kernel
theorem dX8_margin_20 : decode cX8_margin 20 = .ok (.iload_n 1, 1) := by decide +kernel
theorem dX8_margin_21 : decode cX8_margin 21 = .ok (.putfield 67, 3) := by decide +kernel
theorem dX8_margin_24 : decode cX8_margin 24 = .ok (.iload_n 2, 1) := by decide +kernel
theorem dX8_margin_25 : decode cX8_margin 25 = .ok (.ireturn, 1) := by decide +kernel
set_option maxRecDepth 20000 in
theorem ggX8_jump_X8_isOutside : GoodIn wsX8_jump wsX8_isOutside := goodIn_r _ [5] (by decide +kernel) (by decide +kernel)
set_option maxRecDepth 20000 in
theorem gX8_jump_X8_isOutside : GoodIn wsX8_jump (va_wsS RX8 73 yX8_isOutside wsX8_isOutside) := goodIn_app (goodIn_of _ (by decide +kernel)) ggX8_jump_X8_isOutside
theorem dX8_jump_0 : decode cX8_jump 0 = .ok (.iload_n 1, 1) := by decide +kernel
theorem dX8_jump_1 : decode cX8_jump 1 = .ok (.bipush 10, 2) := by decide +kernel
theorem dX8_jump_3 : decode cX8_jump 3 = .ok (.sipush 1000, 3) := by decide +kernel
theorem dX8_jump_6 : decode cX8_jump 6 = .ok (.invokestatic 73, 3) := by decide +kernel
theorem dX8_jump_9 : decode cX8_jump 9 = .ok (.ifCond .eq 6, 3) := by decide +kernel
theorem dX8_jump_12 : decode cX8_jump 12 = .ok (.bipush (-2), 2) := by decide +kernel
theorem dX8_jump_14 : decode cX8_jump 14 = .ok (.ireturn, 1) := by decide +kernel
theorem dX8_jump_15 : decode cX8_jump 15 = .ok (.aload_n 0, 1) := by decide +kernel
theorem dX8_jump_16 : decode cX8_jump 16 = .ok (.getfield 70, 3) := by decide +kernel
theorem dX8_jump_19 : decode cX8_jump 19 = .ok (.istore_n 2, 1) := by decide +kernel
theorem dX8_jump_20 : decode cX8_jump 20 = .ok (.aload_n 0, 1) := by decide +kernel
theorem dX8_jump_21 : decode cX8_jump 21 = .ok (.iload_n 1, 1) := by decide +kernel
theorem dX8_jump_22 : decode cX8_jump 22 = .ok (.putfield 70, 3) := by decide +kernel
theorem dX8_jump_25 : decode cX8_jump 25 = .ok (.iload_n 2, 1) := by decide +kernel
theorem dX8_jump_26 : decode cX8_jump 26 = .ok (.ireturn, 1) := by decide +kernel
set_option maxRecDepth 20000 in
theorem ggX8_arrive_X8_refusalOf : GoodIn wsX8_arrive wsX8_refusalOf := goodIn_r _ [9, 1, 4, 10, 11, 8, 12, 13, 14, 15, 16, 17, 18, 19, 20, 21, 22, 23, 24, 25, 26, 27, 28, 29, 30, 31, 32, 33, 34, 35, 36, 37, 38, 39, 40, 41, 42, 43, 44, 45, 46, 47, 48, 236, 237, 238, 239, 240, 241, 242, 243, 244, 245, 246, 247, 248, 249, 250, 251, 252, 253, 254, 255, 256, 257, 258, 259, 260, 261, 262] (by decide +kernel) (by decide +kernel)
set_option maxRecDepth 20000 in
theorem gX8_arrive_X8_refusalOf : GoodIn wsX8_arrive (wsV RX8 98 RX8 yX8_refusalOf wsX8_refusalOf) := goodIn_app (goodIn_of _ (by decide +kernel)) ggX8_arrive_X8_refusalOf
set_option maxRecDepth 20000 in
theorem ggX8_arrive_X0_add : GoodIn wsX8_arrive wsX0_add := goodIn_r _ [52, 18, 53, 19, 30, 54, 55, 56, 23, 57, 25, 247, 248, 249, 250, 251, 252, 253] (by decide +kernel) (by decide +kernel)
set_option maxRecDepth 20000 in
theorem gX8_arrive_X0_add : GoodIn wsX8_arrive (wsV RX8 102 RX0 yX0_add wsX0_add) := goodIn_app (goodIn_of _ (by decide +kernel)) ggX8_arrive_X0_add
set_option maxRecDepth 20000 in
theorem ggX8_arrive_X0_delayAt : GoodIn wsX8_arrive wsX0_delayAt := goodIn_r _ [61, 19, 53, 20, 21, 22, 23, 24, 25, 247, 248, 249, 250, 251, 252, 253] (by decide +kernel) (by decide +kernel)
set_option maxRecDepth 20000 in
theorem gX8_arrive_X0_delayAt : GoodIn wsX8_arrive (wsV RX8 105 RX0 yX0_delayAt wsX0_delayAt) := goodIn_app (goodIn_of _ (by decide +kernel)) ggX8_arrive_X0_delayAt
set_option maxRecDepth 20000 in
theorem ggX8_arrive_X5_follow : GoodIn wsX8_arrive wsX5_follow := goodIn_r _ [66, 67, 68, 69, 263, 264, 265] (by decide +kernel) (by decide +kernel)
set_option maxRecDepth 20000 in
theorem gX8_arrive_X5_follow : GoodIn wsX8_arrive (wsV RX8 108 RX5 yX5_follow wsX5_follow) := goodIn_app (goodIn_of _ (by decide +kernel)) ggX8_arrive_X5_follow
set_option maxRecDepth 20000 in
theorem ggX8_arrive_X4_withHead : GoodIn wsX8_arrive wsX4_withHead := goodIn_r _ [73, 36, 37, 39, 21, 22, 23, 24, 25, 254, 255, 256, 257, 258, 259, 260, 261, 262, 253] (by decide +kernel) (by decide +kernel)
set_option maxRecDepth 20000 in
theorem gX8_arrive_X4_withHead : GoodIn wsX8_arrive (wsV RX8 112 RX4 yX4_withHead wsX4_withHead) := goodIn_app (goodIn_of _ (by decide +kernel)) ggX8_arrive_X4_withHead
set_option maxRecDepth 20000 in
theorem ggX8_arrive_X8_openSpurt : GoodIn wsX8_arrive wsX8_openSpurt := goodIn_r _ [77, 4, 78, 79, 80, 81, 82, 8, 83, 84, 1, 85, 86, 2, 87, 88, 89, 90, 91, 92, 93, 94, 95, 96, 16, 97, 18, 98, 99, 100, 101, 102, 103, 104, 105, 106, 59, 60, 61, 19, 53, 20, 21, 22, 23, 24, 25, 107, 55, 56, 57, 108, 109, 110, 111, 112, 113, 114, 115, 116, 27, 28, 29, 30, 117, 118, 119, 120, 121, 122, 123, 124, 125, 126, 127, 128, 129, 130, 131, 132, 133, 134, 135, 136, 137, 138, 139, 140, 141, 142, 143, 144, 145, 146, 147, 148, 149, 150, 151, 152, 153, 154, 155, 156, 157, 158, 159, 160, 161, 162, 163, 164, 165, 166, 167, 168, 65, 169, 67, 170, 171, 172, 173, 174, 175, 176, 177, 178, 179, 180, 181, 182, 183, 184, 185, 186, 187, 188, 189, 190, 191, 192, 193, 194, 195, 196, 197, 198, 199, 34, 200, 201, 202, 203, 36, 38, 204, 205, 206, 207, 208, 37, 39, 209, 210, 211, 212, 213, 214, 215, 44, 216, 236, 237, 238, 239, 240, 241, 242, 243, 244, 245, 246, 266, 267, 247, 248, 249, 250, 251, 252, 253, 268, 269, 270, 271, 272, 263, 264, 265, 254, 255, 256, 257, 258, 259, 260, 261, 262] (by decide +kernel) (by decide +kernel)
set_option maxRecDepth 20000 in
theorem gX8_arrive_X8_openSpurt : GoodIn wsX8_arrive (wsV RX8 115 RX8 yX8_openSpurt wsX8_openSpurt) := goodIn_app (goodIn_of _ (by decide +kernel)) ggX8_arrive_X8_openSpurt
set_option maxRecDepth 20000 in
theorem ggX8_arrive_X8_settle : GoodIn wsX8_arrive wsX8_settle := goodIn_r _ [220, 4, 1, 221, 222, 223, 34, 224, 202, 39, 21, 22, 23, 24, 25, 225, 226, 227, 16, 228, 229, 230, 54, 55, 56, 57, 231, 232, 233, 234, 214, 215, 44, 203, 180, 100, 181, 235, 161, 162, 163, 164, 165, 216, 236, 237, 238, 239, 240, 241, 242, 243, 244, 245, 246, 254, 255, 256, 257, 258, 259, 260, 261, 262, 253, 247, 248, 249, 250, 251, 252] (by decide +kernel) (by decide +kernel)
set_option maxRecDepth 20000 in
theorem gX8_arrive_X8_settle : GoodIn wsX8_arrive (wsV RX8 118 RX8 yX8_settle wsX8_settle) := goodIn_app (goodIn_of _ (by decide +kernel)) ggX8_arrive_X8_settle
theorem dX8_arrive_0 : decode cX8_arrive 0 = .ok (.aload_n 0, 1) := by decide +kernel
theorem dX8_arrive_1 : decode cX8_arrive 1 = .ok (.iload_n 1, 1) := by decide +kernel
theorem dX8_arrive_2 : decode cX8_arrive 2 = .ok (.iload_n 2, 1) := by decide +kernel
theorem dX8_arrive_3 : decode cX8_arrive 3 = .ok (.iload_n 3, 1) := by decide +kernel
theorem dX8_arrive_4 : decode cX8_arrive 4 = .ok (.iload 4, 2) := by decide +kernel
theorem dX8_arrive_6 : decode cX8_arrive 6 = .ok (.invokevirtual 98, 3) := by decide +kernel
theorem dX8_arrive_9 : decode cX8_arrive 9 = .ok (.istore 5, 2) := by decide +kernel
theorem dX8_arrive_11 : decode cX8_arrive 11 = .ok (.iload 5, 2) := by decide +kernel
theorem dX8_arrive_13 : decode cX8_arrive 13 = .ok (.ifCond .eq 6, 3) := by decide +kernel
theorem dX8_arrive_16 : decode cX8_arrive 16 = .ok (.iload 5, 2) := by decide +kernel
theorem dX8_arrive_18 : decode cX8_arrive 18 = .ok (.ireturn, 1) := by decide +kernel
theorem dX8_arrive_19 : decode cX8_arrive 19 = .ok (.aload_n 0, 1) := by decide +kernel
theorem dX8_arrive_20 : decode cX8_arrive 20 = .ok (.getfield 21, 3) := by decide +kernel
theorem dX8_arrive_23 : decode cX8_arrive 23 = .ok (.iload_n 1, 1) := by decide +kernel
theorem dX8_arrive_24 : decode cX8_arrive 24 = .ok (.iload 4, 2) := by decide +kernel
theorem dX8_arrive_26 : decode cX8_arrive 26 = .ok (.invokevirtual 102, 3) := by decide +kernel
theorem dX8_arrive_29 : decode cX8_arrive 29 = .ok (.istore 6, 2) := by decide +kernel
theorem dX8_arrive_31 : decode cX8_arrive 31 = .ok (.iload 6, 2) := by decide +kernel
theorem dX8_arrive_33 : decode cX8_arrive 33 = .ok (.ifCond .le 34, 3) := by decide +kernel
theorem dX8_arrive_36 : decode cX8_arrive 36 = .ok (.aload_n 0, 1) := by decide +kernel
theorem dX8_arrive_37 : decode cX8_arrive 37 = .ok (.getfield 35, 3) := by decide +kernel
theorem dX8_arrive_40 : decode cX8_arrive 40 = .ok (.aload_n 0, 1) := by decide +kernel
theorem dX8_arrive_41 : decode cX8_arrive 41 = .ok (.getfield 21, 3) := by decide +kernel
theorem dX8_arrive_44 : decode cX8_arrive 44 = .ok (.iload 6, 2) := by decide +kernel
theorem dX8_arrive_46 : decode cX8_arrive 46 = .ok (.iconst 1, 1) := by decide +kernel
theorem dX8_arrive_47 : decode cX8_arrive 47 = .ok (.isub, 1) := by decide +kernel
theorem dX8_arrive_48 : decode cX8_arrive 48 = .ok (.invokevirtual 105, 3) := by decide +kernel
theorem dX8_arrive_51 : decode cX8_arrive 51 = .ok (.aload_n 0, 1) := by decide +kernel
theorem dX8_arrive_52 : decode cX8_arrive 52 = .ok (.getfield 21, 3) := by decide +kernel
theorem dX8_arrive_55 : decode cX8_arrive 55 = .ok (.iload 6, 2) := by decide +kernel
theorem dX8_arrive_57 : decode cX8_arrive 57 = .ok (.invokevirtual 105, 3) := by decide +kernel
theorem dX8_arrive_60 : decode cX8_arrive 60 = .ok (.aload_n 0, 1) := by decide +kernel
theorem dX8_arrive_61 : decode cX8_arrive 61 = .ok (.getfield 70, 3) := by decide +kernel
theorem dX8_arrive_64 : decode cX8_arrive 64 = .ok (.invokevirtual 108, 3) := by decide +kernel
theorem dX8_arrive_67 : decode cX8_arrive 67 = .ok (.aload_n 0, 1) := by decide +kernel
theorem dX8_arrive_68 : decode cX8_arrive 68 = .ok (.getfield 28, 3) := by decide +kernel
theorem dX8_arrive_71 : decode cX8_arrive 71 = .ok (.iload_n 2, 1) := by decide +kernel
theorem dX8_arrive_72 : decode cX8_arrive 72 = .ok (.invokevirtual 112, 3) := by decide +kernel
theorem dX8_arrive_75 : decode cX8_arrive 75 = .ok (.istore 7, 2) := by decide +kernel
theorem dX8_arrive_77 : decode cX8_arrive 77 = .ok (.iload 7, 2) := by decide +kernel
theorem dX8_arrive_79 : decode cX8_arrive 79 = .ok (.iconst (-1), 1) := by decide +kernel
theorem dX8_arrive_80 : decode cX8_arrive 80 = .ok (.if_icmp .ne 11, 3) := by decide +kernel
theorem dX8_arrive_83 : decode cX8_arrive 83 = .ok (.aload_n 0, 1) := by decide +kernel
theorem dX8_arrive_84 : decode cX8_arrive 84 = .ok (.iload_n 2, 1) := by decide +kernel
theorem dX8_arrive_85 : decode cX8_arrive 85 = .ok (.iload_n 3, 1) := by decide +kernel
theorem dX8_arrive_86 : decode cX8_arrive 86 = .ok (.invokevirtual 115, 3) := by decide +kernel
theorem dX8_arrive_89 : decode cX8_arrive 89 = .ok (.istore 7, 2) := by decide +kernel
theorem dX8_arrive_91 : decode cX8_arrive 91 = .ok (.aload_n 0, 1) := by decide +kernel
theorem dX8_arrive_92 : decode cX8_arrive 92 = .ok (.iload 6, 2) := by decide +kernel
theorem dX8_arrive_94 : decode cX8_arrive 94 = .ok (.iload_n 1, 1) := by decide +kernel
theorem dX8_arrive_95 : decode cX8_arrive 95 = .ok (.iload 4, 2) := by decide +kernel
theorem dX8_arrive_97 : decode cX8_arrive 97 = .ok (.iload 7, 2) := by decide +kernel
theorem dX8_arrive_99 : decode cX8_arrive 99 = .ok (.invokevirtual 118, 3) := by decide +kernel
theorem dX8_arrive_102 : decode cX8_arrive 102 = .ok (.iload 7, 2) := by decide +kernel
theorem dX8_arrive_104 : decode cX8_arrive 104 = .ok (.ireturn, 1) := by decide +kernel
set_option maxRecDepth 20000 in
theorem ggX8_anew_X0_count : GoodIn wsX8_anew wsX0_count := goodIn_r _ [8, 9, 50, 51, 52, 53, 54, 55] (by decide +kernel) (by decide +kernel)
set_option maxRecDepth 20000 in
theorem gX8_anew_X0_count : GoodIn wsX8_anew (wsV RX8 122 RX0 yX0_count wsX0_count) := goodIn_app (goodIn_of _ (by decide +kernel)) ggX8_anew_X0_count
set_option maxRecDepth 20000 in
theorem ggX8_anew_X0_clear : GoodIn wsX8_anew wsX0_clear := goodIn_r _ [13, 9, 14, 15, 16, 17, 18, 19, 20, 21, 22, 23, 24, 25, 50, 51, 52, 53, 54, 55, 56] (by decide +kernel) (by decide +kernel)
set_option maxRecDepth 20000 in
theorem gX8_anew_X0_clear : GoodIn wsX8_anew (wsV RX8 125 RX0 yX0_clear wsX0_clear) := goodIn_app (goodIn_of _ (by decide +kernel)) ggX8_anew_X0_clear
set_option maxRecDepth 20000 in
theorem ggX8_anew_X4_clear : GoodIn wsX8_anew wsX4_clear := goodIn_r _ [30, 31, 57, 58, 59, 60, 61, 62, 63, 64, 65] (by decide +kernel) (by decide +kernel)
set_option maxRecDepth 20000 in
theorem gX8_anew_X4_clear : GoodIn wsX8_anew (wsV RX8 126 RX4 yX4_clear wsX4_clear) := goodIn_app (goodIn_of _ (by decide +kernel)) ggX8_anew_X4_clear
set_option maxRecDepth 20000 in
theorem ggX8_anew_X5_clear : GoodIn wsX8_anew wsX5_clear := goodIn_r _ [36, 37, 38, 66, 67, 68] (by decide +kernel) (by decide +kernel)
set_option maxRecDepth 20000 in
theorem gX8_anew_X5_clear : GoodIn wsX8_anew (wsV RX8 127 RX5 yX5_clear wsX5_clear) := goodIn_app (goodIn_of _ (by decide +kernel)) ggX8_anew_X5_clear
theorem dX8_anew_0 : decode cX8_anew 0 = .ok (.aload_n 0, 1) := by decide +kernel
theorem dX8_anew_1 : decode cX8_anew 1 = .ok (.getfield 21, 3) := by decide +kernel
theorem dX8_anew_4 : decode cX8_anew 4 = .ok (.invokevirtual 122, 3) := by decide +kernel
theorem dX8_anew_7 : decode cX8_anew 7 = .ok (.istore_n 1, 1) := by decide +kernel
theorem dX8_anew_8 : decode cX8_anew 8 = .ok (.aload_n 0, 1) := by decide +kernel
theorem dX8_anew_9 : decode cX8_anew 9 = .ok (.getfield 21, 3) := by decide +kernel
theorem dX8_anew_12 : decode cX8_anew 12 = .ok (.invokevirtual 125, 3) := by decide +kernel
theorem dX8_anew_15 : decode cX8_anew 15 = .ok (.aload_n 0, 1) := by decide +kernel
theorem dX8_anew_16 : decode cX8_anew 16 = .ok (.getfield 28, 3) := by decide +kernel
theorem dX8_anew_19 : decode cX8_anew 19 = .ok (.invokevirtual 126, 3) := by decide +kernel
theorem dX8_anew_22 : decode cX8_anew 22 = .ok (.aload_n 0, 1) := by decide +kernel
theorem dX8_anew_23 : decode cX8_anew 23 = .ok (.getfield 35, 3) := by decide +kernel
theorem dX8_anew_26 : decode cX8_anew 26 = .ok (.invokevirtual 127, 3) := by decide +kernel
theorem dX8_anew_29 : decode cX8_anew 29 = .ok (.iload_n 1, 1) := by decide +kernel
theorem dX8_anew_30 : decode cX8_anew 30 = .ok (.ireturn, 1) := by decide +kernel
set_option maxRecDepth 20000 in
theorem ggX8_ofFrame_X0_placeOf : GoodIn wsX8_ofFrame wsX0_placeOf := goodIn_r _ [6, 7, 8, 9, 10, 11, 12, 13, 45, 46, 47, 48, 49, 50, 51] (by decide +kernel) (by decide +kernel)
set_option maxRecDepth 20000 in
theorem gX8_ofFrame_X0_placeOf : GoodIn wsX8_ofFrame (wsV RX8 128 RX0 yX0_placeOf wsX0_placeOf) := goodIn_app (goodIn_of _ (by decide +kernel)) ggX8_ofFrame_X0_placeOf
set_option maxRecDepth 20000 in
theorem ggX8_ofFrame_X0_whenAt : GoodIn wsX8_ofFrame wsX0_whenAt := goodIn_r _ [17, 18, 8, 9, 10, 11, 12, 13, 45, 46, 47, 48, 49, 50, 51] (by decide +kernel) (by decide +kernel)
set_option maxRecDepth 20000 in
theorem gX8_ofFrame_X0_whenAt : GoodIn wsX8_ofFrame (wsV RX8 131 RX0 yX0_whenAt wsX0_whenAt) := goodIn_app (goodIn_of _ (by decide +kernel)) ggX8_ofFrame_X0_whenAt
set_option maxRecDepth 20000 in
theorem ggX8_ofFrame_X0_delayAt : GoodIn wsX8_ofFrame wsX0_delayAt := goodIn_r _ [22, 18, 23, 8, 9, 10, 11, 12, 13, 45, 46, 47, 48, 49, 50, 51] (by decide +kernel) (by decide +kernel)
set_option maxRecDepth 20000 in
theorem gX8_ofFrame_X0_delayAt : GoodIn wsX8_ofFrame (wsV RX8 105 RX0 yX0_delayAt wsX0_delayAt) := goodIn_app (goodIn_of _ (by decide +kernel)) ggX8_ofFrame_X0_delayAt
set_option maxRecDepth 20000 in
theorem ggX8_ofFrame_X0_spurtAt : GoodIn wsX8_ofFrame wsX0_spurtAt := goodIn_r _ [27, 28, 8, 9, 10, 11, 12, 13, 45, 46, 47, 48, 49, 50, 51] (by decide +kernel) (by decide +kernel)
set_option maxRecDepth 20000 in
theorem gX8_ofFrame_X0_spurtAt : GoodIn wsX8_ofFrame (wsV RX8 134 RX0 yX0_spurtAt wsX0_spurtAt) := goodIn_app (goodIn_of _ (by decide +kernel)) ggX8_ofFrame_X0_spurtAt
set_option maxRecDepth 20000 in
theorem ggX8_ofFrame_X0_playedAt : GoodIn wsX8_ofFrame wsX0_playedAt := goodIn_r _ [32, 33, 8, 9, 10, 11, 12, 13, 45, 46, 47, 48, 49, 50, 51] (by decide +kernel) (by decide +kernel)
set_option maxRecDepth 20000 in
theorem gX8_ofFrame_X0_playedAt : GoodIn wsX8_ofFrame (wsV RX8 137 RX0 yX0_playedAt wsX0_playedAt) := goodIn_app (goodIn_of _ (by decide +kernel)) ggX8_ofFrame_X0_playedAt
theorem dX8_ofFrame_0 : decode cX8_ofFrame 0 = .ok (.aload_n 0, 1) := by decide +kernel
theorem dX8_ofFrame_1 : decode cX8_ofFrame 1 = .ok (.getfield 21, 3) := by decide +kernel
theorem dX8_ofFrame_4 : decode cX8_ofFrame 4 = .ok (.iload_n 1, 1) := by decide +kernel
theorem dX8_ofFrame_5 : decode cX8_ofFrame 5 = .ok (.invokevirtual 128, 3) := by decide +kernel
theorem dX8_ofFrame_8 : decode cX8_ofFrame 8 = .ok (.istore_n 3, 1) := by decide +kernel
theorem dX8_ofFrame_9 : decode cX8_ofFrame 9 = .ok (.iload_n 3, 1) := by decide +kernel
theorem dX8_ofFrame_10 : decode cX8_ofFrame 10 = .ok (.iconst (-1), 1) := by decide +kernel
theorem dX8_ofFrame_11 : decode cX8_ofFrame 11 = .ok (.if_icmp .ne 5, 3) := by decide +kernel
theorem dX8_ofFrame_14 : decode cX8_ofFrame 14 = .ok (.iconst (-1), 1) := by decide +kernel
theorem dX8_ofFrame_15 : decode cX8_ofFrame 15 = .ok (.ireturn, 1) := by decide +kernel
theorem dX8_ofFrame_16 : decode cX8_ofFrame 16 = .ok (.iload_n 2, 1) := by decide +kernel
theorem dX8_ofFrame_17 : decode cX8_ofFrame 17 = .ok (.tableswitch 77 0 4 #[35, 44, 57, 66, 75], 35) := by decide +kernel
theorem dX8_ofFrame_52 : decode cX8_ofFrame 52 = .ok (.aload_n 0, 1) := by decide +kernel
theorem dX8_ofFrame_53 : decode cX8_ofFrame 53 = .ok (.getfield 21, 3) := by decide +kernel
theorem dX8_ofFrame_56 : decode cX8_ofFrame 56 = .ok (.iload_n 3, 1) := by decide +kernel
theorem dX8_ofFrame_57 : decode cX8_ofFrame 57 = .ok (.invokevirtual 131, 3) := by decide +kernel
theorem dX8_ofFrame_60 : decode cX8_ofFrame 60 = .ok (.ireturn, 1) := by decide +kernel
theorem dX8_ofFrame_61 : decode cX8_ofFrame 61 = .ok (.aload_n 0, 1) := by decide +kernel
theorem dX8_ofFrame_62 : decode cX8_ofFrame 62 = .ok (.getfield 21, 3) := by decide +kernel
theorem dX8_ofFrame_65 : decode cX8_ofFrame 65 = .ok (.iload_n 3, 1) := by decide +kernel
theorem dX8_ofFrame_66 : decode cX8_ofFrame 66 = .ok (.invokevirtual 105, 3) := by decide +kernel
theorem dX8_ofFrame_69 : decode cX8_ofFrame 69 = .ok (.sipush 10000, 3) := by decide +kernel
theorem dX8_ofFrame_72 : decode cX8_ofFrame 72 = .ok (.iadd, 1) := by decide +kernel
theorem dX8_ofFrame_73 : decode cX8_ofFrame 73 = .ok (.ireturn, 1) := by decide +kernel
theorem dX8_ofFrame_74 : decode cX8_ofFrame 74 = .ok (.aload_n 0, 1) := by decide +kernel
theorem dX8_ofFrame_75 : decode cX8_ofFrame 75 = .ok (.getfield 21, 3) := by decide +kernel
theorem dX8_ofFrame_78 : decode cX8_ofFrame 78 = .ok (.iload_n 3, 1) := by decide +kernel
theorem dX8_ofFrame_79 : decode cX8_ofFrame 79 = .ok (.invokevirtual 134, 3) := by decide +kernel
theorem dX8_ofFrame_82 : decode cX8_ofFrame 82 = .ok (.ireturn, 1) := by decide +kernel
theorem dX8_ofFrame_83 : decode cX8_ofFrame 83 = .ok (.aload_n 0, 1) := by decide +kernel
theorem dX8_ofFrame_84 : decode cX8_ofFrame 84 = .ok (.getfield 21, 3) := by decide +kernel
theorem dX8_ofFrame_87 : decode cX8_ofFrame 87 = .ok (.iload_n 3, 1) := by decide +kernel
theorem dX8_ofFrame_88 : decode cX8_ofFrame 88 = .ok (.invokevirtual 137, 3) := by decide +kernel
theorem dX8_ofFrame_91 : decode cX8_ofFrame 91 = .ok (.ireturn, 1) := by decide +kernel
theorem dX8_ofFrame_92 : decode cX8_ofFrame 92 = .ok (.iload_n 3, 1) := by decide +kernel
theorem dX8_ofFrame_93 : decode cX8_ofFrame 93 = .ok (.ireturn, 1) := by decide +kernel
theorem dX8_ofFrame_94 : decode cX8_ofFrame 94 = .ok (.bipush (-2), 2) := by decide +kernel
theorem dX8_ofFrame_96 : decode cX8_ofFrame 96 = .ok (.ireturn, 1) := by decide +kernel
set_option maxRecDepth 20000 in
theorem ggX8_ofSpurt_X4_count : GoodIn wsX8_ofSpurt wsX4_count := goodIn_r _ [6, 7, 68, 69, 70, 71, 72, 73, 74, 75, 76] (by decide +kernel) (by decide +kernel)
set_option maxRecDepth 20000 in
theorem gX8_ofSpurt_X4_count : GoodIn wsX8_ofSpurt (wsV RX8 140 RX4 yX4_count wsX4_count) := goodIn_app (goodIn_of _ (by decide +kernel)) ggX8_ofSpurt_X4_count
set_option maxRecDepth 20000 in
theorem ggX8_ofSpurt_X8_isOutside : GoodIn wsX8_ofSpurt wsX8_isOutside := goodIn_r _ [11] (by decide +kernel) (by decide +kernel)
set_option maxRecDepth 20000 in
theorem gX8_ofSpurt_X8_isOutside : GoodIn wsX8_ofSpurt (va_wsS RX8 73 yX8_isOutside wsX8_isOutside) := goodIn_app (goodIn_of _ (by decide +kernel)) ggX8_ofSpurt_X8_isOutside
set_option maxRecDepth 20000 in
theorem ggX8_ofSpurt_X4_headOf : GoodIn wsX8_ofSpurt wsX4_headOf := goodIn_r _ [15, 16, 17, 18, 19, 20, 21, 22, 68, 69, 70, 71, 72, 73, 74, 75, 76, 77] (by decide +kernel) (by decide +kernel)
set_option maxRecDepth 20000 in
theorem gX8_ofSpurt_X4_headOf : GoodIn wsX8_ofSpurt (wsV RX8 141 RX4 yX4_headOf wsX4_headOf) := goodIn_app (goodIn_of _ (by decide +kernel)) ggX8_ofSpurt_X4_headOf
set_option maxRecDepth 20000 in
theorem ggX8_ofSpurt_X4_pauseOf : GoodIn wsX8_ofSpurt wsX4_pauseOf := goodIn_r _ [26, 27, 17, 18, 19, 20, 21, 22, 68, 69, 70, 71, 72, 73, 74, 75, 76, 77] (by decide +kernel) (by decide +kernel)
set_option maxRecDepth 20000 in
theorem gX8_ofSpurt_X4_pauseOf : GoodIn wsX8_ofSpurt (wsV RX8 144 RX4 yX4_pauseOf wsX4_pauseOf) := goodIn_app (goodIn_of _ (by decide +kernel)) ggX8_ofSpurt_X4_pauseOf
set_option maxRecDepth 20000 in
theorem ggX8_ofSpurt_X4_timeOf : GoodIn wsX8_ofSpurt wsX4_timeOf := goodIn_r _ [31, 32, 17, 18, 19, 20, 21, 22, 68, 69, 70, 71, 72, 73, 74, 75, 76, 77] (by decide +kernel) (by decide +kernel)
set_option maxRecDepth 20000 in
theorem gX8_ofSpurt_X4_timeOf : GoodIn wsX8_ofSpurt (wsV RX8 147 RX4 yX4_timeOf wsX4_timeOf) := goodIn_app (goodIn_of _ (by decide +kernel)) ggX8_ofSpurt_X4_timeOf
set_option maxRecDepth 20000 in
theorem ggX8_ofSpurt_X4_cameOf : GoodIn wsX8_ofSpurt wsX4_cameOf := goodIn_r _ [36, 37, 17, 18, 19, 20, 21, 22, 68, 69, 70, 71, 72, 73, 74, 75, 76, 77] (by decide +kernel) (by decide +kernel)
set_option maxRecDepth 20000 in
theorem gX8_ofSpurt_X4_cameOf : GoodIn wsX8_ofSpurt (wsV RX8 150 RX4 yX4_cameOf wsX4_cameOf) := goodIn_app (goodIn_of _ (by decide +kernel)) ggX8_ofSpurt_X4_cameOf
set_option maxRecDepth 20000 in
theorem ggX8_ofSpurt_X4_playedOf : GoodIn wsX8_ofSpurt wsX4_playedOf := goodIn_r _ [41, 42, 17, 18, 19, 20, 21, 22, 68, 69, 70, 71, 72, 73, 74, 75, 76, 77] (by decide +kernel) (by decide +kernel)
set_option maxRecDepth 20000 in
theorem gX8_ofSpurt_X4_playedOf : GoodIn wsX8_ofSpurt (wsV RX8 153 RX4 yX4_playedOf wsX4_playedOf) := goodIn_app (goodIn_of _ (by decide +kernel)) ggX8_ofSpurt_X4_playedOf
set_option maxRecDepth 20000 in
theorem ggX8_ofSpurt_X4_missingOf : GoodIn wsX8_ofSpurt wsX4_missingOf := goodIn_r _ [46, 47, 16, 37, 17, 18, 19, 20, 21, 22, 68, 69, 70, 71, 72, 73, 74, 75, 76, 77] (by decide +kernel) (by decide +kernel)
set_option maxRecDepth 20000 in
theorem gX8_ofSpurt_X4_missingOf : GoodIn wsX8_ofSpurt (wsV RX8 156 RX4 yX4_missingOf wsX4_missingOf) := goodIn_app (goodIn_of _ (by decide +kernel)) ggX8_ofSpurt_X4_missingOf
set_option maxRecDepth 20000 in
theorem ggX8_ofSpurt_X4_greatestOf : GoodIn wsX8_ofSpurt wsX4_greatestOf := goodIn_r _ [51, 47, 17, 18, 19, 20, 21, 22, 68, 69, 70, 71, 72, 73, 74, 75, 76, 77] (by decide +kernel) (by decide +kernel)
set_option maxRecDepth 20000 in
theorem gX8_ofSpurt_X4_greatestOf : GoodIn wsX8_ofSpurt (wsV RX8 159 RX4 yX4_greatestOf wsX4_greatestOf) := goodIn_app (goodIn_of _ (by decide +kernel)) ggX8_ofSpurt_X4_greatestOf
set_option maxRecDepth 20000 in
theorem ggX8_ofSpurt_X4_mannerOf : GoodIn wsX8_ofSpurt wsX4_mannerOf := goodIn_r _ [55, 56, 17, 18, 19, 20, 21, 22, 68, 69, 70, 71, 72, 73, 74, 75, 76, 77] (by decide +kernel) (by decide +kernel)
set_option maxRecDepth 20000 in
theorem gX8_ofSpurt_X4_mannerOf : GoodIn wsX8_ofSpurt (wsV RX8 162 RX4 yX4_mannerOf wsX4_mannerOf) := goodIn_app (goodIn_of _ (by decide +kernel)) ggX8_ofSpurt_X4_mannerOf
theorem dX8_ofSpurt_0 : decode cX8_ofSpurt 0 = .ok (.iload_n 1, 1) := by decide +kernel
theorem dX8_ofSpurt_1 : decode cX8_ofSpurt 1 = .ok (.iconst 0, 1) := by decide +kernel
theorem dX8_ofSpurt_2 : decode cX8_ofSpurt 2 = .ok (.aload_n 0, 1) := by decide +kernel
theorem dX8_ofSpurt_3 : decode cX8_ofSpurt 3 = .ok (.getfield 28, 3) := by decide +kernel
theorem dX8_ofSpurt_6 : decode cX8_ofSpurt 6 = .ok (.invokevirtual 140, 3) := by decide +kernel
theorem dX8_ofSpurt_9 : decode cX8_ofSpurt 9 = .ok (.iconst 1, 1) := by decide +kernel
theorem dX8_ofSpurt_10 : decode cX8_ofSpurt 10 = .ok (.isub, 1) := by decide +kernel
theorem dX8_ofSpurt_11 : decode cX8_ofSpurt 11 = .ok (.invokestatic 73, 3) := by decide +kernel
theorem dX8_ofSpurt_14 : decode cX8_ofSpurt 14 = .ok (.ifCond .eq 5, 3) := by decide +kernel
theorem dX8_ofSpurt_17 : decode cX8_ofSpurt 17 = .ok (.iconst (-1), 1) := by decide +kernel
theorem dX8_ofSpurt_18 : decode cX8_ofSpurt 18 = .ok (.ireturn, 1) := by decide +kernel
theorem dX8_ofSpurt_19 : decode cX8_ofSpurt 19 = .ok (.iload_n 2, 1) := by decide +kernel
theorem dX8_ofSpurt_20 : decode cX8_ofSpurt 20 = .ok (.tableswitch 146 0 8 #[52, 61, 70, 83, 92, 101, 119, 128, 137], 52) := by decide +kernel
theorem dX8_ofSpurt_72 : decode cX8_ofSpurt 72 = .ok (.aload_n 0, 1) := by decide +kernel
theorem dX8_ofSpurt_73 : decode cX8_ofSpurt 73 = .ok (.getfield 28, 3) := by decide +kernel
theorem dX8_ofSpurt_76 : decode cX8_ofSpurt 76 = .ok (.iload_n 1, 1) := by decide +kernel
theorem dX8_ofSpurt_77 : decode cX8_ofSpurt 77 = .ok (.invokevirtual 141, 3) := by decide +kernel
theorem dX8_ofSpurt_80 : decode cX8_ofSpurt 80 = .ok (.ireturn, 1) := by decide +kernel
theorem dX8_ofSpurt_81 : decode cX8_ofSpurt 81 = .ok (.aload_n 0, 1) := by decide +kernel
theorem dX8_ofSpurt_82 : decode cX8_ofSpurt 82 = .ok (.getfield 28, 3) := by decide +kernel
theorem dX8_ofSpurt_85 : decode cX8_ofSpurt 85 = .ok (.iload_n 1, 1) := by decide +kernel
theorem dX8_ofSpurt_86 : decode cX8_ofSpurt 86 = .ok (.invokevirtual 144, 3) := by decide +kernel
theorem dX8_ofSpurt_89 : decode cX8_ofSpurt 89 = .ok (.ireturn, 1) := by decide +kernel
theorem dX8_ofSpurt_90 : decode cX8_ofSpurt 90 = .ok (.aload_n 0, 1) := by decide +kernel
theorem dX8_ofSpurt_91 : decode cX8_ofSpurt 91 = .ok (.getfield 28, 3) := by decide +kernel
theorem dX8_ofSpurt_94 : decode cX8_ofSpurt 94 = .ok (.iload_n 1, 1) := by decide +kernel
theorem dX8_ofSpurt_95 : decode cX8_ofSpurt 95 = .ok (.invokevirtual 147, 3) := by decide +kernel
theorem dX8_ofSpurt_98 : decode cX8_ofSpurt 98 = .ok (.sipush 10000, 3) := by decide +kernel
theorem dX8_ofSpurt_101 : decode cX8_ofSpurt 101 = .ok (.iadd, 1) := by decide +kernel
theorem dX8_ofSpurt_102 : decode cX8_ofSpurt 102 = .ok (.ireturn, 1) := by decide +kernel
theorem dX8_ofSpurt_103 : decode cX8_ofSpurt 103 = .ok (.aload_n 0, 1) := by decide +kernel
theorem dX8_ofSpurt_104 : decode cX8_ofSpurt 104 = .ok (.getfield 28, 3) := by decide +kernel
theorem dX8_ofSpurt_107 : decode cX8_ofSpurt 107 = .ok (.iload_n 1, 1) := by decide +kernel
theorem dX8_ofSpurt_108 : decode cX8_ofSpurt 108 = .ok (.invokevirtual 150, 3) := by decide +kernel
theorem dX8_ofSpurt_111 : decode cX8_ofSpurt 111 = .ok (.ireturn, 1) := by decide +kernel
theorem dX8_ofSpurt_112 : decode cX8_ofSpurt 112 = .ok (.aload_n 0, 1) := by decide +kernel
theorem dX8_ofSpurt_113 : decode cX8_ofSpurt 113 = .ok (.getfield 28, 3) := by decide +kernel
theorem dX8_ofSpurt_116 : decode cX8_ofSpurt 116 = .ok (.iload_n 1, 1) := by decide +kernel
theorem dX8_ofSpurt_117 : decode cX8_ofSpurt 117 = .ok (.invokevirtual 153, 3) := by decide +kernel
theorem dX8_ofSpurt_120 : decode cX8_ofSpurt 120 = .ok (.ireturn, 1) := by decide +kernel
theorem dX8_ofSpurt_121 : decode cX8_ofSpurt 121 = .ok (.aload_n 0, 1) := by decide +kernel
theorem dX8_ofSpurt_122 : decode cX8_ofSpurt 122 = .ok (.getfield 28, 3) := by decide +kernel
theorem dX8_ofSpurt_125 : decode cX8_ofSpurt 125 = .ok (.iload_n 1, 1) := by decide +kernel
theorem dX8_ofSpurt_126 : decode cX8_ofSpurt 126 = .ok (.invokevirtual 150, 3) := by decide +kernel
theorem dX8_ofSpurt_129 : decode cX8_ofSpurt 129 = .ok (.aload_n 0, 1) := by decide +kernel
theorem dX8_ofSpurt_130 : decode cX8_ofSpurt 130 = .ok (.getfield 28, 3) := by decide +kernel
theorem dX8_ofSpurt_133 : decode cX8_ofSpurt 133 = .ok (.iload_n 1, 1) := by decide +kernel
theorem dX8_ofSpurt_134 : decode cX8_ofSpurt 134 = .ok (.invokevirtual 153, 3) := by decide +kernel
theorem dX8_ofSpurt_137 : decode cX8_ofSpurt 137 = .ok (.isub, 1) := by decide +kernel
theorem dX8_ofSpurt_138 : decode cX8_ofSpurt 138 = .ok (.ireturn, 1) := by decide +kernel
theorem dX8_ofSpurt_139 : decode cX8_ofSpurt 139 = .ok (.aload_n 0, 1) := by decide +kernel
theorem dX8_ofSpurt_140 : decode cX8_ofSpurt 140 = .ok (.getfield 28, 3) := by decide +kernel
theorem dX8_ofSpurt_143 : decode cX8_ofSpurt 143 = .ok (.iload_n 1, 1) := by decide +kernel
theorem dX8_ofSpurt_144 : decode cX8_ofSpurt 144 = .ok (.invokevirtual 156, 3) := by decide +kernel
theorem dX8_ofSpurt_147 : decode cX8_ofSpurt 147 = .ok (.ireturn, 1) := by decide +kernel
theorem dX8_ofSpurt_148 : decode cX8_ofSpurt 148 = .ok (.aload_n 0, 1) := by decide +kernel
theorem dX8_ofSpurt_149 : decode cX8_ofSpurt 149 = .ok (.getfield 28, 3) := by decide +kernel
theorem dX8_ofSpurt_152 : decode cX8_ofSpurt 152 = .ok (.iload_n 1, 1) := by decide +kernel
theorem dX8_ofSpurt_153 : decode cX8_ofSpurt 153 = .ok (.invokevirtual 159, 3) := by decide +kernel
theorem dX8_ofSpurt_156 : decode cX8_ofSpurt 156 = .ok (.ireturn, 1) := by decide +kernel
theorem dX8_ofSpurt_157 : decode cX8_ofSpurt 157 = .ok (.aload_n 0, 1) := by decide +kernel
theorem dX8_ofSpurt_158 : decode cX8_ofSpurt 158 = .ok (.getfield 28, 3) := by decide +kernel
theorem dX8_ofSpurt_161 : decode cX8_ofSpurt 161 = .ok (.iload_n 1, 1) := by decide +kernel
theorem dX8_ofSpurt_162 : decode cX8_ofSpurt 162 = .ok (.invokevirtual 162, 3) := by decide +kernel
theorem dX8_ofSpurt_165 : decode cX8_ofSpurt 165 = .ok (.ireturn, 1) := by decide +kernel
theorem dX8_ofSpurt_166 : decode cX8_ofSpurt 166 = .ok (.bipush (-2), 2) := by decide +kernel
theorem dX8_ofSpurt_168 : decode cX8_ofSpurt 168 = .ok (.ireturn, 1) := by decide +kernel
set_option maxRecDepth 20000 in
theorem ggX8_inOrder_X4_count : GoodIn wsX8_inOrder wsX4_count := goodIn_r _ [6, 7, 34, 35, 36, 37, 38, 39, 40, 41, 42] (by decide +kernel) (by decide +kernel)
set_option maxRecDepth 20000 in
theorem gX8_inOrder_X4_count : GoodIn wsX8_inOrder (wsV RX8 140 RX4 yX4_count wsX4_count) := goodIn_app (goodIn_of _ (by decide +kernel)) ggX8_inOrder_X4_count
set_option maxRecDepth 20000 in
theorem ggX8_inOrder_X8_isOutside : GoodIn wsX8_inOrder wsX8_isOutside := goodIn_r _ [11] (by decide +kernel) (by decide +kernel)
set_option maxRecDepth 20000 in
theorem gX8_inOrder_X8_isOutside : GoodIn wsX8_inOrder (va_wsS RX8 73 yX8_isOutside wsX8_isOutside) := goodIn_app (goodIn_of _ (by decide +kernel)) ggX8_inOrder_X8_isOutside
set_option maxRecDepth 20000 in
theorem ggX8_inOrder_X4_atRank : GoodIn wsX8_inOrder wsX4_atRank := goodIn_r _ [15, 16, 17, 18, 19, 20, 21, 22, 34, 35, 36, 37, 38, 39, 40, 41, 42, 43] (by decide +kernel) (by decide +kernel)
set_option maxRecDepth 20000 in
theorem gX8_inOrder_X4_atRank : GoodIn wsX8_inOrder (wsV RX8 165 RX4 yX4_atRank wsX4_atRank) := goodIn_app (goodIn_of _ (by decide +kernel)) ggX8_inOrder_X4_atRank
theorem dX8_inOrder_0 : decode cX8_inOrder 0 = .ok (.iload_n 1, 1) := by decide +kernel
theorem dX8_inOrder_1 : decode cX8_inOrder 1 = .ok (.iconst 0, 1) := by decide +kernel
theorem dX8_inOrder_2 : decode cX8_inOrder 2 = .ok (.aload_n 0, 1) := by decide +kernel
theorem dX8_inOrder_3 : decode cX8_inOrder 3 = .ok (.getfield 28, 3) := by decide +kernel
theorem dX8_inOrder_6 : decode cX8_inOrder 6 = .ok (.invokevirtual 140, 3) := by decide +kernel
theorem dX8_inOrder_9 : decode cX8_inOrder 9 = .ok (.iconst 1, 1) := by decide +kernel
theorem dX8_inOrder_10 : decode cX8_inOrder 10 = .ok (.isub, 1) := by decide +kernel
theorem dX8_inOrder_11 : decode cX8_inOrder 11 = .ok (.invokestatic 73, 3) := by decide +kernel
theorem dX8_inOrder_14 : decode cX8_inOrder 14 = .ok (.ifCond .eq 7, 3) := by decide +kernel
theorem dX8_inOrder_17 : decode cX8_inOrder 17 = .ok (.iconst (-1), 1) := by decide +kernel
theorem dX8_inOrder_18 : decode cX8_inOrder 18 = .ok (.goto 11, 3) := by decide +kernel
theorem dX8_inOrder_21 : decode cX8_inOrder 21 = .ok (.aload_n 0, 1) := by decide +kernel
theorem dX8_inOrder_22 : decode cX8_inOrder 22 = .ok (.getfield 28, 3) := by decide +kernel
theorem dX8_inOrder_25 : decode cX8_inOrder 25 = .ok (.iload_n 1, 1) := by decide +kernel
theorem dX8_inOrder_26 : decode cX8_inOrder 26 = .ok (.invokevirtual 165, 3) := by decide +kernel
theorem dX8_inOrder_29 : decode cX8_inOrder 29 = .ok (.ireturn, 1) := by decide +kernel
set_option maxRecDepth 20000 in
theorem ggX8_wish_X8_isOutside : GoodIn wsX8_wish wsX8_isOutside := goodIn_r _ [5] (by decide +kernel) (by decide +kernel)
set_option maxRecDepth 20000 in
theorem gX8_wish_X8_isOutside : GoodIn wsX8_wish (va_wsS RX8 73 yX8_isOutside wsX8_isOutside) := goodIn_app (goodIn_of _ (by decide +kernel)) ggX8_wish_X8_isOutside
set_option maxRecDepth 20000 in
theorem ggX8_wish_X0_count : GoodIn wsX8_wish wsX0_count := goodIn_r _ [10, 11, 162, 163, 164, 165, 166, 167] (by decide +kernel) (by decide +kernel)
set_option maxRecDepth 20000 in
theorem gX8_wish_X0_count : GoodIn wsX8_wish (wsV RX8 122 RX0 yX0_count wsX0_count) := goodIn_app (goodIn_of _ (by decide +kernel)) ggX8_wish_X0_count
set_option maxRecDepth 20000 in
theorem ggX8_wish_X8_wishFor : GoodIn wsX8_wish wsX8_wishFor := goodIn_r _ [15, 16, 1, 17, 18, 19, 20, 21, 22, 23, 24, 25, 26, 27, 28, 29, 30, 9, 31, 11, 32, 33, 34, 35, 36, 37, 38, 39, 40, 41, 42, 43, 44, 45, 46, 47, 48, 49, 50, 51, 52, 53, 54, 55, 56, 57, 58, 59, 60, 61, 62, 63, 64, 65, 66, 67, 68, 69, 70, 71, 72, 73, 74, 75, 76, 77, 78, 79, 80, 81, 82, 83, 84, 85, 86, 87, 88, 89, 90, 91, 92, 93, 94, 95, 96, 97, 98, 99, 100, 101, 102, 103, 104, 105, 106, 107, 108, 109, 110, 111, 112, 113, 114, 115, 116, 117, 118, 119, 120, 121, 122, 123, 124, 125, 126, 127, 128, 129, 130, 131, 132, 133, 134, 135, 136, 137, 138, 139, 140, 141, 142, 143, 144, 145, 146, 147, 148, 149, 150, 151, 152, 153, 154, 155, 156, 157, 158, 159, 160, 161, 168, 169, 162, 163, 164, 165, 166, 167, 170, 171, 172, 173, 174, 175, 176, 177, 178] (by decide +kernel) (by decide +kernel)
set_option maxRecDepth 20000 in
theorem gX8_wish_X8_wishFor : GoodIn wsX8_wish (wsV RX8 168 RX8 yX8_wishFor wsX8_wishFor) := goodIn_app (goodIn_of _ (by decide +kernel)) ggX8_wish_X8_wishFor
theorem dX8_wish_0 : decode cX8_wish 0 = .ok (.iload_n 1, 1) := by decide +kernel
theorem dX8_wish_1 : decode cX8_wish 1 = .ok (.iconst 0, 1) := by decide +kernel
theorem dX8_wish_2 : decode cX8_wish 2 = .ok (.sipush 299, 3) := by decide +kernel
theorem dX8_wish_5 : decode cX8_wish 5 = .ok (.invokestatic 73, 3) := by decide +kernel
theorem dX8_wish_8 : decode cX8_wish 8 = .ok (.ifCond .eq 6, 3) := by decide +kernel
theorem dX8_wish_11 : decode cX8_wish 11 = .ok (.bipush (-2), 2) := by decide +kernel
theorem dX8_wish_13 : decode cX8_wish 13 = .ok (.ireturn, 1) := by decide +kernel
theorem dX8_wish_14 : decode cX8_wish 14 = .ok (.aload_n 0, 1) := by decide +kernel
theorem dX8_wish_15 : decode cX8_wish 15 = .ok (.getfield 21, 3) := by decide +kernel
theorem dX8_wish_18 : decode cX8_wish 18 = .ok (.invokevirtual 122, 3) := by decide +kernel
theorem dX8_wish_21 : decode cX8_wish 21 = .ok (.ifCond .ne 8, 3) := by decide +kernel
theorem dX8_wish_24 : decode cX8_wish 24 = .ok (.bipush (-3), 2) := by decide +kernel
theorem dX8_wish_26 : decode cX8_wish 26 = .ok (.goto 12, 3) := by decide +kernel
theorem dX8_wish_29 : decode cX8_wish 29 = .ok (.aload_n 0, 1) := by decide +kernel
theorem dX8_wish_30 : decode cX8_wish 30 = .ok (.iload_n 1, 1) := by decide +kernel
theorem dX8_wish_31 : decode cX8_wish 31 = .ok (.invokevirtual 168, 3) := by decide +kernel
theorem dX8_wish_34 : decode cX8_wish 34 = .ok (.sipush 10000, 3) := by decide +kernel
theorem dX8_wish_37 : decode cX8_wish 37 = .ok (.iadd, 1) := by decide +kernel
theorem dX8_wish_38 : decode cX8_wish 38 = .ok (.ireturn, 1) := by decide +kernel
set_option maxRecDepth 20000 in
theorem ggX8_spike_X5_isOn : GoodIn wsX8_spike wsX5_isOn := goodIn_r _ [6, 7, 24, 25, 26] (by decide +kernel) (by decide +kernel)
set_option maxRecDepth 20000 in
theorem gX8_spike_X5_isOn : GoodIn wsX8_spike (wsV RX8 171 RX5 yX5_isOn wsX5_isOn) := goodIn_app (goodIn_of _ (by decide +kernel)) ggX8_spike_X5_isOn
set_option maxRecDepth 20000 in
theorem ggX8_spike_X5_base : GoodIn wsX8_spike wsX5_base := goodIn_r _ [11, 12, 24, 25, 26] (by decide +kernel) (by decide +kernel)
set_option maxRecDepth 20000 in
theorem gX8_spike_X5_base : GoodIn wsX8_spike (wsV RX8 175 RX5 yX5_base wsX5_base) := goodIn_app (goodIn_of _ (by decide +kernel)) ggX8_spike_X5_base
theorem dX8_spike_0 : decode cX8_spike 0 = .ok (.iload_n 1, 1) := by decide +kernel
theorem dX8_spike_1 : decode cX8_spike 1 = .ok (.lookupswitch 70 #[(0, 27), (1, 43)], 27) := by decide +kernel
theorem dX8_spike_28 : decode cX8_spike 28 = .ok (.aload_n 0, 1) := by decide +kernel
theorem dX8_spike_29 : decode cX8_spike 29 = .ok (.getfield 35, 3) := by decide +kernel
theorem dX8_spike_32 : decode cX8_spike 32 = .ok (.invokevirtual 171, 3) := by decide +kernel
theorem dX8_spike_35 : decode cX8_spike 35 = .ok (.ifCond .eq 7, 3) := by decide +kernel
theorem dX8_spike_38 : decode cX8_spike 38 = .ok (.iconst 1, 1) := by decide +kernel
theorem dX8_spike_39 : decode cX8_spike 39 = .ok (.goto 4, 3) := by decide +kernel
theorem dX8_spike_42 : decode cX8_spike 42 = .ok (.iconst 0, 1) := by decide +kernel
theorem dX8_spike_43 : decode cX8_spike 43 = .ok (.ireturn, 1) := by decide +kernel
theorem dX8_spike_44 : decode cX8_spike 44 = .ok (.aload_n 0, 1) := by decide +kernel
theorem dX8_spike_45 : decode cX8_spike 45 = .ok (.getfield 35, 3) := by decide +kernel
theorem dX8_spike_48 : decode cX8_spike 48 = .ok (.invokevirtual 171, 3) := by decide +kernel
theorem dX8_spike_51 : decode cX8_spike 51 = .ok (.ifCond .eq 17, 3) := by decide +kernel
theorem dX8_spike_54 : decode cX8_spike 54 = .ok (.aload_n 0, 1) := by decide +kernel
theorem dX8_spike_55 : decode cX8_spike 55 = .ok (.getfield 35, 3) := by decide +kernel
theorem dX8_spike_58 : decode cX8_spike 58 = .ok (.invokevirtual 175, 3) := by decide +kernel
theorem dX8_spike_61 : decode cX8_spike 61 = .ok (.sipush 10000, 3) := by decide +kernel
theorem dX8_spike_64 : decode cX8_spike 64 = .ok (.iadd, 1) := by decide +kernel
theorem dX8_spike_65 : decode cX8_spike 65 = .ok (.goto 5, 3) := by decide +kernel
theorem dX8_spike_68 : decode cX8_spike 68 = .ok (.bipush (-9), 2) := by decide +kernel
theorem dX8_spike_70 : decode cX8_spike 70 = .ok (.ireturn, 1) := by decide +kernel
theorem dX8_spike_71 : decode cX8_spike 71 = .ok (.bipush (-2), 2) := by decide +kernel
theorem dX8_spike_73 : decode cX8_spike 73 = .ok (.ireturn, 1) := by decide +kernel
set_option maxRecDepth 20000 in
theorem ggX8_late_X8_isOutside : GoodIn wsX8_late wsX8_isOutside := goodIn_r _ [6] (by decide +kernel) (by decide +kernel)
set_option maxRecDepth 20000 in
theorem gX8_late_X8_isOutside : GoodIn wsX8_late (va_wsS RX8 73 yX8_isOutside wsX8_isOutside) := goodIn_app (goodIn_of _ (by decide +kernel)) ggX8_late_X8_isOutside
set_option maxRecDepth 20000 in
theorem ggX8_late_X0_historySize : GoodIn wsX8_late wsX0_historySize := goodIn_r _ [11, 12, 13, 14, 15, 16, 44, 45, 46, 47, 48, 49] (by decide +kernel) (by decide +kernel)
set_option maxRecDepth 20000 in
theorem gX8_late_X0_historySize : GoodIn wsX8_late (wsV RX8 179 RX0 yX0_historySize wsX0_historySize) := goodIn_app (goodIn_of _ (by decide +kernel)) ggX8_late_X0_historySize
set_option maxRecDepth 20000 in
theorem ggX8_late_X0_delaysAbove : GoodIn wsX8_late wsX0_delaysAbove := goodIn_r _ [20, 12, 21, 22, 23, 10, 24, 25, 26, 27, 28, 29, 30, 31, 32, 44, 45, 46, 47, 48, 49, 50] (by decide +kernel) (by decide +kernel)
set_option maxRecDepth 20000 in
theorem gX8_late_X0_delaysAbove : GoodIn wsX8_late (wsV RX8 182 RX0 yX0_delaysAbove wsX0_delaysAbove) := goodIn_app (goodIn_of _ (by decide +kernel)) ggX8_late_X0_delaysAbove
theorem dX8_late_0 : decode cX8_late 0 = .ok (.iload_n 1, 1) := by decide +kernel
theorem dX8_late_1 : decode cX8_late 1 = .ok (.sipush (-10000), 3) := by decide +kernel
theorem dX8_late_4 : decode cX8_late 4 = .ok (.ldc 178, 2) := by decide +kernel
theorem dX8_late_6 : decode cX8_late 6 = .ok (.invokestatic 73, 3) := by decide +kernel
theorem dX8_late_9 : decode cX8_late 9 = .ok (.ifCond .eq 6, 3) := by decide +kernel
theorem dX8_late_12 : decode cX8_late 12 = .ok (.bipush (-2), 2) := by decide +kernel
theorem dX8_late_14 : decode cX8_late 14 = .ok (.ireturn, 1) := by decide +kernel
theorem dX8_late_15 : decode cX8_late 15 = .ok (.aload_n 0, 1) := by decide +kernel
theorem dX8_late_16 : decode cX8_late 16 = .ok (.getfield 21, 3) := by decide +kernel
theorem dX8_late_19 : decode cX8_late 19 = .ok (.iload_n 1, 1) := by decide +kernel
theorem dX8_late_20 : decode cX8_late 20 = .ok (.aload_n 0, 1) := by decide +kernel
theorem dX8_late_21 : decode cX8_late 21 = .ok (.getfield 21, 3) := by decide +kernel
theorem dX8_late_24 : decode cX8_late 24 = .ok (.invokevirtual 179, 3) := by decide +kernel
theorem dX8_late_27 : decode cX8_late 27 = .ok (.invokevirtual 182, 3) := by decide +kernel
theorem dX8_late_30 : decode cX8_late 30 = .ok (.ireturn, 1) := by decide +kernel
set_option maxRecDepth 20000 in
theorem ggX8_history_X8_isOutside : GoodIn wsX8_history wsX8_isOutside := goodIn_r _ [5] (by decide +kernel) (by decide +kernel)
set_option maxRecDepth 20000 in
theorem gX8_history_X8_isOutside : GoodIn wsX8_history (va_wsS RX8 73 yX8_isOutside wsX8_isOutside) := goodIn_app (goodIn_of _ (by decide +kernel)) ggX8_history_X8_isOutside
set_option maxRecDepth 20000 in
theorem ggX8_history_X0_historySize : GoodIn wsX8_history wsX0_historySize := goodIn_r _ [10, 11, 12, 13, 14, 15, 43, 44, 45, 46, 47, 48] (by decide +kernel) (by decide +kernel)
set_option maxRecDepth 20000 in
theorem gX8_history_X0_historySize : GoodIn wsX8_history (wsV RX8 179 RX0 yX0_historySize wsX0_historySize) := goodIn_app (goodIn_of _ (by decide +kernel)) ggX8_history_X0_historySize
set_option maxRecDepth 20000 in
theorem ggX8_history_X0_lastPlace : GoodIn wsX8_history wsX0_lastPlace := goodIn_r _ [19, 11, 43, 44, 45, 46, 47, 48] (by decide +kernel) (by decide +kernel)
set_option maxRecDepth 20000 in
theorem gX8_history_X0_lastPlace : GoodIn wsX8_history (wsV RX8 185 RX0 yX0_lastPlace wsX0_lastPlace) := goodIn_app (goodIn_of _ (by decide +kernel)) ggX8_history_X0_lastPlace
set_option maxRecDepth 20000 in
theorem ggX8_history_X0_delayAt : GoodIn wsX8_history wsX0_delayAt := goodIn_r _ [23, 24, 25, 26, 27, 28, 29, 30, 31, 43, 44, 45, 46, 47, 48, 49] (by decide +kernel) (by decide +kernel)
set_option maxRecDepth 20000 in
theorem gX8_history_X0_delayAt : GoodIn wsX8_history (wsV RX8 105 RX0 yX0_delayAt wsX0_delayAt) := goodIn_app (goodIn_of _ (by decide +kernel)) ggX8_history_X0_delayAt
theorem dX8_history_0 : decode cX8_history 0 = .ok (.iload_n 1, 1) := by decide +kernel
theorem dX8_history_1 : decode cX8_history 1 = .ok (.iconst 0, 1) := by decide +kernel
theorem dX8_history_2 : decode cX8_history 2 = .ok (.bipush 31, 2) := by decide +kernel
theorem dX8_history_4 : decode cX8_history 4 = .ok (.invokestatic 73, 3) := by decide +kernel
theorem dX8_history_7 : decode cX8_history 7 = .ok (.ifCond .eq 6, 3) := by decide +kernel
theorem dX8_history_10 : decode cX8_history 10 = .ok (.bipush (-2), 2) := by decide +kernel
theorem dX8_history_12 : decode cX8_history 12 = .ok (.ireturn, 1) := by decide +kernel
theorem dX8_history_13 : decode cX8_history 13 = .ok (.iload_n 1, 1) := by decide +kernel
theorem dX8_history_14 : decode cX8_history 14 = .ok (.aload_n 0, 1) := by decide +kernel
theorem dX8_history_15 : decode cX8_history 15 = .ok (.getfield 21, 3) := by decide +kernel
theorem dX8_history_18 : decode cX8_history 18 = .ok (.invokevirtual 179, 3) := by decide +kernel
theorem dX8_history_21 : decode cX8_history 21 = .ok (.if_icmp .ge 26, 3) := by decide +kernel
theorem dX8_history_24 : decode cX8_history 24 = .ok (.aload_n 0, 1) := by decide +kernel
theorem dX8_history_25 : decode cX8_history 25 = .ok (.getfield 21, 3) := by decide +kernel
theorem dX8_history_28 : decode cX8_history 28 = .ok (.aload_n 0, 1) := by decide +kernel
theorem dX8_history_29 : decode cX8_history 29 = .ok (.getfield 21, 3) := by decide +kernel
theorem dX8_history_32 : decode cX8_history 32 = .ok (.invokevirtual 185, 3) := by decide +kernel
theorem dX8_history_35 : decode cX8_history 35 = .ok (.iload_n 1, 1) := by decide +kernel
theorem dX8_history_36 : decode cX8_history 36 = .ok (.isub, 1) := by decide +kernel
theorem dX8_history_37 : decode cX8_history 37 = .ok (.invokevirtual 105, 3) := by decide +kernel
theorem dX8_history_40 : decode cX8_history 40 = .ok (.sipush 10000, 3) := by decide +kernel
theorem dX8_history_43 : decode cX8_history 43 = .ok (.iadd, 1) := by decide +kernel
theorem dX8_history_44 : decode cX8_history 44 = .ok (.goto 5, 3) := by decide +kernel
theorem dX8_history_47 : decode cX8_history 47 = .ok (.bipush (-9), 2) := by decide +kernel
theorem dX8_history_49 : decode cX8_history 49 = .ok (.ireturn, 1) := by decide +kernel
set_option maxRecDepth 20000 in
theorem ggX8_loss_X8_isOutside : GoodIn wsX8_loss wsX8_isOutside := goodIn_r _ [6] (by decide +kernel) (by decide +kernel)
set_option maxRecDepth 20000 in
theorem gX8_loss_X8_isOutside : GoodIn wsX8_loss (va_wsS RX8 73 yX8_isOutside wsX8_isOutside) := goodIn_app (goodIn_of _ (by decide +kernel)) ggX8_loss_X8_isOutside
set_option maxRecDepth 20000 in
theorem ggX8_loss_X0_count : GoodIn wsX8_loss wsX0_count := goodIn_r _ [11, 12, 40, 41, 42, 43, 44, 45] (by decide +kernel) (by decide +kernel)
set_option maxRecDepth 20000 in
theorem gX8_loss_X0_count : GoodIn wsX8_loss (wsV RX8 122 RX0 yX0_count wsX0_count) := goodIn_app (goodIn_of _ (by decide +kernel)) ggX8_loss_X0_count
set_option maxRecDepth 20000 in
theorem ggX8_loss_X0_delaysAbove : GoodIn wsX8_loss wsX0_delaysAbove := goodIn_r _ [16, 12, 17, 18, 19, 10, 20, 21, 22, 23, 24, 25, 26, 27, 28, 40, 41, 42, 43, 44, 45, 46] (by decide +kernel) (by decide +kernel)
set_option maxRecDepth 20000 in
theorem gX8_loss_X0_delaysAbove : GoodIn wsX8_loss (wsV RX8 182 RX0 yX0_delaysAbove wsX0_delaysAbove) := goodIn_app (goodIn_of _ (by decide +kernel)) ggX8_loss_X0_delaysAbove
theorem dX8_loss_0 : decode cX8_loss 0 = .ok (.iload_n 1, 1) := by decide +kernel
theorem dX8_loss_1 : decode cX8_loss 1 = .ok (.sipush (-10000), 3) := by decide +kernel
theorem dX8_loss_4 : decode cX8_loss 4 = .ok (.ldc 178, 2) := by decide +kernel
theorem dX8_loss_6 : decode cX8_loss 6 = .ok (.invokestatic 73, 3) := by decide +kernel
theorem dX8_loss_9 : decode cX8_loss 9 = .ok (.ifCond .eq 6, 3) := by decide +kernel
theorem dX8_loss_12 : decode cX8_loss 12 = .ok (.bipush (-2), 2) := by decide +kernel
theorem dX8_loss_14 : decode cX8_loss 14 = .ok (.ireturn, 1) := by decide +kernel
theorem dX8_loss_15 : decode cX8_loss 15 = .ok (.aload_n 0, 1) := by decide +kernel
theorem dX8_loss_16 : decode cX8_loss 16 = .ok (.getfield 21, 3) := by decide +kernel
theorem dX8_loss_19 : decode cX8_loss 19 = .ok (.iload_n 1, 1) := by decide +kernel
theorem dX8_loss_20 : decode cX8_loss 20 = .ok (.aload_n 0, 1) := by decide +kernel
theorem dX8_loss_21 : decode cX8_loss 21 = .ok (.getfield 21, 3) := by decide +kernel
theorem dX8_loss_24 : decode cX8_loss 24 = .ok (.invokevirtual 122, 3) := by decide +kernel
theorem dX8_loss_27 : decode cX8_loss 27 = .ok (.invokevirtual 182, 3) := by decide +kernel
theorem dX8_loss_30 : decode cX8_loss 30 = .ok (.ireturn, 1) := by decide +kernel
set_option maxRecDepth 20000 in
theorem ggX8_drift_X1_fitUnder : GoodIn wsX8_drift wsX1_fitUnder := goodIn_r _ [8, 9, 10, 11, 12, 13, 14, 15, 16, 17, 18, 19, 20, 21, 22, 23, 24, 25, 26, 27, 28, 29, 30, 31, 32, 7, 33, 34, 35, 36, 37, 38, 39, 40, 41, 42, 43, 44, 45, 46, 47, 48, 49, 50, 51, 52, 53, 54, 55, 56, 57, 58, 59, 79, 80, 81, 82, 83, 84, 85, 86, 87, 88, 89, 90] (by decide +kernel) (by decide +kernel)
set_option maxRecDepth 20000 in
theorem gX8_drift_X1_fitUnder : GoodIn wsX8_drift (wsV RX8 188 RX1 yX1_fitUnder wsX1_fitUnder) := goodIn_app (goodIn_of _ (by decide +kernel)) ggX8_drift_X1_fitUnder
set_option maxRecDepth 20000 in
theorem ggX8_drift_X1_upper : GoodIn wsX8_drift wsX1_upper := goodIn_r _ [63, 10, 79, 80, 81, 82, 83] (by decide +kernel) (by decide +kernel)
set_option maxRecDepth 20000 in
theorem gX8_drift_X1_upper : GoodIn wsX8_drift (wsV RX8 192 RX1 yX1_upper wsX1_upper) := goodIn_app (goodIn_of _ (by decide +kernel)) ggX8_drift_X1_upper
set_option maxRecDepth 20000 in
theorem ggX8_drift_X1_lower : GoodIn wsX8_drift wsX1_lower := goodIn_r _ [67, 11, 79, 80, 81, 82, 83] (by decide +kernel) (by decide +kernel)
set_option maxRecDepth 20000 in
theorem gX8_drift_X1_lower : GoodIn wsX8_drift (wsV RX8 195 RX1 yX1_lower wsX1_lower) := goodIn_app (goodIn_of _ (by decide +kernel)) ggX8_drift_X1_lower
theorem dX8_drift_0 : decode cX8_drift 0 = .ok (.aload_n 0, 1) := by decide +kernel
theorem dX8_drift_1 : decode cX8_drift 1 = .ok (.getfield 42, 3) := by decide +kernel
theorem dX8_drift_4 : decode cX8_drift 4 = .ok (.aload_n 0, 1) := by decide +kernel
theorem dX8_drift_5 : decode cX8_drift 5 = .ok (.getfield 21, 3) := by decide +kernel
theorem dX8_drift_8 : decode cX8_drift 8 = .ok (.invokevirtual 188, 3) := by decide +kernel
theorem dX8_drift_11 : decode cX8_drift 11 = .ok (.iload_n 1, 1) := by decide +kernel
theorem dX8_drift_12 : decode cX8_drift 12 = .ok (.lookupswitch 46 #[(0, 28), (1, 37)], 28) := by decide +kernel
theorem dX8_drift_40 : decode cX8_drift 40 = .ok (.aload_n 0, 1) := by decide +kernel
theorem dX8_drift_41 : decode cX8_drift 41 = .ok (.getfield 42, 3) := by decide +kernel
theorem dX8_drift_44 : decode cX8_drift 44 = .ok (.invokevirtual 192, 3) := by decide +kernel
theorem dX8_drift_47 : decode cX8_drift 47 = .ok (.i2l, 1) := by decide +kernel
theorem dX8_drift_48 : decode cX8_drift 48 = .ok (.lreturn, 1) := by decide +kernel
theorem dX8_drift_49 : decode cX8_drift 49 = .ok (.aload_n 0, 1) := by decide +kernel
theorem dX8_drift_50 : decode cX8_drift 50 = .ok (.getfield 42, 3) := by decide +kernel
theorem dX8_drift_53 : decode cX8_drift 53 = .ok (.invokevirtual 195, 3) := by decide +kernel
theorem dX8_drift_56 : decode cX8_drift 56 = .ok (.i2l, 1) := by decide +kernel
theorem dX8_drift_57 : decode cX8_drift 57 = .ok (.lreturn, 1) := by decide +kernel
theorem dX8_drift_58 : decode cX8_drift 58 = .ok (.ldc2_w 198, 3) := by decide +kernel
theorem dX8_drift_61 : decode cX8_drift 61 = .ok (.lreturn, 1) := by decide +kernel
set_option maxRecDepth 20000 in
theorem ggX8_waiting_X8_isOutside : GoodIn wsX8_waiting wsX8_isOutside := goodIn_r _ [6] (by decide +kernel) (by decide +kernel)
set_option maxRecDepth 20000 in
theorem gX8_waiting_X8_isOutside : GoodIn wsX8_waiting (va_wsS RX8 73 yX8_isOutside wsX8_isOutside) := goodIn_app (goodIn_of _ (by decide +kernel)) ggX8_waiting_X8_isOutside
set_option maxRecDepth 20000 in
theorem ggX8_waiting_X0_count : GoodIn wsX8_waiting wsX0_count := goodIn_r _ [11, 12, 40, 41, 42, 43, 44, 45] (by decide +kernel) (by decide +kernel)
set_option maxRecDepth 20000 in
theorem gX8_waiting_X0_count : GoodIn wsX8_waiting (wsV RX8 122 RX0 yX0_count wsX0_count) := goodIn_app (goodIn_of _ (by decide +kernel)) ggX8_waiting_X0_count
set_option maxRecDepth 20000 in
theorem ggX8_waiting_X0_whenAt : GoodIn wsX8_waiting wsX0_whenAt := goodIn_r _ [16, 17, 18, 19, 20, 21, 22, 23, 40, 41, 42, 43, 44, 45, 46] (by decide +kernel) (by decide +kernel)
set_option maxRecDepth 20000 in
theorem gX8_waiting_X0_whenAt : GoodIn wsX8_waiting (wsV RX8 131 RX0 yX0_whenAt wsX0_whenAt) := goodIn_app (goodIn_of _ (by decide +kernel)) ggX8_waiting_X0_whenAt
set_option maxRecDepth 20000 in
theorem ggX8_waiting_X0_playedAt : GoodIn wsX8_waiting wsX0_playedAt := goodIn_r _ [27, 28, 18, 19, 20, 21, 22, 23, 40, 41, 42, 43, 44, 45, 46] (by decide +kernel) (by decide +kernel)
set_option maxRecDepth 20000 in
theorem gX8_waiting_X0_playedAt : GoodIn wsX8_waiting (wsV RX8 137 RX0 yX0_playedAt wsX0_playedAt) := goodIn_app (goodIn_of _ (by decide +kernel)) ggX8_waiting_X0_playedAt
theorem dX8_waiting_0 : decode cX8_waiting 0 = .ok (.iload_n 1, 1) := by decide +kernel
theorem dX8_waiting_1 : decode cX8_waiting 1 = .ok (.iconst 0, 1) := by decide +kernel
theorem dX8_waiting_2 : decode cX8_waiting 2 = .ok (.ldc 200, 2) := by decide +kernel
theorem dX8_waiting_4 : decode cX8_waiting 4 = .ok (.invokestatic 73, 3) := by decide +kernel
theorem dX8_waiting_7 : decode cX8_waiting 7 = .ok (.ifCond .eq 6, 3) := by decide +kernel
theorem dX8_waiting_10 : decode cX8_waiting 10 = .ok (.bipush (-2), 2) := by decide +kernel
theorem dX8_waiting_12 : decode cX8_waiting 12 = .ok (.ireturn, 1) := by decide +kernel
theorem dX8_waiting_13 : decode cX8_waiting 13 = .ok (.iconst 0, 1) := by decide +kernel
theorem dX8_waiting_14 : decode cX8_waiting 14 = .ok (.istore_n 2, 1) := by decide +kernel
theorem dX8_waiting_15 : decode cX8_waiting 15 = .ok (.iconst 0, 1) := by decide +kernel
theorem dX8_waiting_16 : decode cX8_waiting 16 = .ok (.istore_n 3, 1) := by decide +kernel
theorem dX8_waiting_17 : decode cX8_waiting 17 = .ok (.iload_n 3, 1) := by decide +kernel
theorem dX8_waiting_18 : decode cX8_waiting 18 = .ok (.aload_n 0, 1) := by decide +kernel
theorem dX8_waiting_19 : decode cX8_waiting 19 = .ok (.getfield 21, 3) := by decide +kernel
theorem dX8_waiting_22 : decode cX8_waiting 22 = .ok (.invokevirtual 122, 3) := by decide +kernel
theorem dX8_waiting_25 : decode cX8_waiting 25 = .ok (.if_icmp .ge 36, 3) := by decide +kernel
theorem dX8_waiting_28 : decode cX8_waiting 28 = .ok (.aload_n 0, 1) := by decide +kernel
theorem dX8_waiting_29 : decode cX8_waiting 29 = .ok (.getfield 21, 3) := by decide +kernel
theorem dX8_waiting_32 : decode cX8_waiting 32 = .ok (.iload_n 3, 1) := by decide +kernel
theorem dX8_waiting_33 : decode cX8_waiting 33 = .ok (.invokevirtual 131, 3) := by decide +kernel
theorem dX8_waiting_36 : decode cX8_waiting 36 = .ok (.iload_n 1, 1) := by decide +kernel
theorem dX8_waiting_37 : decode cX8_waiting 37 = .ok (.if_icmp .gt 18, 3) := by decide +kernel
theorem dX8_waiting_40 : decode cX8_waiting 40 = .ok (.aload_n 0, 1) := by decide +kernel
theorem dX8_waiting_41 : decode cX8_waiting 41 = .ok (.getfield 21, 3) := by decide +kernel
theorem dX8_waiting_44 : decode cX8_waiting 44 = .ok (.iload_n 3, 1) := by decide +kernel
theorem dX8_waiting_45 : decode cX8_waiting 45 = .ok (.invokevirtual 137, 3) := by decide +kernel
theorem dX8_waiting_48 : decode cX8_waiting 48 = .ok (.iload_n 1, 1) := by decide +kernel
theorem dX8_waiting_49 : decode cX8_waiting 49 = .ok (.if_icmp .le 6, 3) := by decide +kernel
theorem dX8_waiting_52 : decode cX8_waiting 52 = .ok (.iinc 2 1, 3) := by decide +kernel
theorem dX8_waiting_55 : decode cX8_waiting 55 = .ok (.iinc 3 1, 3) := by decide +kernel
theorem dX8_waiting_58 : decode cX8_waiting 58 = .ok (.goto (-41), 3) := by decide +kernel
theorem dX8_waiting_61 : decode cX8_waiting 61 = .ok (.iload_n 2, 1) := by decide +kernel
theorem dX8_waiting_62 : decode cX8_waiting 62 = .ok (.ireturn, 1) := by decide +kernel
set_option maxRecDepth 20000 in
theorem ggX8_playing_X8_isOutside : GoodIn wsX8_playing wsX8_isOutside := goodIn_r _ [6] (by decide +kernel) (by decide +kernel)
set_option maxRecDepth 20000 in
theorem gX8_playing_X8_isOutside : GoodIn wsX8_playing (va_wsS RX8 73 yX8_isOutside wsX8_isOutside) := goodIn_app (goodIn_of _ (by decide +kernel)) ggX8_playing_X8_isOutside
set_option maxRecDepth 20000 in
theorem ggX8_playing_X0_count : GoodIn wsX8_playing wsX0_count := goodIn_r _ [11, 12, 40, 41, 42, 43, 44, 45] (by decide +kernel) (by decide +kernel)
set_option maxRecDepth 20000 in
theorem gX8_playing_X0_count : GoodIn wsX8_playing (wsV RX8 122 RX0 yX0_count wsX0_count) := goodIn_app (goodIn_of _ (by decide +kernel)) ggX8_playing_X0_count
set_option maxRecDepth 20000 in
theorem ggX8_playing_X0_playedAt : GoodIn wsX8_playing wsX0_playedAt := goodIn_r _ [16, 17, 18, 19, 20, 21, 22, 23, 40, 41, 42, 43, 44, 45, 46] (by decide +kernel) (by decide +kernel)
set_option maxRecDepth 20000 in
theorem gX8_playing_X0_playedAt : GoodIn wsX8_playing (wsV RX8 137 RX0 yX0_playedAt wsX0_playedAt) := goodIn_app (goodIn_of _ (by decide +kernel)) ggX8_playing_X0_playedAt
set_option maxRecDepth 20000 in
theorem ggX8_playing_X0_frameAt : GoodIn wsX8_playing wsX0_frameAt := goodIn_r _ [27, 28, 18, 19, 20, 21, 22, 23, 40, 41, 42, 43, 44, 45, 46] (by decide +kernel) (by decide +kernel)
set_option maxRecDepth 20000 in
theorem gX8_playing_X0_frameAt : GoodIn wsX8_playing (wsV RX8 201 RX0 yX0_frameAt wsX0_frameAt) := goodIn_app (goodIn_of _ (by decide +kernel)) ggX8_playing_X0_frameAt
theorem dX8_playing_0 : decode cX8_playing 0 = .ok (.iload_n 1, 1) := by decide +kernel
theorem dX8_playing_1 : decode cX8_playing 1 = .ok (.iconst 0, 1) := by decide +kernel
theorem dX8_playing_2 : decode cX8_playing 2 = .ok (.ldc 200, 2) := by decide +kernel
theorem dX8_playing_4 : decode cX8_playing 4 = .ok (.invokestatic 73, 3) := by decide +kernel
theorem dX8_playing_7 : decode cX8_playing 7 = .ok (.ifCond .eq 6, 3) := by decide +kernel
theorem dX8_playing_10 : decode cX8_playing 10 = .ok (.bipush (-2), 2) := by decide +kernel
theorem dX8_playing_12 : decode cX8_playing 12 = .ok (.ireturn, 1) := by decide +kernel
theorem dX8_playing_13 : decode cX8_playing 13 = .ok (.iconst 0, 1) := by decide +kernel
theorem dX8_playing_14 : decode cX8_playing 14 = .ok (.istore_n 2, 1) := by decide +kernel
theorem dX8_playing_15 : decode cX8_playing 15 = .ok (.iload_n 2, 1) := by decide +kernel
theorem dX8_playing_16 : decode cX8_playing 16 = .ok (.aload_n 0, 1) := by decide +kernel
theorem dX8_playing_17 : decode cX8_playing 17 = .ok (.getfield 21, 3) := by decide +kernel
theorem dX8_playing_20 : decode cX8_playing 20 = .ok (.invokevirtual 122, 3) := by decide +kernel
theorem dX8_playing_23 : decode cX8_playing 23 = .ok (.if_icmp .ge 46, 3) := by decide +kernel
theorem dX8_playing_26 : decode cX8_playing 26 = .ok (.aload_n 0, 1) := by decide +kernel
theorem dX8_playing_27 : decode cX8_playing 27 = .ok (.getfield 21, 3) := by decide +kernel
theorem dX8_playing_30 : decode cX8_playing 30 = .ok (.iload_n 2, 1) := by decide +kernel
theorem dX8_playing_31 : decode cX8_playing 31 = .ok (.invokevirtual 137, 3) := by decide +kernel
theorem dX8_playing_34 : decode cX8_playing 34 = .ok (.istore_n 3, 1) := by decide +kernel
theorem dX8_playing_35 : decode cX8_playing 35 = .ok (.iload_n 3, 1) := by decide +kernel
theorem dX8_playing_36 : decode cX8_playing 36 = .ok (.bipush (-9), 2) := by decide +kernel
theorem dX8_playing_38 : decode cX8_playing 38 = .ok (.if_icmp .eq 25, 3) := by decide +kernel
theorem dX8_playing_41 : decode cX8_playing 41 = .ok (.iload_n 3, 1) := by decide +kernel
theorem dX8_playing_42 : decode cX8_playing 42 = .ok (.iload_n 1, 1) := by decide +kernel
theorem dX8_playing_43 : decode cX8_playing 43 = .ok (.if_icmp .gt 20, 3) := by decide +kernel
theorem dX8_playing_46 : decode cX8_playing 46 = .ok (.iload_n 1, 1) := by decide +kernel
theorem dX8_playing_47 : decode cX8_playing 47 = .ok (.iload_n 3, 1) := by decide +kernel
theorem dX8_playing_48 : decode cX8_playing 48 = .ok (.isub, 1) := by decide +kernel
theorem dX8_playing_49 : decode cX8_playing 49 = .ok (.bipush 20, 2) := by decide +kernel
theorem dX8_playing_51 : decode cX8_playing 51 = .ok (.if_icmp .ge 12, 3) := by decide +kernel
theorem dX8_playing_54 : decode cX8_playing 54 = .ok (.aload_n 0, 1) := by decide +kernel
theorem dX8_playing_55 : decode cX8_playing 55 = .ok (.getfield 21, 3) := by decide +kernel
theorem dX8_playing_58 : decode cX8_playing 58 = .ok (.iload_n 2, 1) := by decide +kernel
theorem dX8_playing_59 : decode cX8_playing 59 = .ok (.invokevirtual 201, 3) := by decide +kernel
theorem dX8_playing_62 : decode cX8_playing 62 = .ok (.ireturn, 1) := by decide +kernel
theorem dX8_playing_63 : decode cX8_playing 63 = .ok (.iinc 2 1, 3) := by decide +kernel
theorem dX8_playing_66 : decode cX8_playing 66 = .ok (.goto (-51), 3) := by decide +kernel
theorem dX8_playing_69 : decode cX8_playing 69 = .ok (.bipush (-9), 2) := by decide +kernel
theorem dX8_playing_71 : decode cX8_playing 71 = .ok (.ireturn, 1) := by decide +kernel
set_option maxRecDepth 20000 in
theorem ggX8_text_X4_count : GoodIn wsX8_text wsX4_count := goodIn_r _ [7, 8, 157, 158, 159, 160, 161, 162, 163, 164, 165] (by decide +kernel) (by decide +kernel)
set_option maxRecDepth 20000 in
theorem gX8_text_X4_count : GoodIn wsX8_text (wsV RX8 140 RX4 yX4_count wsX4_count) := goodIn_app (goodIn_of _ (by decide +kernel)) ggX8_text_X4_count
set_option maxRecDepth 20000 in
theorem ggX8_text_X8_isOutside : GoodIn wsX8_text wsX8_isOutside := goodIn_r _ [12] (by decide +kernel) (by decide +kernel)
set_option maxRecDepth 20000 in
theorem gX8_text_X8_isOutside : GoodIn wsX8_text (va_wsS RX8 73 yX8_isOutside wsX8_isOutside) := goodIn_app (goodIn_of _ (by decide +kernel)) ggX8_text_X8_isOutside
set_option maxRecDepth 20000 in
theorem ggX8_text_X8_writeOpening : GoodIn wsX8_text wsX8_writeOpening := goodIn_r _ [16, 2, 1, 17, 18, 19, 20, 21, 22, 23, 24, 25, 26, 27, 28, 29, 30, 31, 32, 33, 34, 35, 36, 6, 37, 38, 39, 40, 41, 42, 43, 44, 45, 46, 47, 48, 49, 50, 51, 52, 53, 54, 55, 11, 56, 57, 58, 59, 60, 61, 62, 63, 64, 65, 66, 67, 68, 69, 70, 71, 72, 73, 74, 75, 76, 77, 78, 79, 80, 81, 82, 83, 84, 85, 86, 87, 88, 89, 90, 91, 92, 93, 94, 95, 96, 97, 98, 99, 100, 101, 102, 103, 104, 105, 106, 107, 108, 109, 110, 111, 112, 113, 114, 146, 147, 148, 149, 150, 151, 152, 153, 154, 155, 156, 166, 167, 168, 157, 158, 159, 160, 161, 162, 163, 164, 165] (by decide +kernel) (by decide +kernel)
set_option maxRecDepth 20000 in
theorem gX8_text_X8_writeOpening : GoodIn wsX8_text (wsV RX8 204 RX8 yX8_writeOpening wsX8_writeOpening) := goodIn_app (goodIn_of _ (by decide +kernel)) ggX8_text_X8_writeOpening
set_option maxRecDepth 20000 in
theorem ggX8_text_X4_greatestOf : GoodIn wsX8_text wsX4_greatestOf := goodIn_r _ [118, 119, 39, 40, 41, 31, 42, 33, 157, 158, 159, 160, 161, 162, 163, 164, 165, 168] (by decide +kernel) (by decide +kernel)
set_option maxRecDepth 20000 in
theorem gX8_text_X4_greatestOf : GoodIn wsX8_text (wsV RX8 159 RX4 yX4_greatestOf wsX4_greatestOf) := goodIn_app (goodIn_of _ (by decide +kernel)) ggX8_text_X4_greatestOf
set_option maxRecDepth 20000 in
theorem ggX8_text_X4_headOf : GoodIn wsX8_text wsX4_headOf := goodIn_r _ [37, 38, 39, 40, 41, 31, 42, 33, 157, 158, 159, 160, 161, 162, 163, 164, 165, 168] (by decide +kernel) (by decide +kernel)
set_option maxRecDepth 20000 in
theorem gX8_text_X4_headOf : GoodIn wsX8_text (wsV RX8 141 RX4 yX4_headOf wsX4_headOf) := goodIn_app (goodIn_of _ (by decide +kernel)) ggX8_text_X4_headOf
set_option maxRecDepth 20000 in
theorem ggX8_text_X3_size : GoodIn wsX8_text wsX3_size := goodIn_r _ [123, 22, 166, 167] (by decide +kernel) (by decide +kernel)
set_option maxRecDepth 20000 in
theorem gX8_text_X3_size : GoodIn wsX8_text (wsV RX8 207 RX3 yX3_size wsX3_size) := goodIn_app (goodIn_of _ (by decide +kernel)) ggX8_text_X3_size
set_option maxRecDepth 20000 in
theorem ggX8_text_X3_codeAt : GoodIn wsX8_text wsX3_codeAt := goodIn_r _ [127, 27, 128, 40, 41, 31, 42, 33, 166, 167, 168] (by decide +kernel) (by decide +kernel)
set_option maxRecDepth 20000 in
theorem gX8_text_X3_codeAt : GoodIn wsX8_text (wsV RX8 208 RX3 yX3_codeAt wsX3_codeAt) := goodIn_app (goodIn_of _ (by decide +kernel)) ggX8_text_X3_codeAt
set_option maxRecDepth 20000 in
theorem ggX8_text_X8_signOfFrame : GoodIn wsX8_text wsX8_signOfFrame := goodIn_r _ [132, 133, 134, 135, 136, 137, 138, 139, 140, 40, 41, 31, 42, 33, 141, 142, 143, 144, 145, 146, 147, 148, 149, 150, 151, 152, 153, 154, 155, 156, 169, 170, 171, 172, 173, 174, 168] (by decide +kernel) (by decide +kernel)
set_option maxRecDepth 20000 in
theorem gX8_text_X8_signOfFrame : GoodIn wsX8_text (wsV RX8 211 RX8 yX8_signOfFrame wsX8_signOfFrame) := goodIn_app (goodIn_of _ (by decide +kernel)) ggX8_text_X8_signOfFrame
theorem dX8_text_0 : decode cX8_text 0 = .ok (.iload_n 1, 1) := by decide +kernel
theorem dX8_text_1 : decode cX8_text 1 = .ok (.iconst 0, 1) := by decide +kernel
theorem dX8_text_2 : decode cX8_text 2 = .ok (.aload_n 0, 1) := by decide +kernel
theorem dX8_text_3 : decode cX8_text 3 = .ok (.getfield 28, 3) := by decide +kernel
theorem dX8_text_6 : decode cX8_text 6 = .ok (.invokevirtual 140, 3) := by decide +kernel
theorem dX8_text_9 : decode cX8_text 9 = .ok (.iconst 1, 1) := by decide +kernel
theorem dX8_text_10 : decode cX8_text 10 = .ok (.isub, 1) := by decide +kernel
theorem dX8_text_11 : decode cX8_text 11 = .ok (.invokestatic 73, 3) := by decide +kernel
theorem dX8_text_14 : decode cX8_text 14 = .ok (.ifCond .eq 5, 3) := by decide +kernel
theorem dX8_text_17 : decode cX8_text 17 = .ok (.iconst (-1), 1) := by decide +kernel
theorem dX8_text_18 : decode cX8_text 18 = .ok (.ireturn, 1) := by decide +kernel
theorem dX8_text_19 : decode cX8_text 19 = .ok (.iload_n 2, 1) := by decide +kernel
theorem dX8_text_20 : decode cX8_text 20 = .ok (.iconst (-1), 1) := by decide +kernel
theorem dX8_text_21 : decode cX8_text 21 = .ok (.sipush 399, 3) := by decide +kernel
theorem dX8_text_24 : decode cX8_text 24 = .ok (.invokestatic 73, 3) := by decide +kernel
theorem dX8_text_27 : decode cX8_text 27 = .ok (.ifCond .eq 6, 3) := by decide +kernel
theorem dX8_text_30 : decode cX8_text 30 = .ok (.bipush (-2), 2) := by decide +kernel
theorem dX8_text_32 : decode cX8_text 32 = .ok (.ireturn, 1) := by decide +kernel
theorem dX8_text_33 : decode cX8_text 33 = .ok (.aload_n 0, 1) := by decide +kernel
theorem dX8_text_34 : decode cX8_text 34 = .ok (.iload_n 1, 1) := by decide +kernel
theorem dX8_text_35 : decode cX8_text 35 = .ok (.invokevirtual 204, 3) := by decide +kernel
theorem dX8_text_38 : decode cX8_text 38 = .ok (.aload_n 0, 1) := by decide +kernel
theorem dX8_text_39 : decode cX8_text 39 = .ok (.getfield 28, 3) := by decide +kernel
theorem dX8_text_42 : decode cX8_text 42 = .ok (.iload_n 1, 1) := by decide +kernel
theorem dX8_text_43 : decode cX8_text 43 = .ok (.invokevirtual 159, 3) := by decide +kernel
theorem dX8_text_46 : decode cX8_text 46 = .ok (.aload_n 0, 1) := by decide +kernel
theorem dX8_text_47 : decode cX8_text 47 = .ok (.getfield 28, 3) := by decide +kernel
theorem dX8_text_50 : decode cX8_text 50 = .ok (.iload_n 1, 1) := by decide +kernel
theorem dX8_text_51 : decode cX8_text 51 = .ok (.invokevirtual 141, 3) := by decide +kernel
theorem dX8_text_54 : decode cX8_text 54 = .ok (.isub, 1) := by decide +kernel
theorem dX8_text_55 : decode cX8_text 55 = .ok (.iconst 1, 1) := by decide +kernel
theorem dX8_text_56 : decode cX8_text 56 = .ok (.iadd, 1) := by decide +kernel
theorem dX8_text_57 : decode cX8_text 57 = .ok (.istore_n 3, 1) := by decide +kernel
theorem dX8_text_58 : decode cX8_text 58 = .ok (.iload_n 2, 1) := by decide +kernel
theorem dX8_text_59 : decode cX8_text 59 = .ok (.iconst (-1), 1) := by decide +kernel
theorem dX8_text_60 : decode cX8_text 60 = .ok (.if_icmp .ne 13, 3) := by decide +kernel
theorem dX8_text_63 : decode cX8_text 63 = .ok (.aload_n 0, 1) := by decide +kernel
theorem dX8_text_64 : decode cX8_text 64 = .ok (.getfield 56, 3) := by decide +kernel
theorem dX8_text_67 : decode cX8_text 67 = .ok (.invokevirtual 207, 3) := by decide +kernel
theorem dX8_text_70 : decode cX8_text 70 = .ok (.iload_n 3, 1) := by decide +kernel
theorem dX8_text_71 : decode cX8_text 71 = .ok (.iadd, 1) := by decide +kernel
theorem dX8_text_72 : decode cX8_text 72 = .ok (.ireturn, 1) := by decide +kernel
theorem dX8_text_73 : decode cX8_text 73 = .ok (.iload_n 2, 1) := by decide +kernel
theorem dX8_text_74 : decode cX8_text 74 = .ok (.aload_n 0, 1) := by decide +kernel
theorem dX8_text_75 : decode cX8_text 75 = .ok (.getfield 56, 3) := by decide +kernel
theorem dX8_text_78 : decode cX8_text 78 = .ok (.invokevirtual 207, 3) := by decide +kernel
theorem dX8_text_81 : decode cX8_text 81 = .ok (.if_icmp .ge 12, 3) := by decide +kernel
theorem dX8_text_84 : decode cX8_text 84 = .ok (.aload_n 0, 1) := by decide +kernel
theorem dX8_text_85 : decode cX8_text 85 = .ok (.getfield 56, 3) := by decide +kernel
theorem dX8_text_88 : decode cX8_text 88 = .ok (.iload_n 2, 1) := by decide +kernel
theorem dX8_text_89 : decode cX8_text 89 = .ok (.invokevirtual 208, 3) := by decide +kernel
theorem dX8_text_92 : decode cX8_text 92 = .ok (.ireturn, 1) := by decide +kernel
theorem dX8_text_93 : decode cX8_text 93 = .ok (.iload_n 2, 1) := by decide +kernel
theorem dX8_text_94 : decode cX8_text 94 = .ok (.aload_n 0, 1) := by decide +kernel
theorem dX8_text_95 : decode cX8_text 95 = .ok (.getfield 56, 3) := by decide +kernel
theorem dX8_text_98 : decode cX8_text 98 = .ok (.invokevirtual 207, 3) := by decide +kernel
theorem dX8_text_101 : decode cX8_text 101 = .ok (.isub, 1) := by decide +kernel
theorem dX8_text_102 : decode cX8_text 102 = .ok (.istore 4, 2) := by decide +kernel
theorem dX8_text_104 : decode cX8_text 104 = .ok (.iload 4, 2) := by decide +kernel
theorem dX8_text_106 : decode cX8_text 106 = .ok (.iload_n 3, 1) := by decide +kernel
theorem dX8_text_107 : decode cX8_text 107 = .ok (.if_icmp .ge 21, 3) := by decide +kernel
theorem dX8_text_110 : decode cX8_text 110 = .ok (.aload_n 0, 1) := by decide +kernel
theorem dX8_text_111 : decode cX8_text 111 = .ok (.aload_n 0, 1) := by decide +kernel
theorem dX8_text_112 : decode cX8_text 112 = .ok (.getfield 28, 3) := by decide +kernel
theorem dX8_text_115 : decode cX8_text 115 = .ok (.iload_n 1, 1) := by decide +kernel
theorem dX8_text_116 : decode cX8_text 116 = .ok (.invokevirtual 141, 3) := by decide +kernel
theorem dX8_text_119 : decode cX8_text 119 = .ok (.iload 4, 2) := by decide +kernel
theorem dX8_text_121 : decode cX8_text 121 = .ok (.iadd, 1) := by decide +kernel
theorem dX8_text_122 : decode cX8_text 122 = .ok (.invokevirtual 211, 3) := by decide +kernel
theorem dX8_text_125 : decode cX8_text 125 = .ok (.goto 5, 3) := by decide +kernel
theorem dX8_text_128 : decode cX8_text 128 = .ok (.bipush (-9), 2) := by decide +kernel
theorem dX8_text_130 : decode cX8_text 130 = .ok (.ireturn, 1) := by decide +kernel
set_option maxRecDepth 20000 in
theorem ggX8_word_X8_isOutside : GoodIn wsX8_word wsX8_isOutside := goodIn_r _ [5] (by decide +kernel) (by decide +kernel)
set_option maxRecDepth 20000 in
theorem gX8_word_X8_isOutside : GoodIn wsX8_word (va_wsS RX8 73 yX8_isOutside wsX8_isOutside) := goodIn_app (goodIn_of _ (by decide +kernel)) ggX8_word_X8_isOutside
set_option maxRecDepth 20000 in
theorem ggX8_word_X8_wordOf : GoodIn wsX8_word wsX8_wordOf := goodIn_r _ [8] (by decide +kernel) (by decide +kernel)
set_option maxRecDepth 20000 in
theorem gX8_word_X8_wordOf : GoodIn wsX8_word (va_wsS RX8 214 yX8_wordOf wsX8_wordOf) := goodIn_app (goodIn_of _ (by decide +kernel)) ggX8_word_X8_wordOf
set_option maxRecDepth 20000 in
theorem ggX8_word_J0_length_8abf5 : GoodIn wsX8_word wsJ0_length_8abf5 := goodIn_r _ [13, 14, 15, 16, 17, 12, 18, 19, 20] (by decide +kernel) (by decide +kernel)
set_option maxRecDepth 20000 in
theorem gX8_word_J0_length_8abf5 : GoodIn wsX8_word (wsV RX8 218 RJ0 yJ0_length_8abf5 wsJ0_length_8abf5) := goodIn_app (goodIn_of _ (by decide +kernel)) ggX8_word_J0_length_8abf5
set_option maxRecDepth 20000 in
theorem ggX8_word_J0_charAt_5068e : GoodIn wsX8_word wsJ0_charAt_5068e := goodIn_r _ [24, 14, 25, 26, 27, 12, 28, 19, 20, 29, 30, 31, 32, 33, 34, 35, 36, 37, 38, 39, 40, 41, 42, 43, 44, 45, 46, 47, 48, 49, 50, 51, 52, 53, 54, 55, 56, 57] (by decide +kernel) (by decide +kernel)
set_option maxRecDepth 20000 in
theorem gX8_word_J0_charAt_5068e : GoodIn wsX8_word (wsV RX8 223 RJ0 yJ0_charAt_5068e wsJ0_charAt_5068e) := goodIn_app (goodIn_of _ (by decide +kernel)) ggX8_word_J0_charAt_5068e
theorem dX8_word_0 : decode cX8_word 0 = .ok (.iload_n 1, 1) := by decide +kernel
theorem dX8_word_1 : decode cX8_word 1 = .ok (.iconst 0, 1) := by decide +kernel
theorem dX8_word_2 : decode cX8_word 2 = .ok (.iconst 4, 1) := by decide +kernel
theorem dX8_word_3 : decode cX8_word 3 = .ok (.invokestatic 73, 3) := by decide +kernel
theorem dX8_word_6 : decode cX8_word 6 = .ok (.ifCond .eq 6, 3) := by decide +kernel
theorem dX8_word_9 : decode cX8_word 9 = .ok (.bipush (-2), 2) := by decide +kernel
theorem dX8_word_11 : decode cX8_word 11 = .ok (.ireturn, 1) := by decide +kernel
theorem dX8_word_12 : decode cX8_word 12 = .ok (.aload_n 0, 1) := by decide +kernel
theorem dX8_word_13 : decode cX8_word 13 = .ok (.getfield 60, 3) := by decide +kernel
theorem dX8_word_16 : decode cX8_word 16 = .ok (.invokestatic 214, 3) := by decide +kernel
theorem dX8_word_19 : decode cX8_word 19 = .ok (.astore_n 2, 1) := by decide +kernel
theorem dX8_word_20 : decode cX8_word 20 = .ok (.iload_n 1, 1) := by decide +kernel
theorem dX8_word_21 : decode cX8_word 21 = .ok (.aload_n 2, 1) := by decide +kernel
theorem dX8_word_22 : decode cX8_word 22 = .ok (.invokevirtual 218, 3) := by decide +kernel
theorem dX8_word_25 : decode cX8_word 25 = .ok (.if_icmp .lt 6, 3) := by decide +kernel
theorem dX8_word_28 : decode cX8_word 28 = .ok (.bipush (-9), 2) := by decide +kernel
theorem dX8_word_30 : decode cX8_word 30 = .ok (.ireturn, 1) := by decide +kernel
theorem dX8_word_31 : decode cX8_word 31 = .ok (.aload_n 2, 1) := by decide +kernel
theorem dX8_word_32 : decode cX8_word 32 = .ok (.iload_n 1, 1) := by decide +kernel
theorem dX8_word_33 : decode cX8_word 33 = .ok (.invokevirtual 223, 3) := by decide +kernel
theorem dX8_word_36 : decode cX8_word 36 = .ok (.ireturn, 1) := by decide +kernel
set_option maxRecDepth 20000 in
theorem ggX8_many_X0_count : GoodIn wsX8_many wsX0_count := goodIn_r _ [9, 10, 74, 75, 76, 77, 78, 79] (by decide +kernel) (by decide +kernel)
set_option maxRecDepth 20000 in
theorem gX8_many_X0_count : GoodIn wsX8_many (wsV RX8 122 RX0 yX0_count wsX0_count) := goodIn_app (goodIn_of _ (by decide +kernel)) ggX8_many_X0_count
set_option maxRecDepth 20000 in
theorem ggX8_many_X4_count : GoodIn wsX8_many wsX4_count := goodIn_r _ [15, 16, 80, 81, 82, 83, 84, 85, 86, 87, 88] (by decide +kernel) (by decide +kernel)
set_option maxRecDepth 20000 in
theorem gX8_many_X4_count : GoodIn wsX8_many (wsV RX8 140 RX4 yX4_count wsX4_count) := goodIn_app (goodIn_of _ (by decide +kernel)) ggX8_many_X4_count
set_option maxRecDepth 20000 in
theorem ggX8_many_X4_playedOfAll : GoodIn wsX8_many wsX4_playedOfAll := goodIn_r _ [20, 16, 21, 22, 23, 14, 24, 25, 26, 27, 28, 29, 30, 31, 80, 81, 82, 83, 84, 85, 86, 87, 88, 89] (by decide +kernel) (by decide +kernel)
set_option maxRecDepth 20000 in
theorem gX8_many_X4_playedOfAll : GoodIn wsX8_many (wsV RX8 227 RX4 yX4_playedOfAll wsX4_playedOfAll) := goodIn_app (goodIn_of _ (by decide +kernel)) ggX8_many_X4_playedOfAll
set_option maxRecDepth 20000 in
theorem ggX8_many_X4_missingOfAll : GoodIn wsX8_many wsX4_missingOfAll := goodIn_r _ [35, 16, 36, 37, 38, 14, 39, 40, 41, 42, 26, 27, 28, 29, 30, 31, 80, 81, 82, 83, 84, 85, 86, 87, 88, 89] (by decide +kernel) (by decide +kernel)
set_option maxRecDepth 20000 in
theorem gX8_many_X4_missingOfAll : GoodIn wsX8_many (wsV RX8 230 RX4 yX4_missingOfAll wsX4_missingOfAll) := goodIn_app (goodIn_of _ (by decide +kernel)) ggX8_many_X4_missingOfAll
set_option maxRecDepth 20000 in
theorem ggX8_many_X0_historySize : GoodIn wsX8_many wsX0_historySize := goodIn_r _ [46, 10, 47, 48, 49, 50, 74, 75, 76, 77, 78, 79] (by decide +kernel) (by decide +kernel)
set_option maxRecDepth 20000 in
theorem gX8_many_X0_historySize : GoodIn wsX8_many (wsV RX8 179 RX0 yX0_historySize wsX0_historySize) := goodIn_app (goodIn_of _ (by decide +kernel)) ggX8_many_X0_historySize
set_option maxRecDepth 20000 in
theorem ggX8_many_X6_size : GoodIn wsX8_many wsX6_size := goodIn_r _ [55, 56, 90, 91] (by decide +kernel) (by decide +kernel)
set_option maxRecDepth 20000 in
theorem gX8_many_X6_size : GoodIn wsX8_many (wsV RX8 77 RX6 yX6_size wsX6_size) := goodIn_app (goodIn_of _ (by decide +kernel)) ggX8_many_X6_size
set_option maxRecDepth 20000 in
theorem ggX8_many_X5_begun : GoodIn wsX8_many wsX5_begun := goodIn_r _ [61, 62, 92, 93, 94] (by decide +kernel) (by decide +kernel)
set_option maxRecDepth 20000 in
theorem gX8_many_X5_begun : GoodIn wsX8_many (wsV RX8 233 RX5 yX5_begun wsX5_begun) := goodIn_app (goodIn_of _ (by decide +kernel)) ggX8_many_X5_begun
theorem dX8_many_0 : decode cX8_many 0 = .ok (.iload_n 1, 1) := by decide +kernel
theorem dX8_many_1 : decode cX8_many 1 = .ok (.tableswitch 119 0 7 #[47, 55, 63, 71, 87, 95, 103, 111], 47) := by decide +kernel
theorem dX8_many_48 : decode cX8_many 48 = .ok (.aload_n 0, 1) := by decide +kernel
theorem dX8_many_49 : decode cX8_many 49 = .ok (.getfield 21, 3) := by decide +kernel
theorem dX8_many_52 : decode cX8_many 52 = .ok (.invokevirtual 122, 3) := by decide +kernel
theorem dX8_many_55 : decode cX8_many 55 = .ok (.ireturn, 1) := by decide +kernel
theorem dX8_many_56 : decode cX8_many 56 = .ok (.aload_n 0, 1) := by decide +kernel
theorem dX8_many_57 : decode cX8_many 57 = .ok (.getfield 28, 3) := by decide +kernel
theorem dX8_many_60 : decode cX8_many 60 = .ok (.invokevirtual 140, 3) := by decide +kernel
theorem dX8_many_63 : decode cX8_many 63 = .ok (.ireturn, 1) := by decide +kernel
theorem dX8_many_64 : decode cX8_many 64 = .ok (.aload_n 0, 1) := by decide +kernel
theorem dX8_many_65 : decode cX8_many 65 = .ok (.getfield 28, 3) := by decide +kernel
theorem dX8_many_68 : decode cX8_many 68 = .ok (.invokevirtual 227, 3) := by decide +kernel
theorem dX8_many_71 : decode cX8_many 71 = .ok (.ireturn, 1) := by decide +kernel
theorem dX8_many_72 : decode cX8_many 72 = .ok (.aload_n 0, 1) := by decide +kernel
theorem dX8_many_73 : decode cX8_many 73 = .ok (.getfield 21, 3) := by decide +kernel
theorem dX8_many_76 : decode cX8_many 76 = .ok (.invokevirtual 122, 3) := by decide +kernel
theorem dX8_many_79 : decode cX8_many 79 = .ok (.aload_n 0, 1) := by decide +kernel
theorem dX8_many_80 : decode cX8_many 80 = .ok (.getfield 28, 3) := by decide +kernel
theorem dX8_many_83 : decode cX8_many 83 = .ok (.invokevirtual 227, 3) := by decide +kernel
theorem dX8_many_86 : decode cX8_many 86 = .ok (.isub, 1) := by decide +kernel
theorem dX8_many_87 : decode cX8_many 87 = .ok (.ireturn, 1) := by decide +kernel
theorem dX8_many_88 : decode cX8_many 88 = .ok (.aload_n 0, 1) := by decide +kernel
theorem dX8_many_89 : decode cX8_many 89 = .ok (.getfield 28, 3) := by decide +kernel
theorem dX8_many_92 : decode cX8_many 92 = .ok (.invokevirtual 230, 3) := by decide +kernel
theorem dX8_many_95 : decode cX8_many 95 = .ok (.ireturn, 1) := by decide +kernel
theorem dX8_many_96 : decode cX8_many 96 = .ok (.aload_n 0, 1) := by decide +kernel
theorem dX8_many_97 : decode cX8_many 97 = .ok (.getfield 21, 3) := by decide +kernel
theorem dX8_many_100 : decode cX8_many 100 = .ok (.invokevirtual 179, 3) := by decide +kernel
theorem dX8_many_103 : decode cX8_many 103 = .ok (.ireturn, 1) := by decide +kernel
theorem dX8_many_104 : decode cX8_many 104 = .ok (.aload_n 0, 1) := by decide +kernel
theorem dX8_many_105 : decode cX8_many 105 = .ok (.getfield 12, 3) := by decide +kernel
theorem dX8_many_108 : decode cX8_many 108 = .ok (.invokevirtual 77, 3) := by decide +kernel
theorem dX8_many_111 : decode cX8_many 111 = .ok (.ireturn, 1) := by decide +kernel
theorem dX8_many_112 : decode cX8_many 112 = .ok (.aload_n 0, 1) := by decide +kernel
theorem dX8_many_113 : decode cX8_many 113 = .ok (.getfield 35, 3) := by decide +kernel
theorem dX8_many_116 : decode cX8_many 116 = .ok (.invokevirtual 233, 3) := by decide +kernel
theorem dX8_many_119 : decode cX8_many 119 = .ok (.ireturn, 1) := by decide +kernel
theorem dX8_many_120 : decode cX8_many 120 = .ok (.bipush (-2), 2) := by decide +kernel
theorem dX8_many_122 : decode cX8_many 122 = .ok (.ireturn, 1) := by decide +kernel
theorem dX8_isOutside_0 : decode cX8_isOutside 0 = .ok (.iload_n 0, 1) := by decide +kernel
theorem dX8_isOutside_1 : decode cX8_isOutside 1 = .ok (.iload_n 1, 1) := by decide +kernel
theorem dX8_isOutside_2 : decode cX8_isOutside 2 = .ok (.if_icmp .lt 8, 3) := by decide +kernel
theorem dX8_isOutside_5 : decode cX8_isOutside 5 = .ok (.iload_n 0, 1) := by decide +kernel
theorem dX8_isOutside_6 : decode cX8_isOutside 6 = .ok (.iload_n 2, 1) := by decide +kernel
theorem dX8_isOutside_7 : decode cX8_isOutside 7 = .ok (.if_icmp .le 7, 3) := by decide +kernel
theorem dX8_isOutside_10 : decode cX8_isOutside 10 = .ok (.iconst 1, 1) := by decide +kernel
theorem dX8_isOutside_11 : decode cX8_isOutside 11 = .ok (.goto 4, 3) := by decide +kernel
theorem dX8_isOutside_14 : decode cX8_isOutside 14 = .ok (.iconst 0, 1) := by decide +kernel
theorem dX8_isOutside_15 : decode cX8_isOutside 15 = .ok (.ireturn, 1) := by decide +kernel
theorem dX8_wordOf_0 : decode cX8_wordOf 0 = .ok (.iload_n 0, 1) := by decide +kernel
theorem dX8_wordOf_1 : decode cX8_wordOf 1 = .ok (.tableswitch 43 1 4 #[31, 34, 37, 40], 31) := by decide +kernel
theorem dX8_wordOf_32 : decode cX8_wordOf 32 = .ok (.ldc 236, 2) := by decide +kernel
theorem dX8_wordOf_34 : decode cX8_wordOf 34 = .ok (.areturn, 1) := by decide +kernel
theorem dX8_wordOf_35 : decode cX8_wordOf 35 = .ok (.ldc 238, 2) := by decide +kernel
theorem dX8_wordOf_37 : decode cX8_wordOf 37 = .ok (.areturn, 1) := by decide +kernel
theorem dX8_wordOf_38 : decode cX8_wordOf 38 = .ok (.ldc 240, 2) := by decide +kernel
theorem dX8_wordOf_40 : decode cX8_wordOf 40 = .ok (.areturn, 1) := by decide +kernel
theorem dX8_wordOf_41 : decode cX8_wordOf 41 = .ok (.ldc 242, 2) := by decide +kernel
theorem dX8_wordOf_43 : decode cX8_wordOf 43 = .ok (.areturn, 1) := by decide +kernel
theorem dX8_wordOf_44 : decode cX8_wordOf 44 = .ok (.ldc 244, 2) := by decide +kernel
theorem dX8_wordOf_46 : decode cX8_wordOf 46 = .ok (.areturn, 1) := by decide +kernel
theorem dX8_leastNumber_0 : decode cX8_leastNumber 0 = .ok (.iload_n 0, 1) := by decide +kernel
theorem dX8_leastNumber_1 : decode cX8_leastNumber 1 = .ok (.ifCond .ne 9, 3) := by decide +kernel
theorem dX8_leastNumber_4 : decode cX8_leastNumber 4 = .ok (.sipush (-500), 3) := by decide +kernel
theorem dX8_leastNumber_7 : decode cX8_leastNumber 7 = .ok (.goto 4, 3) := by decide +kernel
theorem dX8_leastNumber_10 : decode cX8_leastNumber 10 = .ok (.iconst 0, 1) := by decide +kernel
theorem dX8_leastNumber_11 : decode cX8_leastNumber 11 = .ok (.ireturn, 1) := by decide +kernel
theorem dX8_greatestNumber_0 : decode cX8_greatestNumber 0 = .ok (.iload_n 0, 1) := by decide +kernel
theorem dX8_greatestNumber_1 : decode cX8_greatestNumber 1 = .ok (.lookupswitch 34 #[(0, 27), (4, 31)], 27) := by decide +kernel
theorem dX8_greatestNumber_28 : decode cX8_greatestNumber 28 = .ok (.sipush 2000, 3) := by decide +kernel
theorem dX8_greatestNumber_31 : decode cX8_greatestNumber 31 = .ok (.ireturn, 1) := by decide +kernel
theorem dX8_greatestNumber_32 : decode cX8_greatestNumber 32 = .ok (.bipush 8, 2) := by decide +kernel
theorem dX8_greatestNumber_34 : decode cX8_greatestNumber 34 = .ok (.ireturn, 1) := by decide +kernel
theorem dX8_greatestNumber_35 : decode cX8_greatestNumber 35 = .ok (.sipush 256, 3) := by decide +kernel
theorem dX8_greatestNumber_38 : decode cX8_greatestNumber 38 = .ok (.ireturn, 1) := by decide +kernel
set_option maxRecDepth 20000 in
theorem ggX8_mannerOnTape_X8_wordOf : GoodIn wsX8_mannerOnTape wsX8_wordOf := goodIn_r _ [5] (by decide +kernel) (by decide +kernel)
set_option maxRecDepth 20000 in
theorem gX8_mannerOnTape_X8_wordOf : GoodIn wsX8_mannerOnTape (va_wsS RX8 214 yX8_wordOf wsX8_wordOf) := goodIn_app (goodIn_of _ (by decide +kernel)) ggX8_mannerOnTape_X8_wordOf
set_option maxRecDepth 20000 in
theorem ggX8_mannerOnTape_X6_spells : GoodIn wsX8_mannerOnTape wsX6_spells := goodIn_r _ [10, 11, 12, 13, 14, 15, 16, 17, 18, 19, 20, 21, 22, 23, 24, 25, 26, 27, 28, 29, 30, 31, 32, 33, 34, 35, 36, 37, 38, 39, 40, 41, 42, 43, 44, 45, 46, 47, 48, 49, 50, 51, 52, 53, 54, 55, 56, 57, 58, 59, 60, 61, 62, 63, 64, 65, 66, 67, 79, 80, 81] (by decide +kernel) (by decide +kernel)
set_option maxRecDepth 20000 in
theorem gX8_mannerOnTape_X6_spells : GoodIn wsX8_mannerOnTape (wsV RX8 246 RX6 yX6_spells wsX6_spells) := goodIn_app (goodIn_of _ (by decide +kernel)) ggX8_mannerOnTape_X6_spells
theorem dX8_mannerOnTape_0 : decode cX8_mannerOnTape 0 = .ok (.iconst 0, 1) := by decide +kernel
theorem dX8_mannerOnTape_1 : decode cX8_mannerOnTape 1 = .ok (.istore_n 1, 1) := by decide +kernel
theorem dX8_mannerOnTape_2 : decode cX8_mannerOnTape 2 = .ok (.iload_n 1, 1) := by decide +kernel
theorem dX8_mannerOnTape_3 : decode cX8_mannerOnTape 3 = .ok (.iconst 5, 1) := by decide +kernel
theorem dX8_mannerOnTape_4 : decode cX8_mannerOnTape 4 = .ok (.if_icmp .ge 25, 3) := by decide +kernel
theorem dX8_mannerOnTape_7 : decode cX8_mannerOnTape 7 = .ok (.aload_n 0, 1) := by decide +kernel
theorem dX8_mannerOnTape_8 : decode cX8_mannerOnTape 8 = .ok (.getfield 12, 3) := by decide +kernel
theorem dX8_mannerOnTape_11 : decode cX8_mannerOnTape 11 = .ok (.iload_n 1, 1) := by decide +kernel
theorem dX8_mannerOnTape_12 : decode cX8_mannerOnTape 12 = .ok (.invokestatic 214, 3) := by decide +kernel
theorem dX8_mannerOnTape_15 : decode cX8_mannerOnTape 15 = .ok (.invokevirtual 246, 3) := by decide +kernel
theorem dX8_mannerOnTape_18 : decode cX8_mannerOnTape 18 = .ok (.ifCond .eq 5, 3) := by decide +kernel
theorem dX8_mannerOnTape_21 : decode cX8_mannerOnTape 21 = .ok (.iload_n 1, 1) := by decide +kernel
theorem dX8_mannerOnTape_22 : decode cX8_mannerOnTape 22 = .ok (.ireturn, 1) := by decide +kernel
theorem dX8_mannerOnTape_23 : decode cX8_mannerOnTape 23 = .ok (.iinc 1 1, 3) := by decide +kernel
theorem dX8_mannerOnTape_26 : decode cX8_mannerOnTape 26 = .ok (.goto (-24), 3) := by decide +kernel
theorem dX8_mannerOnTape_29 : decode cX8_mannerOnTape 29 = .ok (.iconst (-1), 1) := by decide +kernel
theorem dX8_mannerOnTape_30 : decode cX8_mannerOnTape 30 = .ok (.ireturn, 1) := by decide +kernel
set_option maxRecDepth 20000 in
theorem ggX8_refusalOf_X8_isOutside : GoodIn wsX8_refusalOf wsX8_isOutside := goodIn_r _ [6] (by decide +kernel) (by decide +kernel)
set_option maxRecDepth 20000 in
theorem gX8_refusalOf_X8_isOutside : GoodIn wsX8_refusalOf (va_wsS RX8 73 yX8_isOutside wsX8_isOutside) := goodIn_app (goodIn_of _ (by decide +kernel)) ggX8_refusalOf_X8_isOutside
set_option maxRecDepth 20000 in
theorem ggX8_refusalOf_X0_latestWhen : GoodIn wsX8_refusalOf wsX0_latestWhen := goodIn_r _ [11, 12, 13, 14, 15, 16, 17, 18, 19, 54, 55, 56, 57, 58, 59, 60] (by decide +kernel) (by decide +kernel)
set_option maxRecDepth 20000 in
theorem gX8_refusalOf_X0_latestWhen : GoodIn wsX8_refusalOf (wsV RX8 250 RX0 yX0_latestWhen wsX0_latestWhen) := goodIn_app (goodIn_of _ (by decide +kernel)) ggX8_refusalOf_X0_latestWhen
set_option maxRecDepth 20000 in
theorem ggX8_refusalOf_X0_placeOf : GoodIn wsX8_refusalOf wsX0_placeOf := goodIn_r _ [23, 24, 14, 15, 16, 17, 18, 19, 54, 55, 56, 57, 58, 59, 60] (by decide +kernel) (by decide +kernel)
set_option maxRecDepth 20000 in
theorem gX8_refusalOf_X0_placeOf : GoodIn wsX8_refusalOf (wsV RX8 128 RX0 yX0_placeOf wsX0_placeOf) := goodIn_app (goodIn_of _ (by decide +kernel)) ggX8_refusalOf_X0_placeOf
set_option maxRecDepth 20000 in
theorem ggX8_refusalOf_X4_bar : GoodIn wsX8_refusalOf wsX4_bar := goodIn_r _ [29, 30, 31, 32, 33, 15, 16, 17, 18, 19, 34, 35, 36, 28, 37, 38, 61, 62, 63, 64, 65, 66, 67, 68, 69, 60] (by decide +kernel) (by decide +kernel)
set_option maxRecDepth 20000 in
theorem gX8_refusalOf_X4_bar : GoodIn wsX8_refusalOf (wsV RX8 253 RX4 yX4_bar wsX4_bar) := goodIn_app (goodIn_of _ (by decide +kernel)) ggX8_refusalOf_X4_bar
set_option maxRecDepth 20000 in
theorem ggX8_refusalOf_X0_count : GoodIn wsX8_refusalOf wsX0_count := goodIn_r _ [42, 12, 54, 55, 56, 57, 58, 59] (by decide +kernel) (by decide +kernel)
set_option maxRecDepth 20000 in
theorem gX8_refusalOf_X0_count : GoodIn wsX8_refusalOf (wsV RX8 122 RX0 yX0_count wsX0_count) := goodIn_app (goodIn_of _ (by decide +kernel)) ggX8_refusalOf_X0_count
theorem dX8_refusalOf_0 : decode cX8_refusalOf 0 = .ok (.iload_n 1, 1) := by decide +kernel
theorem dX8_refusalOf_1 : decode cX8_refusalOf 1 = .ok (.iconst 0, 1) := by decide +kernel
theorem dX8_refusalOf_2 : decode cX8_refusalOf 2 = .ok (.sipush 299, 3) := by decide +kernel
theorem dX8_refusalOf_5 : decode cX8_refusalOf 5 = .ok (.invokestatic 73, 3) := by decide +kernel
theorem dX8_refusalOf_8 : decode cX8_refusalOf 8 = .ok (.ifCond .ne 33, 3) := by decide +kernel
theorem dX8_refusalOf_11 : decode cX8_refusalOf 11 = .ok (.iload_n 2, 1) := by decide +kernel
theorem dX8_refusalOf_12 : decode cX8_refusalOf 12 = .ok (.iconst 0, 1) := by decide +kernel
theorem dX8_refusalOf_13 : decode cX8_refusalOf 13 = .ok (.iload_n 1, 1) := by decide +kernel
theorem dX8_refusalOf_14 : decode cX8_refusalOf 14 = .ok (.invokestatic 73, 3) := by decide +kernel
theorem dX8_refusalOf_17 : decode cX8_refusalOf 17 = .ok (.ifCond .ne 24, 3) := by decide +kernel
theorem dX8_refusalOf_20 : decode cX8_refusalOf 20 = .ok (.iload_n 3, 1) := by decide +kernel
theorem dX8_refusalOf_21 : decode cX8_refusalOf 21 = .ok (.iconst 0, 1) := by decide +kernel
theorem dX8_refusalOf_22 : decode cX8_refusalOf 22 = .ok (.iload_n 2, 1) := by decide +kernel
theorem dX8_refusalOf_23 : decode cX8_refusalOf 23 = .ok (.invokestatic 73, 3) := by decide +kernel
theorem dX8_refusalOf_26 : decode cX8_refusalOf 26 = .ok (.ifCond .ne 15, 3) := by decide +kernel
theorem dX8_refusalOf_29 : decode cX8_refusalOf 29 = .ok (.iload 4, 2) := by decide +kernel
theorem dX8_refusalOf_31 : decode cX8_refusalOf 31 = .ok (.iconst 0, 1) := by decide +kernel
theorem dX8_refusalOf_32 : decode cX8_refusalOf 32 = .ok (.sipush 30000, 3) := by decide +kernel
theorem dX8_refusalOf_35 : decode cX8_refusalOf 35 = .ok (.invokestatic 73, 3) := by decide +kernel
theorem dX8_refusalOf_38 : decode cX8_refusalOf 38 = .ok (.ifCond .eq 6, 3) := by decide +kernel
theorem dX8_refusalOf_41 : decode cX8_refusalOf 41 = .ok (.bipush (-2), 2) := by decide +kernel
theorem dX8_refusalOf_43 : decode cX8_refusalOf 43 = .ok (.ireturn, 1) := by decide +kernel
theorem dX8_refusalOf_44 : decode cX8_refusalOf 44 = .ok (.iload 4, 2) := by decide +kernel
theorem dX8_refusalOf_46 : decode cX8_refusalOf 46 = .ok (.aload_n 0, 1) := by decide +kernel
theorem dX8_refusalOf_47 : decode cX8_refusalOf 47 = .ok (.getfield 21, 3) := by decide +kernel
theorem dX8_refusalOf_50 : decode cX8_refusalOf 50 = .ok (.invokevirtual 250, 3) := by decide +kernel
theorem dX8_refusalOf_53 : decode cX8_refusalOf 53 = .ok (.if_icmp .lt 28, 3) := by decide +kernel
theorem dX8_refusalOf_56 : decode cX8_refusalOf 56 = .ok (.aload_n 0, 1) := by decide +kernel
theorem dX8_refusalOf_57 : decode cX8_refusalOf 57 = .ok (.getfield 21, 3) := by decide +kernel
theorem dX8_refusalOf_60 : decode cX8_refusalOf 60 = .ok (.iload_n 1, 1) := by decide +kernel
theorem dX8_refusalOf_61 : decode cX8_refusalOf 61 = .ok (.invokevirtual 128, 3) := by decide +kernel
theorem dX8_refusalOf_64 : decode cX8_refusalOf 64 = .ok (.iconst (-1), 1) := by decide +kernel
theorem dX8_refusalOf_65 : decode cX8_refusalOf 65 = .ok (.if_icmp .ne 16, 3) := by decide +kernel
theorem dX8_refusalOf_68 : decode cX8_refusalOf 68 = .ok (.aload_n 0, 1) := by decide +kernel
theorem dX8_refusalOf_69 : decode cX8_refusalOf 69 = .ok (.getfield 28, 3) := by decide +kernel
theorem dX8_refusalOf_72 : decode cX8_refusalOf 72 = .ok (.iload_n 1, 1) := by decide +kernel
theorem dX8_refusalOf_73 : decode cX8_refusalOf 73 = .ok (.iload_n 2, 1) := by decide +kernel
theorem dX8_refusalOf_74 : decode cX8_refusalOf 74 = .ok (.iload_n 3, 1) := by decide +kernel
theorem dX8_refusalOf_75 : decode cX8_refusalOf 75 = .ok (.invokevirtual 253, 3) := by decide +kernel
theorem dX8_refusalOf_78 : decode cX8_refusalOf 78 = .ok (.ifCond .eq 6, 3) := by decide +kernel
theorem dX8_refusalOf_81 : decode cX8_refusalOf 81 = .ok (.bipush (-3), 2) := by decide +kernel
theorem dX8_refusalOf_83 : decode cX8_refusalOf 83 = .ok (.ireturn, 1) := by decide +kernel
theorem dX8_refusalOf_84 : decode cX8_refusalOf 84 = .ok (.aload_n 0, 1) := by decide +kernel
theorem dX8_refusalOf_85 : decode cX8_refusalOf 85 = .ok (.getfield 21, 3) := by decide +kernel
theorem dX8_refusalOf_88 : decode cX8_refusalOf 88 = .ok (.invokevirtual 122, 3) := by decide +kernel
theorem dX8_refusalOf_91 : decode cX8_refusalOf 91 = .ok (.bipush 120, 2) := by decide +kernel
theorem dX8_refusalOf_93 : decode cX8_refusalOf 93 = .ok (.if_icmp .lt 8, 3) := by decide +kernel
theorem dX8_refusalOf_96 : decode cX8_refusalOf 96 = .ok (.bipush (-4), 2) := by decide +kernel
theorem dX8_refusalOf_98 : decode cX8_refusalOf 98 = .ok (.goto 4, 3) := by decide +kernel
theorem dX8_refusalOf_101 : decode cX8_refusalOf 101 = .ok (.iconst 0, 1) := by decide +kernel
theorem dX8_refusalOf_102 : decode cX8_refusalOf 102 = .ok (.ireturn, 1) := by decide +kernel
set_option maxRecDepth 20000 in
theorem ggX8_wishFor_X7_gather : GoodIn wsX8_wishFor wsX7_gather := goodIn_r _ [11, 12, 13, 14, 15, 16, 17, 18, 19, 20, 21, 22, 23, 24, 25, 26, 27, 28, 29, 30, 31, 32, 33, 34, 35, 36, 37, 38, 39, 40, 41, 42, 43, 150, 151, 152, 153, 154, 155, 156, 157, 158] (by decide +kernel) (by decide +kernel)
set_option maxRecDepth 20000 in
theorem gX8_wishFor_X7_gather : GoodIn wsX8_wishFor (wsV RX8 256 RX7 yX7_gather wsX7_gather) := goodIn_app (goodIn_of _ (by decide +kernel)) ggX8_wishFor_X7_gather
set_option maxRecDepth 20000 in
theorem ggX8_wishFor_X1_fitUnder : GoodIn wsX8_wishFor wsX1_fitUnder := goodIn_r _ [48, 49, 50, 51, 52, 53, 54, 17, 55, 56, 34, 35, 36, 37, 38, 39, 57, 29, 30, 31, 32, 33, 58, 59, 60, 47, 61, 62, 63, 64, 65, 66, 67, 68, 69, 41, 42, 43, 70, 71, 72, 73, 74, 75, 76, 77, 78, 79, 22, 80, 81, 82, 83, 159, 160, 161, 162, 163, 152, 153, 154, 155, 156, 157, 158] (by decide +kernel) (by decide +kernel)
set_option maxRecDepth 20000 in
theorem gX8_wishFor_X1_fitUnder : GoodIn wsX8_wishFor (wsV RX8 188 RX1 yX1_fitUnder wsX1_fitUnder) := goodIn_app (goodIn_of _ (by decide +kernel)) ggX8_wishFor_X1_fitUnder
set_option maxRecDepth 20000 in
theorem ggX8_wishFor_X7_carryAlong : GoodIn wsX8_wishFor wsX7_carryAlong := goodIn_r _ [87, 12, 13, 24, 25, 26, 17, 27, 19, 88, 89, 90, 91, 33, 34, 35, 36, 37, 38, 39, 92, 93, 94, 47, 95, 51, 50, 96, 97, 98, 99, 100, 101, 102, 103, 104, 105, 41, 42, 43, 150, 151, 152, 153, 154, 155, 156, 157, 158, 159, 160, 161, 162, 163] (by decide +kernel) (by decide +kernel)
set_option maxRecDepth 20000 in
theorem gX8_wishFor_X7_carryAlong : GoodIn wsX8_wishFor (wsV RX8 259 RX7 yX7_carryAlong wsX7_carryAlong) := goodIn_app (goodIn_of _ (by decide +kernel)) ggX8_wishFor_X7_carryAlong
set_option maxRecDepth 20000 in
theorem ggX8_wishFor_X5_isOn : GoodIn wsX8_wishFor wsX5_isOn := goodIn_r _ [110, 111, 164, 165, 166] (by decide +kernel) (by decide +kernel)
set_option maxRecDepth 20000 in
theorem gX8_wishFor_X5_isOn : GoodIn wsX8_wishFor (wsV RX8 171 RX5 yX5_isOn wsX5_isOn) := goodIn_app (goodIn_of _ (by decide +kernel)) ggX8_wishFor_X5_isOn
set_option maxRecDepth 20000 in
theorem ggX8_wishFor_X7_greatestOfLastThree : GoodIn wsX8_wishFor wsX7_greatestOfLastThree := goodIn_r _ [115, 12, 116, 21, 22, 23, 117, 118, 119, 10, 120, 13, 121, 122, 123, 124, 35, 36, 37, 38, 39, 150, 151, 158] (by decide +kernel) (by decide +kernel)
set_option maxRecDepth 20000 in
theorem gX8_wishFor_X7_greatestOfLastThree : GoodIn wsX8_wishFor (wsV RX8 263 RX7 yX7_greatestOfLastThree wsX7_greatestOfLastThree) := goodIn_app (goodIn_of _ (by decide +kernel)) ggX8_wishFor_X7_greatestOfLastThree
set_option maxRecDepth 20000 in
theorem ggX8_wishFor_X7_byShare : GoodIn wsX8_wishFor wsX7_byShare := goodIn_r _ [128, 12, 13, 117, 118, 119, 10, 120, 121, 122, 22, 123, 124, 35, 36, 37, 38, 39, 129, 130, 131, 132, 150, 151, 158] (by decide +kernel) (by decide +kernel)
set_option maxRecDepth 20000 in
theorem gX8_wishFor_X7_byShare : GoodIn wsX8_wishFor (wsV RX8 266 RX7 yX7_byShare wsX7_byShare) := goodIn_app (goodIn_of _ (by decide +kernel)) ggX8_wishFor_X7_byShare
set_option maxRecDepth 20000 in
theorem ggX8_wishFor_X7_byMean : GoodIn wsX8_wishFor wsX7_byMean := goodIn_r _ [136, 12, 13, 137, 79, 22, 80, 124, 35, 36, 37, 38, 39, 138, 97, 98, 99, 150, 151, 158] (by decide +kernel) (by decide +kernel)
set_option maxRecDepth 20000 in
theorem gX8_wishFor_X7_byMean : GoodIn wsX8_wishFor (wsV RX8 269 RX7 yX7_byMean wsX7_byMean) := goodIn_app (goodIn_of _ (by decide +kernel)) ggX8_wishFor_X7_byMean
theorem dX8_wishFor_0 : decode cX8_wishFor 0 = .ok (.aload_n 0, 1) := by decide +kernel
theorem dX8_wishFor_1 : decode cX8_wishFor 1 = .ok (.getfield 49, 3) := by decide +kernel
theorem dX8_wishFor_4 : decode cX8_wishFor 4 = .ok (.aload_n 0, 1) := by decide +kernel
theorem dX8_wishFor_5 : decode cX8_wishFor 5 = .ok (.getfield 21, 3) := by decide +kernel
theorem dX8_wishFor_8 : decode cX8_wishFor 8 = .ok (.invokevirtual 256, 3) := by decide +kernel
theorem dX8_wishFor_11 : decode cX8_wishFor 11 = .ok (.aload_n 0, 1) := by decide +kernel
theorem dX8_wishFor_12 : decode cX8_wishFor 12 = .ok (.getfield 60, 3) := by decide +kernel
theorem dX8_wishFor_15 : decode cX8_wishFor 15 = .ok (.iconst 3, 1) := by decide +kernel
theorem dX8_wishFor_16 : decode cX8_wishFor 16 = .ok (.if_icmp .ne 30, 3) := by decide +kernel
theorem dX8_wishFor_19 : decode cX8_wishFor 19 = .ok (.aload_n 0, 1) := by decide +kernel
theorem dX8_wishFor_20 : decode cX8_wishFor 20 = .ok (.getfield 42, 3) := by decide +kernel
theorem dX8_wishFor_23 : decode cX8_wishFor 23 = .ok (.aload_n 0, 1) := by decide +kernel
theorem dX8_wishFor_24 : decode cX8_wishFor 24 = .ok (.getfield 21, 3) := by decide +kernel
theorem dX8_wishFor_27 : decode cX8_wishFor 27 = .ok (.invokevirtual 188, 3) := by decide +kernel
theorem dX8_wishFor_30 : decode cX8_wishFor 30 = .ok (.aload_n 0, 1) := by decide +kernel
theorem dX8_wishFor_31 : decode cX8_wishFor 31 = .ok (.getfield 49, 3) := by decide +kernel
theorem dX8_wishFor_34 : decode cX8_wishFor 34 = .ok (.aload_n 0, 1) := by decide +kernel
theorem dX8_wishFor_35 : decode cX8_wishFor 35 = .ok (.getfield 42, 3) := by decide +kernel
theorem dX8_wishFor_38 : decode cX8_wishFor 38 = .ok (.aload_n 0, 1) := by decide +kernel
theorem dX8_wishFor_39 : decode cX8_wishFor 39 = .ok (.getfield 21, 3) := by decide +kernel
theorem dX8_wishFor_42 : decode cX8_wishFor 42 = .ok (.iload_n 1, 1) := by decide +kernel
theorem dX8_wishFor_43 : decode cX8_wishFor 43 = .ok (.invokevirtual 259, 3) := by decide +kernel
theorem dX8_wishFor_46 : decode cX8_wishFor 46 = .ok (.aload_n 0, 1) := by decide +kernel
theorem dX8_wishFor_47 : decode cX8_wishFor 47 = .ok (.getfield 60, 3) := by decide +kernel
theorem dX8_wishFor_50 : decode cX8_wishFor 50 = .ok (.tableswitch 83 0 4 #[34, 83, 39, 83, 71], 34) := by decide +kernel
theorem dX8_wishFor_84 : decode cX8_wishFor 84 = .ok (.aload_n 0, 1) := by decide +kernel
theorem dX8_wishFor_85 : decode cX8_wishFor 85 = .ok (.getfield 64, 3) := by decide +kernel
theorem dX8_wishFor_88 : decode cX8_wishFor 88 = .ok (.ireturn, 1) := by decide +kernel
theorem dX8_wishFor_89 : decode cX8_wishFor 89 = .ok (.aload_n 0, 1) := by decide +kernel
theorem dX8_wishFor_90 : decode cX8_wishFor 90 = .ok (.getfield 35, 3) := by decide +kernel
theorem dX8_wishFor_93 : decode cX8_wishFor 93 = .ok (.invokevirtual 171, 3) := by decide +kernel
theorem dX8_wishFor_96 : decode cX8_wishFor 96 = .ok (.ifCond .eq 13, 3) := by decide +kernel
theorem dX8_wishFor_99 : decode cX8_wishFor 99 = .ok (.aload_n 0, 1) := by decide +kernel
theorem dX8_wishFor_100 : decode cX8_wishFor 100 = .ok (.getfield 49, 3) := by decide +kernel
theorem dX8_wishFor_103 : decode cX8_wishFor 103 = .ok (.invokevirtual 263, 3) := by decide +kernel
theorem dX8_wishFor_106 : decode cX8_wishFor 106 = .ok (.goto 14, 3) := by decide +kernel
theorem dX8_wishFor_109 : decode cX8_wishFor 109 = .ok (.aload_n 0, 1) := by decide +kernel
theorem dX8_wishFor_110 : decode cX8_wishFor 110 = .ok (.getfield 49, 3) := by decide +kernel
theorem dX8_wishFor_113 : decode cX8_wishFor 113 = .ok (.aload_n 0, 1) := by decide +kernel
theorem dX8_wishFor_114 : decode cX8_wishFor 114 = .ok (.getfield 64, 3) := by decide +kernel
theorem dX8_wishFor_117 : decode cX8_wishFor 117 = .ok (.invokevirtual 266, 3) := by decide +kernel
theorem dX8_wishFor_120 : decode cX8_wishFor 120 = .ok (.ireturn, 1) := by decide +kernel
theorem dX8_wishFor_121 : decode cX8_wishFor 121 = .ok (.aload_n 0, 1) := by decide +kernel
theorem dX8_wishFor_122 : decode cX8_wishFor 122 = .ok (.getfield 49, 3) := by decide +kernel
theorem dX8_wishFor_125 : decode cX8_wishFor 125 = .ok (.aload_n 0, 1) := by decide +kernel
theorem dX8_wishFor_126 : decode cX8_wishFor 126 = .ok (.getfield 64, 3) := by decide +kernel
theorem dX8_wishFor_129 : decode cX8_wishFor 129 = .ok (.invokevirtual 269, 3) := by decide +kernel
theorem dX8_wishFor_132 : decode cX8_wishFor 132 = .ok (.ireturn, 1) := by decide +kernel
theorem dX8_wishFor_133 : decode cX8_wishFor 133 = .ok (.aload_n 0, 1) := by decide +kernel
theorem dX8_wishFor_134 : decode cX8_wishFor 134 = .ok (.getfield 49, 3) := by decide +kernel
theorem dX8_wishFor_137 : decode cX8_wishFor 137 = .ok (.aload_n 0, 1) := by decide +kernel
theorem dX8_wishFor_138 : decode cX8_wishFor 138 = .ok (.getfield 64, 3) := by decide +kernel
theorem dX8_wishFor_141 : decode cX8_wishFor 141 = .ok (.invokevirtual 266, 3) := by decide +kernel
theorem dX8_wishFor_144 : decode cX8_wishFor 144 = .ok (.ireturn, 1) := by decide +kernel
set_option maxRecDepth 20000 in
theorem ggX8_openSpurt_X8_wishFor : GoodIn wsX8_openSpurt wsX8_wishFor := goodIn_r _ [8, 9, 10, 3, 11, 12, 13, 14, 15, 16, 17, 18, 19, 20, 21, 22, 23, 24, 25, 26, 27, 28, 29, 30, 31, 32, 33, 34, 35, 36, 37, 38, 39, 40, 41, 42, 43, 44, 45, 46, 47, 48, 49, 50, 51, 52, 53, 54, 55, 56, 57, 58, 59, 60, 61, 62, 63, 64, 65, 66, 67, 68, 69, 70, 71, 72, 73, 74, 75, 76, 77, 78, 79, 80, 81, 82, 83, 84, 85, 86, 87, 88, 89, 90, 91, 92, 93, 94, 95, 96, 97, 98, 99, 100, 101, 102, 103, 104, 105, 106, 107, 108, 109, 110, 111, 112, 113, 114, 115, 116, 117, 118, 119, 120, 121, 122, 123, 124, 125, 126, 127, 128, 129, 130, 131, 132, 133, 134, 135, 136, 137, 138, 139, 140, 141, 142, 143, 144, 145, 172, 173, 174, 175, 176, 177, 178, 179, 180, 181, 182, 183, 184, 185, 186, 187, 188, 189, 190, 191, 192, 193, 194, 195, 196, 197, 198, 199] (by decide +kernel) (by decide +kernel)
set_option maxRecDepth 20000 in
theorem gX8_openSpurt_X8_wishFor : GoodIn wsX8_openSpurt (wsV RX8 168 RX8 yX8_wishFor wsX8_wishFor) := goodIn_app (goodIn_of _ (by decide +kernel)) ggX8_openSpurt_X8_wishFor
set_option maxRecDepth 20000 in
theorem ggX8_openSpurt_X4_timeInTurn : GoodIn wsX8_openSpurt wsX4_timeInTurn := goodIn_r _ [150, 151, 152, 153, 129, 29, 130, 154, 155, 156, 28, 30, 157, 158, 159, 149, 160, 161, 162, 42, 43, 44, 45, 46, 200, 201, 202, 203, 204, 205, 206, 207, 208, 191] (by decide +kernel) (by decide +kernel)
set_option maxRecDepth 20000 in
theorem gX8_openSpurt_X4_timeInTurn : GoodIn wsX8_openSpurt (wsV RX8 272 RX4 yX4_timeInTurn wsX4_timeInTurn) := goodIn_app (goodIn_of _ (by decide +kernel)) ggX8_openSpurt_X4_timeInTurn
set_option maxRecDepth 20000 in
theorem ggX8_openSpurt_X4_add : GoodIn wsX8_openSpurt wsX4_add := goodIn_r _ [166, 154, 151, 161, 155, 152, 167, 168, 169, 170, 157, 158, 159, 149, 160, 162, 42, 43, 44, 45, 46, 171, 48, 49, 50, 200, 201, 202, 203, 204, 205, 206, 207, 208, 191] (by decide +kernel) (by decide +kernel)
set_option maxRecDepth 20000 in
theorem gX8_openSpurt_X4_add : GoodIn wsX8_openSpurt (wsV RX8 276 RX4 yX4_add wsX4_add) := goodIn_app (goodIn_of _ (by decide +kernel)) ggX8_openSpurt_X4_add
theorem dX8_openSpurt_0 : decode cX8_openSpurt 0 = .ok (.aload_n 0, 1) := by decide +kernel
theorem dX8_openSpurt_1 : decode cX8_openSpurt 1 = .ok (.getfield 28, 3) := by decide +kernel
theorem dX8_openSpurt_4 : decode cX8_openSpurt 4 = .ok (.iload_n 1, 1) := by decide +kernel
theorem dX8_openSpurt_5 : decode cX8_openSpurt 5 = .ok (.iload_n 2, 1) := by decide +kernel
theorem dX8_openSpurt_6 : decode cX8_openSpurt 6 = .ok (.aload_n 0, 1) := by decide +kernel
theorem dX8_openSpurt_7 : decode cX8_openSpurt 7 = .ok (.iload_n 1, 1) := by decide +kernel
theorem dX8_openSpurt_8 : decode cX8_openSpurt 8 = .ok (.invokevirtual 168, 3) := by decide +kernel
theorem dX8_openSpurt_11 : decode cX8_openSpurt 11 = .ok (.aload_n 0, 1) := by decide +kernel
theorem dX8_openSpurt_12 : decode cX8_openSpurt 12 = .ok (.getfield 67, 3) := by decide +kernel
theorem dX8_openSpurt_15 : decode cX8_openSpurt 15 = .ok (.iadd, 1) := by decide +kernel
theorem dX8_openSpurt_16 : decode cX8_openSpurt 16 = .ok (.invokevirtual 272, 3) := by decide +kernel
theorem dX8_openSpurt_19 : decode cX8_openSpurt 19 = .ok (.istore_n 3, 1) := by decide +kernel
theorem dX8_openSpurt_20 : decode cX8_openSpurt 20 = .ok (.aload_n 0, 1) := by decide +kernel
theorem dX8_openSpurt_21 : decode cX8_openSpurt 21 = .ok (.getfield 28, 3) := by decide +kernel
theorem dX8_openSpurt_24 : decode cX8_openSpurt 24 = .ok (.iload_n 1, 1) := by decide +kernel
theorem dX8_openSpurt_25 : decode cX8_openSpurt 25 = .ok (.iload_n 2, 1) := by decide +kernel
theorem dX8_openSpurt_26 : decode cX8_openSpurt 26 = .ok (.iload_n 3, 1) := by decide +kernel
theorem dX8_openSpurt_27 : decode cX8_openSpurt 27 = .ok (.aload_n 0, 1) := by decide +kernel
theorem dX8_openSpurt_28 : decode cX8_openSpurt 28 = .ok (.getfield 60, 3) := by decide +kernel
theorem dX8_openSpurt_31 : decode cX8_openSpurt 31 = .ok (.invokevirtual 276, 3) := by decide +kernel
theorem dX8_openSpurt_34 : decode cX8_openSpurt 34 = .ok (.ireturn, 1) := by decide +kernel
set_option maxRecDepth 20000 in
theorem ggX8_settle_X4_timeOf : GoodIn wsX8_settle wsX4_timeOf := goodIn_r _ [7, 8, 9, 10, 11, 12, 13, 14, 55, 56, 57, 58, 59, 60, 61, 62, 63, 64] (by decide +kernel) (by decide +kernel)
set_option maxRecDepth 20000 in
theorem gX8_settle_X4_timeOf : GoodIn wsX8_settle (wsV RX8 147 RX4 yX4_timeOf wsX4_timeOf) := goodIn_app (goodIn_of _ (by decide +kernel)) ggX8_settle_X4_timeOf
set_option maxRecDepth 20000 in
theorem ggX8_settle_X0_settle : GoodIn wsX8_settle wsX0_settle := goodIn_r _ [19, 20, 21, 22, 23, 24, 12, 25, 14, 65, 66, 67, 68, 69, 70, 64] (by decide +kernel) (by decide +kernel)
set_option maxRecDepth 20000 in
theorem gX8_settle_X0_settle : GoodIn wsX8_settle (wsV RX8 278 RX0 yX0_settle wsX0_settle) := goodIn_app (goodIn_of _ (by decide +kernel)) ggX8_settle_X0_settle
set_option maxRecDepth 20000 in
theorem ggX8_settle_X4_countFrame : GoodIn wsX8_settle wsX4_countFrame := goodIn_r _ [29, 30, 31, 32, 33, 34, 35, 36, 37, 38, 39, 12, 40, 41, 10, 11, 13, 14, 42, 23, 24, 25, 9, 43, 55, 56, 57, 58, 59, 60, 61, 62, 63, 64] (by decide +kernel) (by decide +kernel)
set_option maxRecDepth 20000 in
theorem gX8_settle_X4_countFrame : GoodIn wsX8_settle (wsV RX8 280 RX4 yX4_countFrame wsX4_countFrame) := goodIn_app (goodIn_of _ (by decide +kernel)) ggX8_settle_X4_countFrame
theorem dX8_settle_0 : decode cX8_settle 0 = .ok (.bipush 20, 2) := by decide +kernel
theorem dX8_settle_2 : decode cX8_settle 2 = .ok (.iload_n 2, 1) := by decide +kernel
theorem dX8_settle_3 : decode cX8_settle 3 = .ok (.imul, 1) := by decide +kernel
theorem dX8_settle_4 : decode cX8_settle 4 = .ok (.aload_n 0, 1) := by decide +kernel
theorem dX8_settle_5 : decode cX8_settle 5 = .ok (.getfield 28, 3) := by decide +kernel
theorem dX8_settle_8 : decode cX8_settle 8 = .ok (.iload 4, 2) := by decide +kernel
theorem dX8_settle_10 : decode cX8_settle 10 = .ok (.invokevirtual 147, 3) := by decide +kernel
theorem dX8_settle_13 : decode cX8_settle 13 = .ok (.iadd, 1) := by decide +kernel
theorem dX8_settle_14 : decode cX8_settle 14 = .ok (.istore 5, 2) := by decide +kernel
theorem dX8_settle_16 : decode cX8_settle 16 = .ok (.iload_n 3, 1) := by decide +kernel
theorem dX8_settle_17 : decode cX8_settle 17 = .ok (.iload 5, 2) := by decide +kernel
theorem dX8_settle_19 : decode cX8_settle 19 = .ok (.if_icmp .gt 7, 3) := by decide +kernel
theorem dX8_settle_22 : decode cX8_settle 22 = .ok (.iconst 1, 1) := by decide +kernel
theorem dX8_settle_23 : decode cX8_settle 23 = .ok (.goto 4, 3) := by decide +kernel
theorem dX8_settle_26 : decode cX8_settle 26 = .ok (.iconst 0, 1) := by decide +kernel
theorem dX8_settle_27 : decode cX8_settle 27 = .ok (.istore 6, 2) := by decide +kernel
theorem dX8_settle_29 : decode cX8_settle 29 = .ok (.aload_n 0, 1) := by decide +kernel
theorem dX8_settle_30 : decode cX8_settle 30 = .ok (.getfield 21, 3) := by decide +kernel
theorem dX8_settle_33 : decode cX8_settle 33 = .ok (.iload_n 1, 1) := by decide +kernel
theorem dX8_settle_34 : decode cX8_settle 34 = .ok (.iload 4, 2) := by decide +kernel
theorem dX8_settle_36 : decode cX8_settle 36 = .ok (.iload 6, 2) := by decide +kernel
theorem dX8_settle_38 : decode cX8_settle 38 = .ok (.ifCond .eq 8, 3) := by decide +kernel
theorem dX8_settle_41 : decode cX8_settle 41 = .ok (.iload 5, 2) := by decide +kernel
theorem dX8_settle_43 : decode cX8_settle 43 = .ok (.goto 5, 3) := by decide +kernel
theorem dX8_settle_46 : decode cX8_settle 46 = .ok (.bipush (-9), 2) := by decide +kernel
theorem dX8_settle_48 : decode cX8_settle 48 = .ok (.invokevirtual 278, 3) := by decide +kernel
theorem dX8_settle_51 : decode cX8_settle 51 = .ok (.aload_n 0, 1) := by decide +kernel
theorem dX8_settle_52 : decode cX8_settle 52 = .ok (.getfield 28, 3) := by decide +kernel
theorem dX8_settle_55 : decode cX8_settle 55 = .ok (.iload 4, 2) := by decide +kernel
theorem dX8_settle_57 : decode cX8_settle 57 = .ok (.iload_n 2, 1) := by decide +kernel
theorem dX8_settle_58 : decode cX8_settle 58 = .ok (.iload 6, 2) := by decide +kernel
theorem dX8_settle_60 : decode cX8_settle 60 = .ok (.invokevirtual 280, 3) := by decide +kernel
theorem dX8_settle_63 : decode cX8_settle 63 = .ok (.return_, 1) := by decide +kernel
set_option maxRecDepth 20000 in
theorem ggX8_writeOpening_X3_clear : GoodIn wsX8_writeOpening wsX3_clear := goodIn_r _ [7, 8, 114, 115] (by decide +kernel) (by decide +kernel)
set_option maxRecDepth 20000 in
theorem gX8_writeOpening_X3_clear : GoodIn wsX8_writeOpening (wsV RX8 284 RX3 yX3_clear wsX3_clear) := goodIn_app (goodIn_of _ (by decide +kernel)) ggX8_writeOpening_X3_clear
set_option maxRecDepth 20000 in
theorem ggX8_writeOpening_X3_put : GoodIn wsX8_writeOpening wsX3_put := goodIn_r _ [12, 8, 13, 14, 15, 16, 17, 18, 19, 114, 115, 116] (by decide +kernel) (by decide +kernel)
set_option maxRecDepth 20000 in
theorem gX8_writeOpening_X3_put : GoodIn wsX8_writeOpening (wsV RX8 285 RX3 yX3_put wsX3_put) := goodIn_app (goodIn_of _ (by decide +kernel)) ggX8_writeOpening_X3_put
set_option maxRecDepth 20000 in
theorem ggX8_writeOpening_X4_headOf : GoodIn wsX8_writeOpening wsX4_headOf := goodIn_r _ [24, 25, 26, 27, 28, 17, 29, 19, 117, 118, 119, 120, 121, 122, 123, 124, 125, 116] (by decide +kernel) (by decide +kernel)
set_option maxRecDepth 20000 in
theorem gX8_writeOpening_X4_headOf : GoodIn wsX8_writeOpening (wsV RX8 141 RX4 yX4_headOf wsX4_headOf) := goodIn_app (goodIn_of _ (by decide +kernel)) ggX8_writeOpening_X4_headOf
set_option maxRecDepth 20000 in
theorem ggX8_writeOpening_X3_putNumber : GoodIn wsX8_writeOpening wsX3_putNumber := goodIn_r _ [33, 34, 35, 10, 11, 6, 12, 8, 13, 14, 15, 16, 17, 18, 19, 114, 115, 116] (by decide +kernel) (by decide +kernel)
set_option maxRecDepth 20000 in
theorem gX8_writeOpening_X3_putNumber : GoodIn wsX8_writeOpening (wsV RX8 288 RX3 yX3_putNumber wsX3_putNumber) := goodIn_app (goodIn_of _ (by decide +kernel)) ggX8_writeOpening_X3_putNumber
set_option maxRecDepth 20000 in
theorem ggX8_writeOpening_X4_mannerOf : GoodIn wsX8_writeOpening wsX4_mannerOf := goodIn_r _ [39, 40, 26, 27, 28, 17, 29, 19, 117, 118, 119, 120, 121, 122, 123, 124, 125, 116] (by decide +kernel) (by decide +kernel)
set_option maxRecDepth 20000 in
theorem gX8_writeOpening_X4_mannerOf : GoodIn wsX8_writeOpening (wsV RX8 162 RX4 yX4_mannerOf wsX4_mannerOf) := goodIn_app (goodIn_of _ (by decide +kernel)) ggX8_writeOpening_X4_mannerOf
set_option maxRecDepth 20000 in
theorem ggX8_writeOpening_X8_wordOf : GoodIn wsX8_writeOpening wsX8_wordOf := goodIn_r _ [44] (by decide +kernel) (by decide +kernel)
set_option maxRecDepth 20000 in
theorem gX8_writeOpening_X8_wordOf : GoodIn wsX8_writeOpening (va_wsS RX8 214 yX8_wordOf wsX8_wordOf) := goodIn_app (goodIn_of _ (by decide +kernel)) ggX8_writeOpening_X8_wordOf
set_option maxRecDepth 20000 in
theorem ggX8_writeOpening_X3_putWord : GoodIn wsX8_writeOpening wsX3_putWord := goodIn_r _ [48, 49, 50, 51, 52, 53, 54, 55, 56, 57, 58, 59, 60, 61, 62, 63, 64, 65, 66, 67, 68, 69, 70, 71, 72, 73, 74, 75, 76, 77, 78, 79, 80, 81, 82, 83, 84, 85, 86, 87, 88, 89, 90, 91, 92, 93, 94, 95, 96, 97, 35, 10, 11, 6, 12, 8, 13, 14, 15, 16, 17, 18, 19, 114, 115, 116] (by decide +kernel) (by decide +kernel)
set_option maxRecDepth 20000 in
theorem gX8_writeOpening_X3_putWord : GoodIn wsX8_writeOpening (wsV RX8 291 RX3 yX3_putWord wsX3_putWord) := goodIn_app (goodIn_of _ (by decide +kernel)) ggX8_writeOpening_X3_putWord
set_option maxRecDepth 20000 in
theorem ggX8_writeOpening_X4_timeOf : GoodIn wsX8_writeOpening wsX4_timeOf := goodIn_r _ [101, 102, 26, 27, 28, 17, 29, 19, 117, 118, 119, 120, 121, 122, 123, 124, 125, 116] (by decide +kernel) (by decide +kernel)
set_option maxRecDepth 20000 in
theorem gX8_writeOpening_X4_timeOf : GoodIn wsX8_writeOpening (wsV RX8 147 RX4 yX4_timeOf wsX4_timeOf) := goodIn_app (goodIn_of _ (by decide +kernel)) ggX8_writeOpening_X4_timeOf
theorem dX8_writeOpening_0 : decode cX8_writeOpening 0 = .ok (.aload_n 0, 1) := by decide +kernel
theorem dX8_writeOpening_1 : decode cX8_writeOpening 1 = .ok (.getfield 56, 3) := by decide +kernel
theorem dX8_writeOpening_4 : decode cX8_writeOpening 4 = .ok (.invokevirtual 284, 3) := by decide +kernel
theorem dX8_writeOpening_7 : decode cX8_writeOpening 7 = .ok (.aload_n 0, 1) := by decide +kernel
theorem dX8_writeOpening_8 : decode cX8_writeOpening 8 = .ok (.getfield 56, 3) := by decide +kernel
theorem dX8_writeOpening_11 : decode cX8_writeOpening 11 = .ok (.bipush 83, 2) := by decide +kernel
theorem dX8_writeOpening_13 : decode cX8_writeOpening 13 = .ok (.invokevirtual 285, 3) := by decide +kernel
theorem dX8_writeOpening_16 : decode cX8_writeOpening 16 = .ok (.aload_n 0, 1) := by decide +kernel
theorem dX8_writeOpening_17 : decode cX8_writeOpening 17 = .ok (.getfield 56, 3) := by decide +kernel
theorem dX8_writeOpening_20 : decode cX8_writeOpening 20 = .ok (.aload_n 0, 1) := by decide +kernel
theorem dX8_writeOpening_21 : decode cX8_writeOpening 21 = .ok (.getfield 28, 3) := by decide +kernel
theorem dX8_writeOpening_24 : decode cX8_writeOpening 24 = .ok (.iload_n 1, 1) := by decide +kernel
theorem dX8_writeOpening_25 : decode cX8_writeOpening 25 = .ok (.invokevirtual 141, 3) := by decide +kernel
theorem dX8_writeOpening_28 : decode cX8_writeOpening 28 = .ok (.invokevirtual 288, 3) := by decide +kernel
theorem dX8_writeOpening_31 : decode cX8_writeOpening 31 = .ok (.aload_n 0, 1) := by decide +kernel
theorem dX8_writeOpening_32 : decode cX8_writeOpening 32 = .ok (.getfield 56, 3) := by decide +kernel
theorem dX8_writeOpening_35 : decode cX8_writeOpening 35 = .ok (.bipush 32, 2) := by decide +kernel
theorem dX8_writeOpening_37 : decode cX8_writeOpening 37 = .ok (.invokevirtual 285, 3) := by decide +kernel
theorem dX8_writeOpening_40 : decode cX8_writeOpening 40 = .ok (.aload_n 0, 1) := by decide +kernel
theorem dX8_writeOpening_41 : decode cX8_writeOpening 41 = .ok (.getfield 56, 3) := by decide +kernel
theorem dX8_writeOpening_44 : decode cX8_writeOpening 44 = .ok (.aload_n 0, 1) := by decide +kernel
theorem dX8_writeOpening_45 : decode cX8_writeOpening 45 = .ok (.getfield 28, 3) := by decide +kernel
theorem dX8_writeOpening_48 : decode cX8_writeOpening 48 = .ok (.iload_n 1, 1) := by decide +kernel
theorem dX8_writeOpening_49 : decode cX8_writeOpening 49 = .ok (.invokevirtual 162, 3) := by decide +kernel
theorem dX8_writeOpening_52 : decode cX8_writeOpening 52 = .ok (.invokestatic 214, 3) := by decide +kernel
theorem dX8_writeOpening_55 : decode cX8_writeOpening 55 = .ok (.invokevirtual 291, 3) := by decide +kernel
theorem dX8_writeOpening_58 : decode cX8_writeOpening 58 = .ok (.aload_n 0, 1) := by decide +kernel
theorem dX8_writeOpening_59 : decode cX8_writeOpening 59 = .ok (.getfield 56, 3) := by decide +kernel
theorem dX8_writeOpening_62 : decode cX8_writeOpening 62 = .ok (.bipush 32, 2) := by decide +kernel
theorem dX8_writeOpening_64 : decode cX8_writeOpening 64 = .ok (.invokevirtual 285, 3) := by decide +kernel
theorem dX8_writeOpening_67 : decode cX8_writeOpening 67 = .ok (.aload_n 0, 1) := by decide +kernel
theorem dX8_writeOpening_68 : decode cX8_writeOpening 68 = .ok (.getfield 56, 3) := by decide +kernel
theorem dX8_writeOpening_71 : decode cX8_writeOpening 71 = .ok (.bipush 80, 2) := by decide +kernel
theorem dX8_writeOpening_73 : decode cX8_writeOpening 73 = .ok (.invokevirtual 285, 3) := by decide +kernel
theorem dX8_writeOpening_76 : decode cX8_writeOpening 76 = .ok (.aload_n 0, 1) := by decide +kernel
theorem dX8_writeOpening_77 : decode cX8_writeOpening 77 = .ok (.getfield 56, 3) := by decide +kernel
theorem dX8_writeOpening_80 : decode cX8_writeOpening 80 = .ok (.aload_n 0, 1) := by decide +kernel
theorem dX8_writeOpening_81 : decode cX8_writeOpening 81 = .ok (.getfield 28, 3) := by decide +kernel
theorem dX8_writeOpening_84 : decode cX8_writeOpening 84 = .ok (.iload_n 1, 1) := by decide +kernel
theorem dX8_writeOpening_85 : decode cX8_writeOpening 85 = .ok (.invokevirtual 147, 3) := by decide +kernel
theorem dX8_writeOpening_88 : decode cX8_writeOpening 88 = .ok (.invokevirtual 288, 3) := by decide +kernel
end
section
theorem dX8_writeOpening_91 : decode cX8_writeOpening 91 = .ok (.aload_n 0, 1) := by decide +kernel
theorem dX8_writeOpening_92 : decode cX8_writeOpening 92 = .ok (.getfield 56, 3) := by decide +kernel
theorem dX8_writeOpening_95 : decode cX8_writeOpening 95 = .ok (.bipush 32, 2) := by decide +kernel
theorem dX8_writeOpening_97 : decode cX8_writeOpening 97 = .ok (.invokevirtual 285, 3) := by decide +kernel
theorem dX8_writeOpening_100 : decode cX8_writeOpening 100 = .ok (.return_, 1) := by decide +kernel
set_option maxRecDepth 20000 in
theorem ggX8_signOfFrame_X0_placeOf : GoodIn wsX8_signOfFrame wsX0_placeOf := goodIn_r _ [6, 7, 8, 9, 10, 11, 12, 13, 30, 31, 32, 33, 34, 35, 36] (by decide +kernel) (by decide +kernel)
set_option maxRecDepth 20000 in
theorem gX8_signOfFrame_X0_placeOf : GoodIn wsX8_signOfFrame (wsV RX8 128 RX0 yX0_placeOf wsX0_placeOf) := goodIn_app (goodIn_of _ (by decide +kernel)) ggX8_signOfFrame_X0_placeOf
set_option maxRecDepth 20000 in
theorem ggX8_signOfFrame_X0_playedAt : GoodIn wsX8_signOfFrame wsX0_playedAt := goodIn_r _ [17, 18, 8, 9, 10, 11, 12, 13, 30, 31, 32, 33, 34, 35, 36] (by decide +kernel) (by decide +kernel)
set_option maxRecDepth 20000 in
theorem gX8_signOfFrame_X0_playedAt : GoodIn wsX8_signOfFrame (wsV RX8 137 RX0 yX0_playedAt wsX0_playedAt) := goodIn_app (goodIn_of _ (by decide +kernel)) ggX8_signOfFrame_X0_playedAt
theorem dX8_signOfFrame_0 : decode cX8_signOfFrame 0 = .ok (.aload_n 0, 1) := by decide +kernel
theorem dX8_signOfFrame_1 : decode cX8_signOfFrame 1 = .ok (.getfield 21, 3) := by decide +kernel
theorem dX8_signOfFrame_4 : decode cX8_signOfFrame 4 = .ok (.iload_n 1, 1) := by decide +kernel
theorem dX8_signOfFrame_5 : decode cX8_signOfFrame 5 = .ok (.invokevirtual 128, 3) := by decide +kernel
theorem dX8_signOfFrame_8 : decode cX8_signOfFrame 8 = .ok (.istore_n 2, 1) := by decide +kernel
theorem dX8_signOfFrame_9 : decode cX8_signOfFrame 9 = .ok (.iload_n 2, 1) := by decide +kernel
theorem dX8_signOfFrame_10 : decode cX8_signOfFrame 10 = .ok (.iconst (-1), 1) := by decide +kernel
theorem dX8_signOfFrame_11 : decode cX8_signOfFrame 11 = .ok (.if_icmp .ne 6, 3) := by decide +kernel
theorem dX8_signOfFrame_14 : decode cX8_signOfFrame 14 = .ok (.bipush 46, 2) := by decide +kernel
theorem dX8_signOfFrame_16 : decode cX8_signOfFrame 16 = .ok (.ireturn, 1) := by decide +kernel
theorem dX8_signOfFrame_17 : decode cX8_signOfFrame 17 = .ok (.aload_n 0, 1) := by decide +kernel
theorem dX8_signOfFrame_18 : decode cX8_signOfFrame 18 = .ok (.getfield 21, 3) := by decide +kernel
theorem dX8_signOfFrame_21 : decode cX8_signOfFrame 21 = .ok (.iload_n 2, 1) := by decide +kernel
theorem dX8_signOfFrame_22 : decode cX8_signOfFrame 22 = .ok (.invokevirtual 137, 3) := by decide +kernel
theorem dX8_signOfFrame_25 : decode cX8_signOfFrame 25 = .ok (.bipush (-9), 2) := by decide +kernel
theorem dX8_signOfFrame_27 : decode cX8_signOfFrame 27 = .ok (.if_icmp .ne 8, 3) := by decide +kernel
theorem dX8_signOfFrame_30 : decode cX8_signOfFrame 30 = .ok (.bipush 45, 2) := by decide +kernel
theorem dX8_signOfFrame_32 : decode cX8_signOfFrame 32 = .ok (.goto 5, 3) := by decide +kernel
theorem dX8_signOfFrame_35 : decode cX8_signOfFrame 35 = .ok (.bipush 43, 2) := by decide +kernel
theorem dX8_signOfFrame_37 : decode cX8_signOfFrame 37 = .ok (.ireturn, 1) := by decide +kernel
theorem dX9_init_0 : decode cX9_init 0 = .ok (.aload_n 0, 1) := by decide +kernel
theorem dX9_init_1 : decode cX9_init 1 = .ok (.invokespecial 1, 3) := by decide +kernel
theorem dX9_init_4 : decode cX9_init 4 = .ok (.aload_n 0, 1) := by decide +kernel
theorem dX9_init_5 : decode cX9_init 5 = .ok (.bipush 25, 2) := by decide +kernel
theorem dX9_init_7 : decode cX9_init 7 = .ok (.newarray .int, 2) := by decide +kernel
theorem dX9_init_9 : decode cX9_init 9 = .ok (.dup, 1) := by decide +kernel
theorem dX9_init_10 : decode cX9_init 10 = .ok (.iconst 0, 1) := by decide +kernel
theorem dX9_init_11 : decode cX9_init 11 = .ok (.bipush 102, 2) := by decide +kernel
theorem dX9_init_13 : decode cX9_init 13 = .ok (.iastore, 1) := by decide +kernel
theorem dX9_init_14 : decode cX9_init 14 = .ok (.dup, 1) := by decide +kernel
theorem dX9_init_15 : decode cX9_init 15 = .ok (.iconst 1, 1) := by decide +kernel
theorem dX9_init_16 : decode cX9_init 16 = .ok (.bipush 105, 2) := by decide +kernel
theorem dX9_init_18 : decode cX9_init 18 = .ok (.iastore, 1) := by decide +kernel
theorem dX9_init_19 : decode cX9_init 19 = .ok (.dup, 1) := by decide +kernel
theorem dX9_init_20 : decode cX9_init 20 = .ok (.iconst 2, 1) := by decide +kernel
theorem dX9_init_21 : decode cX9_init 21 = .ok (.bipush 120, 2) := by decide +kernel
theorem dX9_init_23 : decode cX9_init 23 = .ok (.iastore, 1) := by decide +kernel
theorem dX9_init_24 : decode cX9_init 24 = .ok (.dup, 1) := by decide +kernel
theorem dX9_init_25 : decode cX9_init 25 = .ok (.iconst 3, 1) := by decide +kernel
theorem dX9_init_26 : decode cX9_init 26 = .ok (.bipush 101, 2) := by decide +kernel
theorem dX9_init_28 : decode cX9_init 28 = .ok (.iastore, 1) := by decide +kernel
theorem dX9_init_29 : decode cX9_init 29 = .ok (.dup, 1) := by decide +kernel
theorem dX9_init_30 : decode cX9_init 30 = .ok (.iconst 4, 1) := by decide +kernel
theorem dX9_init_31 : decode cX9_init 31 = .ok (.bipush 100, 2) := by decide +kernel
theorem dX9_init_33 : decode cX9_init 33 = .ok (.iastore, 1) := by decide +kernel
theorem dX9_init_34 : decode cX9_init 34 = .ok (.dup, 1) := by decide +kernel
theorem dX9_init_35 : decode cX9_init 35 = .ok (.iconst 5, 1) := by decide +kernel
theorem dX9_init_36 : decode cX9_init 36 = .ok (.bipush 115, 2) := by decide +kernel
theorem dX9_init_38 : decode cX9_init 38 = .ok (.iastore, 1) := by decide +kernel
theorem dX9_init_39 : decode cX9_init 39 = .ok (.dup, 1) := by decide +kernel
theorem dX9_init_40 : decode cX9_init 40 = .ok (.bipush 6, 2) := by decide +kernel
theorem dX9_init_42 : decode cX9_init 42 = .ok (.bipush 104, 2) := by decide +kernel
theorem dX9_init_44 : decode cX9_init 44 = .ok (.iastore, 1) := by decide +kernel
theorem dX9_init_45 : decode cX9_init 45 = .ok (.dup, 1) := by decide +kernel
theorem dX9_init_46 : decode cX9_init 46 = .ok (.bipush 7, 2) := by decide +kernel
theorem dX9_init_48 : decode cX9_init 48 = .ok (.bipush 97, 2) := by decide +kernel
theorem dX9_init_50 : decode cX9_init 50 = .ok (.iastore, 1) := by decide +kernel
theorem dX9_init_51 : decode cX9_init 51 = .ok (.dup, 1) := by decide +kernel
theorem dX9_init_52 : decode cX9_init 52 = .ok (.bipush 8, 2) := by decide +kernel
theorem dX9_init_54 : decode cX9_init 54 = .ok (.bipush 114, 2) := by decide +kernel
theorem dX9_init_56 : decode cX9_init 56 = .ok (.iastore, 1) := by decide +kernel
theorem dX9_init_57 : decode cX9_init 57 = .ok (.dup, 1) := by decide +kernel
theorem dX9_init_58 : decode cX9_init 58 = .ok (.bipush 9, 2) := by decide +kernel
theorem dX9_init_60 : decode cX9_init 60 = .ok (.bipush 101, 2) := by decide +kernel
theorem dX9_init_62 : decode cX9_init 62 = .ok (.iastore, 1) := by decide +kernel
theorem dX9_init_63 : decode cX9_init 63 = .ok (.dup, 1) := by decide +kernel
theorem dX9_init_64 : decode cX9_init 64 = .ok (.bipush 10, 2) := by decide +kernel
theorem dX9_init_66 : decode cX9_init 66 = .ok (.bipush 115, 2) := by decide +kernel
theorem dX9_init_68 : decode cX9_init 68 = .ok (.iastore, 1) := by decide +kernel
theorem dX9_init_69 : decode cX9_init 69 = .ok (.dup, 1) := by decide +kernel
theorem dX9_init_70 : decode cX9_init 70 = .ok (.bipush 11, 2) := by decide +kernel
theorem dX9_init_72 : decode cX9_init 72 = .ok (.bipush 112, 2) := by decide +kernel
theorem dX9_init_74 : decode cX9_init 74 = .ok (.iastore, 1) := by decide +kernel
theorem dX9_init_75 : decode cX9_init 75 = .ok (.dup, 1) := by decide +kernel
theorem dX9_init_76 : decode cX9_init 76 = .ok (.bipush 12, 2) := by decide +kernel
theorem dX9_init_78 : decode cX9_init 78 = .ok (.bipush 105, 2) := by decide +kernel
theorem dX9_init_80 : decode cX9_init 80 = .ok (.iastore, 1) := by decide +kernel
theorem dX9_init_81 : decode cX9_init 81 = .ok (.dup, 1) := by decide +kernel
theorem dX9_init_82 : decode cX9_init 82 = .ok (.bipush 13, 2) := by decide +kernel
theorem dX9_init_84 : decode cX9_init 84 = .ok (.bipush 107, 2) := by decide +kernel
theorem dX9_init_86 : decode cX9_init 86 = .ok (.iastore, 1) := by decide +kernel
theorem dX9_init_87 : decode cX9_init 87 = .ok (.dup, 1) := by decide +kernel
theorem dX9_init_88 : decode cX9_init 88 = .ok (.bipush 14, 2) := by decide +kernel
theorem dX9_init_90 : decode cX9_init 90 = .ok (.bipush 101, 2) := by decide +kernel
theorem dX9_init_92 : decode cX9_init 92 = .ok (.iastore, 1) := by decide +kernel
theorem dX9_init_93 : decode cX9_init 93 = .ok (.dup, 1) := by decide +kernel
theorem dX9_init_94 : decode cX9_init 94 = .ok (.bipush 15, 2) := by decide +kernel
theorem dX9_init_96 : decode cX9_init 96 = .ok (.bipush 100, 2) := by decide +kernel
theorem dX9_init_98 : decode cX9_init 98 = .ok (.iastore, 1) := by decide +kernel
theorem dX9_init_99 : decode cX9_init 99 = .ok (.dup, 1) := by decide +kernel
theorem dX9_init_100 : decode cX9_init 100 = .ok (.bipush 16, 2) := by decide +kernel
theorem dX9_init_102 : decode cX9_init 102 = .ok (.bipush 114, 2) := by decide +kernel
theorem dX9_init_104 : decode cX9_init 104 = .ok (.iastore, 1) := by decide +kernel
theorem dX9_init_105 : decode cX9_init 105 = .ok (.dup, 1) := by decide +kernel
theorem dX9_init_106 : decode cX9_init 106 = .ok (.bipush 17, 2) := by decide +kernel
theorem dX9_init_108 : decode cX9_init 108 = .ok (.bipush 105, 2) := by decide +kernel
theorem dX9_init_110 : decode cX9_init 110 = .ok (.iastore, 1) := by decide +kernel
theorem dX9_init_111 : decode cX9_init 111 = .ok (.dup, 1) := by decide +kernel
theorem dX9_init_112 : decode cX9_init 112 = .ok (.bipush 18, 2) := by decide +kernel
theorem dX9_init_114 : decode cX9_init 114 = .ok (.bipush 102, 2) := by decide +kernel
theorem dX9_init_116 : decode cX9_init 116 = .ok (.iastore, 1) := by decide +kernel
theorem dX9_init_117 : decode cX9_init 117 = .ok (.dup, 1) := by decide +kernel
theorem dX9_init_118 : decode cX9_init 118 = .ok (.bipush 19, 2) := by decide +kernel
theorem dX9_init_120 : decode cX9_init 120 = .ok (.bipush 116, 2) := by decide +kernel
theorem dX9_init_122 : decode cX9_init 122 = .ok (.iastore, 1) := by decide +kernel
theorem dX9_init_123 : decode cX9_init 123 = .ok (.dup, 1) := by decide +kernel
theorem dX9_init_124 : decode cX9_init 124 = .ok (.bipush 20, 2) := by decide +kernel
theorem dX9_init_126 : decode cX9_init 126 = .ok (.bipush 109, 2) := by decide +kernel
theorem dX9_init_128 : decode cX9_init 128 = .ok (.iastore, 1) := by decide +kernel
theorem dX9_init_129 : decode cX9_init 129 = .ok (.dup, 1) := by decide +kernel
theorem dX9_init_130 : decode cX9_init 130 = .ok (.bipush 21, 2) := by decide +kernel
theorem dX9_init_132 : decode cX9_init 132 = .ok (.bipush 101, 2) := by decide +kernel
theorem dX9_init_134 : decode cX9_init 134 = .ok (.iastore, 1) := by decide +kernel
theorem dX9_init_135 : decode cX9_init 135 = .ok (.dup, 1) := by decide +kernel
theorem dX9_init_136 : decode cX9_init 136 = .ok (.bipush 22, 2) := by decide +kernel
theorem dX9_init_138 : decode cX9_init 138 = .ok (.bipush 97, 2) := by decide +kernel
theorem dX9_init_140 : decode cX9_init 140 = .ok (.iastore, 1) := by decide +kernel
theorem dX9_init_141 : decode cX9_init 141 = .ok (.dup, 1) := by decide +kernel
theorem dX9_init_142 : decode cX9_init 142 = .ok (.bipush 23, 2) := by decide +kernel
theorem dX9_init_144 : decode cX9_init 144 = .ok (.bipush 110, 2) := by decide +kernel
theorem dX9_init_146 : decode cX9_init 146 = .ok (.iastore, 1) := by decide +kernel
theorem dX9_init_147 : decode cX9_init 147 = .ok (.dup, 1) := by decide +kernel
theorem dX9_init_148 : decode cX9_init 148 = .ok (.bipush 24, 2) := by decide +kernel
theorem dX9_init_150 : decode cX9_init 150 = .ok (.iconst 0, 1) := by decide +kernel
theorem dX9_init_151 : decode cX9_init 151 = .ok (.iastore, 1) := by decide +kernel
theorem dX9_init_152 : decode cX9_init 152 = .ok (.putfield 7, 3) := by decide +kernel
theorem dX9_init_155 : decode cX9_init 155 = .ok (.aload_n 0, 1) := by decide +kernel
theorem dX9_init_156 : decode cX9_init 156 = .ok (.bipush 8, 2) := by decide +kernel
theorem dX9_init_158 : decode cX9_init 158 = .ok (.newarray .int, 2) := by decide +kernel
theorem dX9_init_160 : decode cX9_init 160 = .ok (.putfield 13, 3) := by decide +kernel
theorem dX9_init_163 : decode cX9_init 163 = .ok (.aload_n 0, 1) := by decide +kernel
theorem dX9_init_164 : decode cX9_init 164 = .ok (.bipush 60, 2) := by decide +kernel
theorem dX9_init_166 : decode cX9_init 166 = .ok (.putfield 16, 3) := by decide +kernel
theorem dX9_init_169 : decode cX9_init 169 = .ok (.aload_n 0, 1) := by decide +kernel
theorem dX9_init_170 : decode cX9_init 170 = .ok (.bipush 80, 2) := by decide +kernel
theorem dX9_init_172 : decode cX9_init 172 = .ok (.putfield 20, 3) := by decide +kernel
theorem dX9_init_175 : decode cX9_init 175 = .ok (.aload_n 0, 1) := by decide +kernel
theorem dX9_init_176 : decode cX9_init 176 = .ok (.bipush 120, 2) := by decide +kernel
theorem dX9_init_178 : decode cX9_init 178 = .ok (.newarray .int, 2) := by decide +kernel
theorem dX9_init_180 : decode cX9_init 180 = .ok (.putfield 23, 3) := by decide +kernel
theorem dX9_init_183 : decode cX9_init 183 = .ok (.aload_n 0, 1) := by decide +kernel
theorem dX9_init_184 : decode cX9_init 184 = .ok (.bipush 120, 2) := by decide +kernel
theorem dX9_init_186 : decode cX9_init 186 = .ok (.newarray .int, 2) := by decide +kernel
theorem dX9_init_188 : decode cX9_init 188 = .ok (.putfield 26, 3) := by decide +kernel
theorem dX9_init_191 : decode cX9_init 191 = .ok (.aload_n 0, 1) := by decide +kernel
theorem dX9_init_192 : decode cX9_init 192 = .ok (.bipush 120, 2) := by decide +kernel
theorem dX9_init_194 : decode cX9_init 194 = .ok (.newarray .int, 2) := by decide +kernel
theorem dX9_init_196 : decode cX9_init 196 = .ok (.putfield 29, 3) := by decide +kernel
theorem dX9_init_199 : decode cX9_init 199 = .ok (.aload_n 0, 1) := by decide +kernel
theorem dX9_init_200 : decode cX9_init 200 = .ok (.sipush 300, 3) := by decide +kernel
theorem dX9_init_203 : decode cX9_init 203 = .ok (.newarray .int, 2) := by decide +kernel
theorem dX9_init_205 : decode cX9_init 205 = .ok (.putfield 32, 3) := by decide +kernel
theorem dX9_init_208 : decode cX9_init 208 = .ok (.aload_n 0, 1) := by decide +kernel
theorem dX9_init_209 : decode cX9_init 209 = .ok (.bipush 120, 2) := by decide +kernel
theorem dX9_init_211 : decode cX9_init 211 = .ok (.newarray .int, 2) := by decide +kernel
theorem dX9_init_213 : decode cX9_init 213 = .ok (.putfield 35, 3) := by decide +kernel
theorem dX9_init_216 : decode cX9_init 216 = .ok (.aload_n 0, 1) := by decide +kernel
theorem dX9_init_217 : decode cX9_init 217 = .ok (.bipush 120, 2) := by decide +kernel
theorem dX9_init_219 : decode cX9_init 219 = .ok (.newarray .int, 2) := by decide +kernel
theorem dX9_init_221 : decode cX9_init 221 = .ok (.putfield 38, 3) := by decide +kernel
theorem dX9_init_224 : decode cX9_init 224 = .ok (.aload_n 0, 1) := by decide +kernel
theorem dX9_init_225 : decode cX9_init 225 = .ok (.bipush 120, 2) := by decide +kernel
theorem dX9_init_227 : decode cX9_init 227 = .ok (.newarray .int, 2) := by decide +kernel
theorem dX9_init_229 : decode cX9_init 229 = .ok (.putfield 41, 3) := by decide +kernel
theorem dX9_init_232 : decode cX9_init 232 = .ok (.aload_n 0, 1) := by decide +kernel
theorem dX9_init_233 : decode cX9_init 233 = .ok (.bipush 120, 2) := by decide +kernel
theorem dX9_init_235 : decode cX9_init 235 = .ok (.newarray .int, 2) := by decide +kernel
theorem dX9_init_237 : decode cX9_init 237 = .ok (.putfield 44, 3) := by decide +kernel
theorem dX9_init_240 : decode cX9_init 240 = .ok (.aload_n 0, 1) := by decide +kernel
theorem dX9_init_241 : decode cX9_init 241 = .ok (.bipush 120, 2) := by decide +kernel
theorem dX9_init_243 : decode cX9_init 243 = .ok (.newarray .long, 2) := by decide +kernel
theorem dX9_init_245 : decode cX9_init 245 = .ok (.putfield 47, 3) := by decide +kernel
theorem dX9_init_248 : decode cX9_init 248 = .ok (.aload_n 0, 1) := by decide +kernel
theorem dX9_init_249 : decode cX9_init 249 = .ok (.sipush 400, 3) := by decide +kernel
theorem dX9_init_252 : decode cX9_init 252 = .ok (.newarray .int, 2) := by decide +kernel
theorem dX9_init_254 : decode cX9_init 254 = .ok (.putfield 51, 3) := by decide +kernel
theorem dX9_init_257 : decode cX9_init 257 = .ok (.iconst 0, 1) := by decide +kernel
theorem dX9_init_258 : decode cX9_init 258 = .ok (.istore_n 1, 1) := by decide +kernel
theorem dX9_init_259 : decode cX9_init 259 = .ok (.iload_n 1, 1) := by decide +kernel
theorem dX9_init_260 : decode cX9_init 260 = .ok (.sipush 300, 3) := by decide +kernel
theorem dX9_init_263 : decode cX9_init 263 = .ok (.if_icmp .ge 17, 3) := by decide +kernel
theorem dX9_init_266 : decode cX9_init 266 = .ok (.aload_n 0, 1) := by decide +kernel
theorem dX9_init_267 : decode cX9_init 267 = .ok (.getfield 32, 3) := by decide +kernel
theorem dX9_init_270 : decode cX9_init 270 = .ok (.iload_n 1, 1) := by decide +kernel
theorem dX9_init_271 : decode cX9_init 271 = .ok (.bipush (-9), 2) := by decide +kernel
theorem dX9_init_273 : decode cX9_init 273 = .ok (.iastore, 1) := by decide +kernel
theorem dX9_init_274 : decode cX9_init 274 = .ok (.iinc 1 1, 3) := by decide +kernel
theorem dX9_init_277 : decode cX9_init 277 = .ok (.goto (-18), 3) := by decide +kernel
theorem dX9_init_280 : decode cX9_init 280 = .ok (.return_, 1) := by decide +kernel
theorem dX9_within_0 : decode cX9_within 0 = .ok (.iload_n 0, 1) := by decide +kernel
theorem dX9_within_1 : decode cX9_within 1 = .ok (.iload_n 1, 1) := by decide +kernel
theorem dX9_within_2 : decode cX9_within 2 = .ok (.if_icmp .lt 12, 3) := by decide +kernel
theorem dX9_within_5 : decode cX9_within 5 = .ok (.iload_n 0, 1) := by decide +kernel
theorem dX9_within_6 : decode cX9_within 6 = .ok (.iload_n 2, 1) := by decide +kernel
theorem dX9_within_7 : decode cX9_within 7 = .ok (.if_icmp .gt 7, 3) := by decide +kernel
theorem dX9_within_10 : decode cX9_within 10 = .ok (.iconst 1, 1) := by decide +kernel
theorem dX9_within_11 : decode cX9_within 11 = .ok (.goto 4, 3) := by decide +kernel
theorem dX9_within_14 : decode cX9_within 14 = .ok (.iconst 0, 1) := by decide +kernel
theorem dX9_within_15 : decode cX9_within 15 = .ok (.ireturn, 1) := by decide +kernel
theorem dX9_down_0 : decode cX9_down 0 = .ok (.lload_n 0, 1) := by decide +kernel
theorem dX9_down_1 : decode cX9_down 1 = .ok (.lconst 0, 1) := by decide +kernel
theorem dX9_down_2 : decode cX9_down 2 = .ok (.lcmp, 1) := by decide +kernel
theorem dX9_down_3 : decode cX9_down 3 = .ok (.ifCond .lt 9, 3) := by decide +kernel
theorem dX9_down_6 : decode cX9_down 6 = .ok (.lload_n 0, 1) := by decide +kernel
theorem dX9_down_7 : decode cX9_down 7 = .ok (.lload_n 2, 1) := by decide +kernel
theorem dX9_down_8 : decode cX9_down 8 = .ok (.ldiv, 1) := by decide +kernel
theorem dX9_down_9 : decode cX9_down 9 = .ok (.goto 11, 3) := by decide +kernel
theorem dX9_down_12 : decode cX9_down 12 = .ok (.lload_n 2, 1) := by decide +kernel
theorem dX9_down_13 : decode cX9_down 13 = .ok (.lconst 1, 1) := by decide +kernel
theorem dX9_down_14 : decode cX9_down 14 = .ok (.lsub, 1) := by decide +kernel
theorem dX9_down_15 : decode cX9_down 15 = .ok (.lload_n 0, 1) := by decide +kernel
theorem dX9_down_16 : decode cX9_down 16 = .ok (.lsub, 1) := by decide +kernel
theorem dX9_down_17 : decode cX9_down 17 = .ok (.lload_n 2, 1) := by decide +kernel
theorem dX9_down_18 : decode cX9_down 18 = .ok (.ldiv, 1) := by decide +kernel
theorem dX9_down_19 : decode cX9_down 19 = .ok (.lneg, 1) := by decide +kernel
theorem dX9_down_20 : decode cX9_down 20 = .ok (.lreturn, 1) := by decide +kernel
set_option maxRecDepth 20000 in
theorem ggX9_key_X9_within : GoodIn wsX9_key wsX9_within := goodIn_r _ [6] (by decide +kernel) (by decide +kernel)
set_option maxRecDepth 20000 in
theorem gX9_key_X9_within : GoodIn wsX9_key (va_wsS RX9 54 yX9_within wsX9_within) := goodIn_app (goodIn_of _ (by decide +kernel)) ggX9_key_X9_within
theorem dX9_key_0 : decode cX9_key 0 = .ok (.iload_n 1, 1) := by decide +kernel
theorem dX9_key_1 : decode cX9_key 1 = .ok (.iconst 0, 1) := by decide +kernel
theorem dX9_key_2 : decode cX9_key 2 = .ok (.bipush 127, 2) := by decide +kernel
theorem dX9_key_4 : decode cX9_key 4 = .ok (.invokestatic 54, 3) := by decide +kernel
theorem dX9_key_7 : decode cX9_key 7 = .ok (.ifCond .ne 6, 3) := by decide +kernel
theorem dX9_key_10 : decode cX9_key 10 = .ok (.bipush (-2), 2) := by decide +kernel
theorem dX9_key_12 : decode cX9_key 12 = .ok (.ireturn, 1) := by decide +kernel
theorem dX9_key_13 : decode cX9_key 13 = .ok (.aload_n 0, 1) := by decide +kernel
theorem dX9_key_14 : decode cX9_key 14 = .ok (.getfield 58, 3) := by decide +kernel
theorem dX9_key_17 : decode cX9_key 17 = .ok (.bipush 8, 2) := by decide +kernel
theorem dX9_key_19 : decode cX9_key 19 = .ok (.if_icmp .ne 6, 3) := by decide +kernel
theorem dX9_key_22 : decode cX9_key 22 = .ok (.bipush (-4), 2) := by decide +kernel
theorem dX9_key_24 : decode cX9_key 24 = .ok (.ireturn, 1) := by decide +kernel
theorem dX9_key_25 : decode cX9_key 25 = .ok (.aload_n 0, 1) := by decide +kernel
theorem dX9_key_26 : decode cX9_key 26 = .ok (.getfield 13, 3) := by decide +kernel
theorem dX9_key_29 : decode cX9_key 29 = .ok (.aload_n 0, 1) := by decide +kernel
theorem dX9_key_30 : decode cX9_key 30 = .ok (.getfield 58, 3) := by decide +kernel
theorem dX9_key_33 : decode cX9_key 33 = .ok (.iload_n 1, 1) := by decide +kernel
theorem dX9_key_34 : decode cX9_key 34 = .ok (.iastore, 1) := by decide +kernel
theorem dX9_key_35 : decode cX9_key 35 = .ok (.aload_n 0, 1) := by decide +kernel
theorem dX9_key_36 : decode cX9_key 36 = .ok (.dup, 1) := by decide +kernel
theorem dX9_key_37 : decode cX9_key 37 = .ok (.getfield 58, 3) := by decide +kernel
theorem dX9_key_40 : decode cX9_key 40 = .ok (.iconst 1, 1) := by decide +kernel
theorem dX9_key_41 : decode cX9_key 41 = .ok (.iadd, 1) := by decide +kernel
theorem dX9_key_42 : decode cX9_key 42 = .ok (.putfield 58, 3) := by decide +kernel
theorem dX9_key_45 : decode cX9_key 45 = .ok (.aload_n 0, 1) := by decide +kernel
theorem dX9_key_46 : decode cX9_key 46 = .ok (.getfield 58, 3) := by decide +kernel
theorem dX9_key_49 : decode cX9_key 49 = .ok (.ireturn, 1) := by decide +kernel
theorem dX9_wipe_0 : decode cX9_wipe 0 = .ok (.aload_n 0, 1) := by decide +kernel
theorem dX9_wipe_1 : decode cX9_wipe 1 = .ok (.getfield 58, 3) := by decide +kernel
theorem dX9_wipe_4 : decode cX9_wipe 4 = .ok (.istore_n 1, 1) := by decide +kernel
theorem dX9_wipe_5 : decode cX9_wipe 5 = .ok (.aload_n 0, 1) := by decide +kernel
theorem dX9_wipe_6 : decode cX9_wipe 6 = .ok (.iconst 0, 1) := by decide +kernel
theorem dX9_wipe_7 : decode cX9_wipe 7 = .ok (.putfield 58, 3) := by decide +kernel
theorem dX9_wipe_10 : decode cX9_wipe 10 = .ok (.iload_n 1, 1) := by decide +kernel
theorem dX9_wipe_11 : decode cX9_wipe 11 = .ok (.ireturn, 1) := by decide +kernel
theorem dX9_wordLong_0 : decode cX9_wordLong 0 = .ok (.iload_n 1, 1) := by decide +kernel
theorem dX9_wordLong_1 : decode cX9_wordLong 1 = .ok (.iconst 4, 1) := by decide +kernel
theorem dX9_wordLong_2 : decode cX9_wordLong 2 = .ok (.if_icmp .ne 7, 3) := by decide +kernel
theorem dX9_wordLong_5 : decode cX9_wordLong 5 = .ok (.iconst 4, 1) := by decide +kernel
theorem dX9_wordLong_6 : decode cX9_wordLong 6 = .ok (.goto 4, 3) := by decide +kernel
theorem dX9_wordLong_9 : decode cX9_wordLong 9 = .ok (.iconst 5, 1) := by decide +kernel
theorem dX9_wordLong_10 : decode cX9_wordLong 10 = .ok (.ireturn, 1) := by decide +kernel
set_option maxRecDepth 20000 in
theorem ggX9_told_X9_wordLong : GoodIn wsX9_told wsX9_wordLong := goodIn_r _ [8] (by decide +kernel) (by decide +kernel)
set_option maxRecDepth 20000 in
theorem gX9_told_X9_wordLong : GoodIn wsX9_told (wsV RX9 61 RX9 yX9_wordLong wsX9_wordLong) := goodIn_app (goodIn_of _ (by decide +kernel)) ggX9_told_X9_wordLong
theorem dX9_told_0 : decode cX9_told 0 = .ok (.iconst 0, 1) := by decide +kernel
theorem dX9_told_1 : decode cX9_told 1 = .ok (.istore_n 1, 1) := by decide +kernel
theorem dX9_told_2 : decode cX9_told 2 = .ok (.iload_n 1, 1) := by decide +kernel
theorem dX9_told_3 : decode cX9_told 3 = .ok (.iconst 5, 1) := by decide +kernel
theorem dX9_told_4 : decode cX9_told 4 = .ok (.if_icmp .ge 78, 3) := by decide +kernel
theorem dX9_told_7 : decode cX9_told 7 = .ok (.aload_n 0, 1) := by decide +kernel
theorem dX9_told_8 : decode cX9_told 8 = .ok (.getfield 58, 3) := by decide +kernel
theorem dX9_told_11 : decode cX9_told 11 = .ok (.aload_n 0, 1) := by decide +kernel
theorem dX9_told_12 : decode cX9_told 12 = .ok (.iload_n 1, 1) := by decide +kernel
theorem dX9_told_13 : decode cX9_told 13 = .ok (.invokevirtual 61, 3) := by decide +kernel
theorem dX9_told_16 : decode cX9_told 16 = .ok (.if_icmp .ne 7, 3) := by decide +kernel
theorem dX9_told_19 : decode cX9_told 19 = .ok (.iconst 1, 1) := by decide +kernel
theorem dX9_told_20 : decode cX9_told 20 = .ok (.goto 4, 3) := by decide +kernel
theorem dX9_told_23 : decode cX9_told 23 = .ok (.iconst 0, 1) := by decide +kernel
theorem dX9_told_24 : decode cX9_told 24 = .ok (.istore_n 2, 1) := by decide +kernel
theorem dX9_told_25 : decode cX9_told 25 = .ok (.iconst 0, 1) := by decide +kernel
theorem dX9_told_26 : decode cX9_told 26 = .ok (.istore_n 3, 1) := by decide +kernel
theorem dX9_told_27 : decode cX9_told 27 = .ok (.iload_n 3, 1) := by decide +kernel
theorem dX9_told_28 : decode cX9_told 28 = .ok (.aload_n 0, 1) := by decide +kernel
theorem dX9_told_29 : decode cX9_told 29 = .ok (.getfield 58, 3) := by decide +kernel
theorem dX9_told_32 : decode cX9_told 32 = .ok (.if_icmp .ge 38, 3) := by decide +kernel
theorem dX9_told_35 : decode cX9_told 35 = .ok (.iload_n 2, 1) := by decide +kernel
theorem dX9_told_36 : decode cX9_told 36 = .ok (.ifCond .eq 34, 3) := by decide +kernel
theorem dX9_told_39 : decode cX9_told 39 = .ok (.aload_n 0, 1) := by decide +kernel
theorem dX9_told_40 : decode cX9_told 40 = .ok (.getfield 13, 3) := by decide +kernel
theorem dX9_told_43 : decode cX9_told 43 = .ok (.iload_n 3, 1) := by decide +kernel
theorem dX9_told_44 : decode cX9_told 44 = .ok (.iaload, 1) := by decide +kernel
theorem dX9_told_45 : decode cX9_told 45 = .ok (.aload_n 0, 1) := by decide +kernel
theorem dX9_told_46 : decode cX9_told 46 = .ok (.getfield 7, 3) := by decide +kernel
theorem dX9_told_49 : decode cX9_told 49 = .ok (.iconst 5, 1) := by decide +kernel
theorem dX9_told_50 : decode cX9_told 50 = .ok (.iload_n 1, 1) := by decide +kernel
theorem dX9_told_51 : decode cX9_told 51 = .ok (.imul, 1) := by decide +kernel
theorem dX9_told_52 : decode cX9_told 52 = .ok (.iload_n 3, 1) := by decide +kernel
theorem dX9_told_53 : decode cX9_told 53 = .ok (.iadd, 1) := by decide +kernel
theorem dX9_told_54 : decode cX9_told 54 = .ok (.iaload, 1) := by decide +kernel
theorem dX9_told_55 : decode cX9_told 55 = .ok (.if_icmp .ne 7, 3) := by decide +kernel
theorem dX9_told_58 : decode cX9_told 58 = .ok (.iconst 1, 1) := by decide +kernel
theorem dX9_told_59 : decode cX9_told 59 = .ok (.goto 4, 3) := by decide +kernel
theorem dX9_told_62 : decode cX9_told 62 = .ok (.iconst 0, 1) := by decide +kernel
theorem dX9_told_63 : decode cX9_told 63 = .ok (.istore_n 2, 1) := by decide +kernel
theorem dX9_told_64 : decode cX9_told 64 = .ok (.iinc 3 1, 3) := by decide +kernel
theorem dX9_told_67 : decode cX9_told 67 = .ok (.goto (-40), 3) := by decide +kernel
theorem dX9_told_70 : decode cX9_told 70 = .ok (.iload_n 2, 1) := by decide +kernel
theorem dX9_told_71 : decode cX9_told 71 = .ok (.ifCond .eq 5, 3) := by decide +kernel
theorem dX9_told_74 : decode cX9_told 74 = .ok (.iload_n 1, 1) := by decide +kernel
theorem dX9_told_75 : decode cX9_told 75 = .ok (.ireturn, 1) := by decide +kernel
theorem dX9_told_76 : decode cX9_told 76 = .ok (.iinc 1 1, 3) := by decide +kernel
theorem dX9_told_79 : decode cX9_told 79 = .ok (.goto (-77), 3) := by decide +kernel
theorem dX9_told_82 : decode cX9_told 82 = .ok (.bipush (-9), 2) := by decide +kernel
theorem dX9_told_84 : decode cX9_told 84 = .ok (.ireturn, 1) := by decide +kernel
set_option maxRecDepth 20000 in
theorem ggX9_manner_X9_told : GoodIn wsX9_manner wsX9_told := goodIn_r _ [8, 3, 9, 10, 11, 12, 13, 7, 14, 18, 19, 20, 21, 22, 23, 24, 25, 26, 27, 28, 29, 30, 31, 32, 33, 34, 35, 36, 37, 38, 39, 40, 41, 42, 43, 44, 45] (by decide +kernel) (by decide +kernel)
set_option maxRecDepth 20000 in
theorem gX9_manner_X9_told : GoodIn wsX9_manner (wsV RX9 65 RX9 yX9_told wsX9_told) := goodIn_app (goodIn_of _ (by decide +kernel)) ggX9_manner_X9_told
set_option maxRecDepth 20000 in
theorem ggX9_manner_X9_within : GoodIn wsX9_manner wsX9_within := goodIn_r _ [17] (by decide +kernel) (by decide +kernel)
set_option maxRecDepth 20000 in
theorem gX9_manner_X9_within : GoodIn wsX9_manner (va_wsS RX9 54 yX9_within wsX9_within) := goodIn_app (goodIn_of _ (by decide +kernel)) ggX9_manner_X9_within
theorem dX9_manner_0 : decode cX9_manner 0 = .ok (.aload_n 0, 1) := by decide +kernel
theorem dX9_manner_1 : decode cX9_manner 1 = .ok (.invokevirtual 65, 3) := by decide +kernel
theorem dX9_manner_4 : decode cX9_manner 4 = .ok (.istore_n 2, 1) := by decide +kernel
theorem dX9_manner_5 : decode cX9_manner 5 = .ok (.iload_n 2, 1) := by decide +kernel
theorem dX9_manner_6 : decode cX9_manner 6 = .ok (.bipush (-9), 2) := by decide +kernel
theorem dX9_manner_8 : decode cX9_manner 8 = .ok (.if_icmp .ne 5, 3) := by decide +kernel
theorem dX9_manner_11 : decode cX9_manner 11 = .ok (.iconst (-1), 1) := by decide +kernel
theorem dX9_manner_12 : decode cX9_manner 12 = .ok (.ireturn, 1) := by decide +kernel
theorem dX9_manner_13 : decode cX9_manner 13 = .ok (.iload_n 2, 1) := by decide +kernel
theorem dX9_manner_14 : decode cX9_manner 14 = .ok (.ifCond .ne 9, 3) := by decide +kernel
theorem dX9_manner_17 : decode cX9_manner 17 = .ok (.sipush 2000, 3) := by decide +kernel
theorem dX9_manner_20 : decode cX9_manner 20 = .ok (.goto 16, 3) := by decide +kernel
theorem dX9_manner_23 : decode cX9_manner 23 = .ok (.iload_n 2, 1) := by decide +kernel
theorem dX9_manner_24 : decode cX9_manner 24 = .ok (.iconst 4, 1) := by decide +kernel
theorem dX9_manner_25 : decode cX9_manner 25 = .ok (.if_icmp .ne 8, 3) := by decide +kernel
theorem dX9_manner_28 : decode cX9_manner 28 = .ok (.bipush 8, 2) := by decide +kernel
theorem dX9_manner_30 : decode cX9_manner 30 = .ok (.goto 6, 3) := by decide +kernel
theorem dX9_manner_33 : decode cX9_manner 33 = .ok (.sipush 256, 3) := by decide +kernel
theorem dX9_manner_36 : decode cX9_manner 36 = .ok (.istore_n 3, 1) := by decide +kernel
theorem dX9_manner_37 : decode cX9_manner 37 = .ok (.iload_n 1, 1) := by decide +kernel
theorem dX9_manner_38 : decode cX9_manner 38 = .ok (.iload_n 2, 1) := by decide +kernel
theorem dX9_manner_39 : decode cX9_manner 39 = .ok (.ifCond .ne 9, 3) := by decide +kernel
theorem dX9_manner_42 : decode cX9_manner 42 = .ok (.sipush (-500), 3) := by decide +kernel
theorem dX9_manner_45 : decode cX9_manner 45 = .ok (.goto 4, 3) := by decide +kernel
theorem dX9_manner_48 : decode cX9_manner 48 = .ok (.iconst 0, 1) := by decide +kernel
theorem dX9_manner_49 : decode cX9_manner 49 = .ok (.iload_n 3, 1) := by decide +kernel
theorem dX9_manner_50 : decode cX9_manner 50 = .ok (.invokestatic 54, 3) := by decide +kernel
theorem dX9_manner_53 : decode cX9_manner 53 = .ok (.ifCond .ne 6, 3) := by decide +kernel
theorem dX9_manner_56 : decode cX9_manner 56 = .ok (.bipush (-2), 2) := by decide +kernel
theorem dX9_manner_58 : decode cX9_manner 58 = .ok (.ireturn, 1) := by decide +kernel
theorem dX9_manner_59 : decode cX9_manner 59 = .ok (.aload_n 0, 1) := by decide +kernel
theorem dX9_manner_60 : decode cX9_manner 60 = .ok (.iload_n 2, 1) := by decide +kernel
theorem dX9_manner_61 : decode cX9_manner 61 = .ok (.putfield 69, 3) := by decide +kernel
theorem dX9_manner_64 : decode cX9_manner 64 = .ok (.aload_n 0, 1) := by decide +kernel
theorem dX9_manner_65 : decode cX9_manner 65 = .ok (.iload_n 1, 1) := by decide +kernel
theorem dX9_manner_66 : decode cX9_manner 66 = .ok (.putfield 16, 3) := by decide +kernel
theorem dX9_manner_69 : decode cX9_manner 69 = .ok (.aload_n 0, 1) := by decide +kernel
theorem dX9_manner_70 : decode cX9_manner 70 = .ok (.iconst 0, 1) := by decide +kernel
theorem dX9_manner_71 : decode cX9_manner 71 = .ok (.putfield 58, 3) := by decide +kernel
theorem dX9_manner_74 : decode cX9_manner 74 = .ok (.iload_n 2, 1) := by decide +kernel
theorem dX9_manner_75 : decode cX9_manner 75 = .ok (.ireturn, 1) := by decide +kernel
set_option maxRecDepth 20000 in
theorem ggX9_margin_X9_within : GoodIn wsX9_margin wsX9_within := goodIn_r _ [5] (by decide +kernel) (by decide +kernel)
set_option maxRecDepth 20000 in
theorem gX9_margin_X9_within : GoodIn wsX9_margin (va_wsS RX9 54 yX9_within wsX9_within) := goodIn_app (goodIn_of _ (by decide +kernel)) ggX9_margin_X9_within
theorem dX9_margin_0 : decode cX9_margin 0 = .ok (.iload_n 1, 1) := by decide +kernel
theorem dX9_margin_1 : decode cX9_margin 1 = .ok (.iconst 0, 1) := by decide +kernel
theorem dX9_margin_2 : decode cX9_margin 2 = .ok (.sipush 200, 3) := by decide +kernel
theorem dX9_margin_5 : decode cX9_margin 5 = .ok (.invokestatic 54, 3) := by decide +kernel
theorem dX9_margin_8 : decode cX9_margin 8 = .ok (.ifCond .ne 6, 3) := by decide +kernel
theorem dX9_margin_11 : decode cX9_margin 11 = .ok (.bipush (-2), 2) := by decide +kernel
theorem dX9_margin_13 : decode cX9_margin 13 = .ok (.ireturn, 1) := by decide +kernel
theorem dX9_margin_14 : decode cX9_margin 14 = .ok (.aload_n 0, 1) := by decide +kernel
theorem dX9_margin_15 : decode cX9_margin 15 = .ok (.getfield 72, 3) := by decide +kernel
theorem dX9_margin_18 : decode cX9_margin 18 = .ok (.istore_n 2, 1) := by decide +kernel
theorem dX9_margin_19 : decode cX9_margin 19 = .ok (.aload_n 0, 1) := by decide +kernel
theorem dX9_margin_20 : decode cX9_margin 20 = .ok (.iload_n 1, 1) := by decide +kernel
theorem dX9_margin_21 : decode cX9_margin 21 = .ok (.putfield 72, 3) := by decide +kernel
theorem dX9_margin_24 : decode cX9_margin 24 = .ok (.iload_n 2, 1) := by decide +kernel
theorem dX9_margin_25 : decode cX9_margin 25 = .ok (.ireturn, 1) := by decide +kernel
set_option maxRecDepth 20000 in
theorem ggX9_jump_X9_within : GoodIn wsX9_jump wsX9_within := goodIn_r _ [5] (by decide +kernel) (by decide +kernel)
set_option maxRecDepth 20000 in
theorem gX9_jump_X9_within : GoodIn wsX9_jump (va_wsS RX9 54 yX9_within wsX9_within) := goodIn_app (goodIn_of _ (by decide +kernel)) ggX9_jump_X9_within
theorem dX9_jump_0 : decode cX9_jump 0 = .ok (.iload_n 1, 1) := by decide +kernel
theorem dX9_jump_1 : decode cX9_jump 1 = .ok (.bipush 10, 2) := by decide +kernel
theorem dX9_jump_3 : decode cX9_jump 3 = .ok (.sipush 1000, 3) := by decide +kernel
theorem dX9_jump_6 : decode cX9_jump 6 = .ok (.invokestatic 54, 3) := by decide +kernel
theorem dX9_jump_9 : decode cX9_jump 9 = .ok (.ifCond .ne 6, 3) := by decide +kernel
theorem dX9_jump_12 : decode cX9_jump 12 = .ok (.bipush (-2), 2) := by decide +kernel
theorem dX9_jump_14 : decode cX9_jump 14 = .ok (.ireturn, 1) := by decide +kernel
theorem dX9_jump_15 : decode cX9_jump 15 = .ok (.aload_n 0, 1) := by decide +kernel
theorem dX9_jump_16 : decode cX9_jump 16 = .ok (.getfield 20, 3) := by decide +kernel
theorem dX9_jump_19 : decode cX9_jump 19 = .ok (.istore_n 2, 1) := by decide +kernel
theorem dX9_jump_20 : decode cX9_jump 20 = .ok (.aload_n 0, 1) := by decide +kernel
theorem dX9_jump_21 : decode cX9_jump 21 = .ok (.iload_n 1, 1) := by decide +kernel
theorem dX9_jump_22 : decode cX9_jump 22 = .ok (.putfield 20, 3) := by decide +kernel
theorem dX9_jump_25 : decode cX9_jump 25 = .ok (.iload_n 2, 1) := by decide +kernel
theorem dX9_jump_26 : decode cX9_jump 26 = .ok (.ireturn, 1) := by decide +kernel
theorem dX9_delay_0 : decode cX9_delay 0 = .ok (.aload_n 0, 1) := by decide +kernel
theorem dX9_delay_1 : decode cX9_delay 1 = .ok (.getfield 26, 3) := by decide +kernel
theorem dX9_delay_4 : decode cX9_delay 4 = .ok (.iload_n 1, 1) := by decide +kernel
theorem dX9_delay_5 : decode cX9_delay 5 = .ok (.iaload, 1) := by decide +kernel
theorem dX9_delay_6 : decode cX9_delay 6 = .ok (.bipush 20, 2) := by decide +kernel
theorem dX9_delay_8 : decode cX9_delay 8 = .ok (.aload_n 0, 1) := by decide +kernel
theorem dX9_delay_9 : decode cX9_delay 9 = .ok (.getfield 23, 3) := by decide +kernel
theorem dX9_delay_12 : decode cX9_delay 12 = .ok (.iload_n 1, 1) := by decide +kernel
theorem dX9_delay_13 : decode cX9_delay 13 = .ok (.iaload, 1) := by decide +kernel
theorem dX9_delay_14 : decode cX9_delay 14 = .ok (.imul, 1) := by decide +kernel
theorem dX9_delay_15 : decode cX9_delay 15 = .ok (.isub, 1) := by decide +kernel
theorem dX9_delay_16 : decode cX9_delay 16 = .ok (.ireturn, 1) := by decide +kernel
theorem dX9_spurtBy_0 : decode cX9_spurtBy 0 = .ok (.iconst 0, 1) := by decide +kernel
theorem dX9_spurtBy_1 : decode cX9_spurtBy 1 = .ok (.istore_n 2, 1) := by decide +kernel
theorem dX9_spurtBy_2 : decode cX9_spurtBy 2 = .ok (.iload_n 2, 1) := by decide +kernel
theorem dX9_spurtBy_3 : decode cX9_spurtBy 3 = .ok (.aload_n 0, 1) := by decide +kernel
theorem dX9_spurtBy_4 : decode cX9_spurtBy 4 = .ok (.getfield 75, 3) := by decide +kernel
theorem dX9_spurtBy_7 : decode cX9_spurtBy 7 = .ok (.if_icmp .ge 21, 3) := by decide +kernel
theorem dX9_spurtBy_10 : decode cX9_spurtBy 10 = .ok (.aload_n 0, 1) := by decide +kernel
theorem dX9_spurtBy_11 : decode cX9_spurtBy 11 = .ok (.getfield 35, 3) := by decide +kernel
theorem dX9_spurtBy_14 : decode cX9_spurtBy 14 = .ok (.iload_n 2, 1) := by decide +kernel
theorem dX9_spurtBy_15 : decode cX9_spurtBy 15 = .ok (.iaload, 1) := by decide +kernel
theorem dX9_spurtBy_16 : decode cX9_spurtBy 16 = .ok (.iload_n 1, 1) := by decide +kernel
theorem dX9_spurtBy_17 : decode cX9_spurtBy 17 = .ok (.if_icmp .ne 5, 3) := by decide +kernel
theorem dX9_spurtBy_20 : decode cX9_spurtBy 20 = .ok (.iload_n 2, 1) := by decide +kernel
theorem dX9_spurtBy_21 : decode cX9_spurtBy 21 = .ok (.ireturn, 1) := by decide +kernel
theorem dX9_spurtBy_22 : decode cX9_spurtBy 22 = .ok (.iinc 2 1, 3) := by decide +kernel
theorem dX9_spurtBy_25 : decode cX9_spurtBy 25 = .ok (.goto (-23), 3) := by decide +kernel
theorem dX9_spurtBy_28 : decode cX9_spurtBy 28 = .ok (.bipush (-9), 2) := by decide +kernel
theorem dX9_spurtBy_30 : decode cX9_spurtBy 30 = .ok (.ireturn, 1) := by decide +kernel
theorem dX9_isInTheWay_0 : decode cX9_isInTheWay 0 = .ok (.aload_n 0, 1) := by decide +kernel
theorem dX9_isInTheWay_1 : decode cX9_isInTheWay 1 = .ok (.getfield 35, 3) := by decide +kernel
theorem dX9_isInTheWay_4 : decode cX9_isInTheWay 4 = .ok (.iload_n 1, 1) := by decide +kernel
theorem dX9_isInTheWay_5 : decode cX9_isInTheWay 5 = .ok (.iaload, 1) := by decide +kernel
theorem dX9_isInTheWay_6 : decode cX9_isInTheWay 6 = .ok (.iload_n 3, 1) := by decide +kernel
theorem dX9_isInTheWay_7 : decode cX9_isInTheWay 7 = .ok (.if_icmp .le 26, 3) := by decide +kernel
theorem dX9_isInTheWay_10 : decode cX9_isInTheWay 10 = .ok (.iload_n 2, 1) := by decide +kernel
theorem dX9_isInTheWay_11 : decode cX9_isInTheWay 11 = .ok (.aload_n 0, 1) := by decide +kernel
theorem dX9_isInTheWay_12 : decode cX9_isInTheWay 12 = .ok (.getfield 35, 3) := by decide +kernel
theorem dX9_isInTheWay_15 : decode cX9_isInTheWay 15 = .ok (.iload_n 1, 1) := by decide +kernel
theorem dX9_isInTheWay_16 : decode cX9_isInTheWay 16 = .ok (.iaload, 1) := by decide +kernel
theorem dX9_isInTheWay_17 : decode cX9_isInTheWay 17 = .ok (.aload_n 0, 1) := by decide +kernel
theorem dX9_isInTheWay_18 : decode cX9_isInTheWay 18 = .ok (.getfield 38, 3) := by decide +kernel
theorem dX9_isInTheWay_21 : decode cX9_isInTheWay 21 = .ok (.iload_n 1, 1) := by decide +kernel
theorem dX9_isInTheWay_22 : decode cX9_isInTheWay 22 = .ok (.iaload, 1) := by decide +kernel
theorem dX9_isInTheWay_23 : decode cX9_isInTheWay 23 = .ok (.isub, 1) := by decide +kernel
theorem dX9_isInTheWay_24 : decode cX9_isInTheWay 24 = .ok (.if_icmp .lt 7, 3) := by decide +kernel
theorem dX9_isInTheWay_27 : decode cX9_isInTheWay 27 = .ok (.iconst 1, 1) := by decide +kernel
theorem dX9_isInTheWay_28 : decode cX9_isInTheWay 28 = .ok (.goto 4, 3) := by decide +kernel
theorem dX9_isInTheWay_31 : decode cX9_isInTheWay 31 = .ok (.iconst 0, 1) := by decide +kernel
theorem dX9_isInTheWay_32 : decode cX9_isInTheWay 32 = .ok (.ireturn, 1) := by decide +kernel
theorem dX9_isInTheWay_33 : decode cX9_isInTheWay 33 = .ok (.iconst 0, 1) := by decide +kernel
theorem dX9_isInTheWay_34 : decode cX9_isInTheWay 34 = .ok (.istore 5, 2) := by decide +kernel
theorem dX9_isInTheWay_36 : decode cX9_isInTheWay 36 = .ok (.iload 5, 2) := by decide +kernel
theorem dX9_isInTheWay_38 : decode cX9_isInTheWay 38 = .ok (.aload_n 0, 1) := by decide +kernel
theorem dX9_isInTheWay_39 : decode cX9_isInTheWay 39 = .ok (.getfield 78, 3) := by decide +kernel
theorem dX9_isInTheWay_42 : decode cX9_isInTheWay 42 = .ok (.if_icmp .ge 50, 3) := by decide +kernel
theorem dX9_isInTheWay_45 : decode cX9_isInTheWay 45 = .ok (.aload_n 0, 1) := by decide +kernel
theorem dX9_isInTheWay_46 : decode cX9_isInTheWay 46 = .ok (.getfield 29, 3) := by decide +kernel
theorem dX9_isInTheWay_49 : decode cX9_isInTheWay 49 = .ok (.iload 5, 2) := by decide +kernel
theorem dX9_isInTheWay_51 : decode cX9_isInTheWay 51 = .ok (.iaload, 1) := by decide +kernel
theorem dX9_isInTheWay_52 : decode cX9_isInTheWay 52 = .ok (.iload_n 1, 1) := by decide +kernel
theorem dX9_isInTheWay_53 : decode cX9_isInTheWay 53 = .ok (.if_icmp .ne 33, 3) := by decide +kernel
theorem dX9_isInTheWay_56 : decode cX9_isInTheWay 56 = .ok (.aload_n 0, 1) := by decide +kernel
theorem dX9_isInTheWay_57 : decode cX9_isInTheWay 57 = .ok (.getfield 23, 3) := by decide +kernel
theorem dX9_isInTheWay_60 : decode cX9_isInTheWay 60 = .ok (.iload 5, 2) := by decide +kernel
theorem dX9_isInTheWay_62 : decode cX9_isInTheWay 62 = .ok (.iaload, 1) := by decide +kernel
theorem dX9_isInTheWay_63 : decode cX9_isInTheWay 63 = .ok (.iload_n 3, 1) := by decide +kernel
theorem dX9_isInTheWay_64 : decode cX9_isInTheWay 64 = .ok (.iload 4, 2) := by decide +kernel
theorem dX9_isInTheWay_66 : decode cX9_isInTheWay 66 = .ok (.isub, 1) := by decide +kernel
theorem dX9_isInTheWay_67 : decode cX9_isInTheWay 67 = .ok (.if_icmp .lt 19, 3) := by decide +kernel
theorem dX9_isInTheWay_70 : decode cX9_isInTheWay 70 = .ok (.aload_n 0, 1) := by decide +kernel
theorem dX9_isInTheWay_71 : decode cX9_isInTheWay 71 = .ok (.getfield 35, 3) := by decide +kernel
theorem dX9_isInTheWay_74 : decode cX9_isInTheWay 74 = .ok (.iload_n 1, 1) := by decide +kernel
theorem dX9_isInTheWay_75 : decode cX9_isInTheWay 75 = .ok (.iaload, 1) := by decide +kernel
theorem dX9_isInTheWay_76 : decode cX9_isInTheWay 76 = .ok (.iload_n 3, 1) := by decide +kernel
theorem dX9_isInTheWay_77 : decode cX9_isInTheWay 77 = .ok (.if_icmp .ge 7, 3) := by decide +kernel
theorem dX9_isInTheWay_80 : decode cX9_isInTheWay 80 = .ok (.iconst 1, 1) := by decide +kernel
theorem dX9_isInTheWay_81 : decode cX9_isInTheWay 81 = .ok (.goto 4, 3) := by decide +kernel
theorem dX9_isInTheWay_84 : decode cX9_isInTheWay 84 = .ok (.iconst 0, 1) := by decide +kernel
theorem dX9_isInTheWay_85 : decode cX9_isInTheWay 85 = .ok (.ireturn, 1) := by decide +kernel
theorem dX9_isInTheWay_86 : decode cX9_isInTheWay 86 = .ok (.iinc 5 1, 3) := by decide +kernel
theorem dX9_isInTheWay_89 : decode cX9_isInTheWay 89 = .ok (.goto (-53), 3) := by decide +kernel
theorem dX9_isInTheWay_92 : decode cX9_isInTheWay 92 = .ok (.iconst 0, 1) := by decide +kernel
theorem dX9_isInTheWay_93 : decode cX9_isInTheWay 93 = .ok (.ireturn, 1) := by decide +kernel
set_option maxRecDepth 20000 in
theorem ggX9_isShut_X9_spurtBy : GoodIn wsX9_isShut wsX9_spurtBy := goodIn_r _ [10, 5, 11, 18, 19, 20, 21, 22, 23, 24, 25, 26, 27, 28, 29, 30, 31, 32, 33, 34, 35, 36, 37, 38, 39, 40, 41, 42, 43, 44, 45] (by decide +kernel) (by decide +kernel)
set_option maxRecDepth 20000 in
theorem gX9_isShut_X9_spurtBy : GoodIn wsX9_isShut (wsV RX9 81 RX9 yX9_spurtBy wsX9_spurtBy) := goodIn_app (goodIn_of _ (by decide +kernel)) ggX9_isShut_X9_spurtBy
set_option maxRecDepth 20000 in
theorem ggX9_isShut_X9_isInTheWay : GoodIn wsX9_isShut wsX9_isInTheWay := goodIn_r _ [15, 11, 4, 1, 16, 17, 18, 19, 20, 21, 22, 23, 24, 25, 26, 27, 28, 29, 30, 31, 32, 33, 34, 35, 36, 37, 38, 39, 40, 41, 42, 43, 44, 45] (by decide +kernel) (by decide +kernel)
set_option maxRecDepth 20000 in
theorem gX9_isShut_X9_isInTheWay : GoodIn wsX9_isShut (wsV RX9 84 RX9 yX9_isInTheWay wsX9_isInTheWay) := goodIn_app (goodIn_of _ (by decide +kernel)) ggX9_isShut_X9_isInTheWay
theorem dX9_isShut_0 : decode cX9_isShut 0 = .ok (.aload_n 0, 1) := by decide +kernel
theorem dX9_isShut_1 : decode cX9_isShut 1 = .ok (.getfield 78, 3) := by decide +kernel
theorem dX9_isShut_4 : decode cX9_isShut 4 = .ok (.ifCond .le 19, 3) := by decide +kernel
theorem dX9_isShut_7 : decode cX9_isShut 7 = .ok (.iload 4, 2) := by decide +kernel
theorem dX9_isShut_9 : decode cX9_isShut 9 = .ok (.aload_n 0, 1) := by decide +kernel
theorem dX9_isShut_10 : decode cX9_isShut 10 = .ok (.getfield 26, 3) := by decide +kernel
theorem dX9_isShut_13 : decode cX9_isShut 13 = .ok (.aload_n 0, 1) := by decide +kernel
theorem dX9_isShut_14 : decode cX9_isShut 14 = .ok (.getfield 78, 3) := by decide +kernel
theorem dX9_isShut_17 : decode cX9_isShut 17 = .ok (.iconst 1, 1) := by decide +kernel
theorem dX9_isShut_18 : decode cX9_isShut 18 = .ok (.isub, 1) := by decide +kernel
theorem dX9_isShut_19 : decode cX9_isShut 19 = .ok (.iaload, 1) := by decide +kernel
theorem dX9_isShut_20 : decode cX9_isShut 20 = .ok (.if_icmp .lt 14, 3) := by decide +kernel
theorem dX9_isShut_23 : decode cX9_isShut 23 = .ok (.aload_n 0, 1) := by decide +kernel
theorem dX9_isShut_24 : decode cX9_isShut 24 = .ok (.getfield 32, 3) := by decide +kernel
theorem dX9_isShut_27 : decode cX9_isShut 27 = .ok (.iload_n 1, 1) := by decide +kernel
theorem dX9_isShut_28 : decode cX9_isShut 28 = .ok (.iaload, 1) := by decide +kernel
theorem dX9_isShut_29 : decode cX9_isShut 29 = .ok (.bipush (-9), 2) := by decide +kernel
theorem dX9_isShut_31 : decode cX9_isShut 31 = .ok (.if_icmp .eq 5, 3) := by decide +kernel
theorem dX9_isShut_34 : decode cX9_isShut 34 = .ok (.iconst 1, 1) := by decide +kernel
theorem dX9_isShut_35 : decode cX9_isShut 35 = .ok (.ireturn, 1) := by decide +kernel
theorem dX9_isShut_36 : decode cX9_isShut 36 = .ok (.aload_n 0, 1) := by decide +kernel
theorem dX9_isShut_37 : decode cX9_isShut 37 = .ok (.iload_n 2, 1) := by decide +kernel
theorem dX9_isShut_38 : decode cX9_isShut 38 = .ok (.invokevirtual 81, 3) := by decide +kernel
theorem dX9_isShut_41 : decode cX9_isShut 41 = .ok (.istore 5, 2) := by decide +kernel
theorem dX9_isShut_43 : decode cX9_isShut 43 = .ok (.iload 5, 2) := by decide +kernel
theorem dX9_isShut_45 : decode cX9_isShut 45 = .ok (.bipush (-9), 2) := by decide +kernel
theorem dX9_isShut_47 : decode cX9_isShut 47 = .ok (.if_icmp .eq 18, 3) := by decide +kernel
theorem dX9_isShut_50 : decode cX9_isShut 50 = .ok (.aload_n 0, 1) := by decide +kernel
theorem dX9_isShut_51 : decode cX9_isShut 51 = .ok (.getfield 38, 3) := by decide +kernel
theorem dX9_isShut_54 : decode cX9_isShut 54 = .ok (.iload 5, 2) := by decide +kernel
theorem dX9_isShut_56 : decode cX9_isShut 56 = .ok (.iaload, 1) := by decide +kernel
theorem dX9_isShut_57 : decode cX9_isShut 57 = .ok (.iload_n 3, 1) := by decide +kernel
theorem dX9_isShut_58 : decode cX9_isShut 58 = .ok (.if_icmp .eq 7, 3) := by decide +kernel
theorem dX9_isShut_61 : decode cX9_isShut 61 = .ok (.iconst 1, 1) := by decide +kernel
theorem dX9_isShut_62 : decode cX9_isShut 62 = .ok (.goto 4, 3) := by decide +kernel
theorem dX9_isShut_65 : decode cX9_isShut 65 = .ok (.iconst 0, 1) := by decide +kernel
theorem dX9_isShut_66 : decode cX9_isShut 66 = .ok (.istore 6, 2) := by decide +kernel
theorem dX9_isShut_68 : decode cX9_isShut 68 = .ok (.iconst 0, 1) := by decide +kernel
theorem dX9_isShut_69 : decode cX9_isShut 69 = .ok (.istore 7, 2) := by decide +kernel
theorem dX9_isShut_71 : decode cX9_isShut 71 = .ok (.iload 7, 2) := by decide +kernel
theorem dX9_isShut_73 : decode cX9_isShut 73 = .ok (.aload_n 0, 1) := by decide +kernel
theorem dX9_isShut_74 : decode cX9_isShut 74 = .ok (.getfield 75, 3) := by decide +kernel
theorem dX9_isShut_77 : decode cX9_isShut 77 = .ok (.if_icmp .ge 40, 3) := by decide +kernel
theorem dX9_isShut_80 : decode cX9_isShut 80 = .ok (.iload 6, 2) := by decide +kernel
theorem dX9_isShut_82 : decode cX9_isShut 82 = .ok (.ifCond .ne 22, 3) := by decide +kernel
theorem dX9_isShut_85 : decode cX9_isShut 85 = .ok (.iload 7, 2) := by decide +kernel
theorem dX9_isShut_87 : decode cX9_isShut 87 = .ok (.iload 5, 2) := by decide +kernel
theorem dX9_isShut_89 : decode cX9_isShut 89 = .ok (.if_icmp .eq 19, 3) := by decide +kernel
theorem dX9_isShut_92 : decode cX9_isShut 92 = .ok (.aload_n 0, 1) := by decide +kernel
theorem dX9_isShut_93 : decode cX9_isShut 93 = .ok (.iload 7, 2) := by decide +kernel
theorem dX9_isShut_95 : decode cX9_isShut 95 = .ok (.iload_n 1, 1) := by decide +kernel
theorem dX9_isShut_96 : decode cX9_isShut 96 = .ok (.iload_n 2, 1) := by decide +kernel
theorem dX9_isShut_97 : decode cX9_isShut 97 = .ok (.iload_n 3, 1) := by decide +kernel
theorem dX9_isShut_98 : decode cX9_isShut 98 = .ok (.invokevirtual 84, 3) := by decide +kernel
theorem dX9_isShut_101 : decode cX9_isShut 101 = .ok (.ifCond .eq 7, 3) := by decide +kernel
theorem dX9_isShut_104 : decode cX9_isShut 104 = .ok (.iconst 1, 1) := by decide +kernel
theorem dX9_isShut_105 : decode cX9_isShut 105 = .ok (.goto 4, 3) := by decide +kernel
theorem dX9_isShut_108 : decode cX9_isShut 108 = .ok (.iconst 0, 1) := by decide +kernel
theorem dX9_isShut_109 : decode cX9_isShut 109 = .ok (.istore 6, 2) := by decide +kernel
theorem dX9_isShut_111 : decode cX9_isShut 111 = .ok (.iinc 7 1, 3) := by decide +kernel
theorem dX9_isShut_114 : decode cX9_isShut 114 = .ok (.goto (-43), 3) := by decide +kernel
theorem dX9_isShut_117 : decode cX9_isShut 117 = .ok (.iload 6, 2) := by decide +kernel
theorem dX9_isShut_119 : decode cX9_isShut 119 = .ok (.ireturn, 1) := by decide +kernel
set_option maxRecDepth 20000 in
theorem ggX9_arrive_X9_within : GoodIn wsX9_arrive wsX9_within := goodIn_r _ [15] (by decide +kernel) (by decide +kernel)
set_option maxRecDepth 20000 in
theorem gX9_arrive_X9_within : GoodIn wsX9_arrive (va_wsS RX9 54 yX9_within wsX9_within) := goodIn_app (goodIn_of _ (by decide +kernel)) ggX9_arrive_X9_within
set_option maxRecDepth 20000 in
theorem ggX9_arrive_X9_isShut : GoodIn wsX9_arrive wsX9_isShut := goodIn_r _ [19, 1, 3, 4, 7, 5, 20, 21, 22, 14, 23, 6, 24, 25, 26, 27, 11, 2, 84, 85, 86, 87, 88, 89, 90, 91, 92, 93, 94, 95, 96, 97, 98, 99, 100, 101, 102, 103, 104, 105, 106, 107, 108, 109, 110, 111] (by decide +kernel) (by decide +kernel)
set_option maxRecDepth 20000 in
theorem gX9_arrive_X9_isShut : GoodIn wsX9_arrive (wsV RX9 88 RX9 yX9_isShut wsX9_isShut) := goodIn_app (goodIn_of _ (by decide +kernel)) ggX9_arrive_X9_isShut
set_option maxRecDepth 20000 in
theorem ggX9_arrive_X9_spikesBy : GoodIn wsX9_arrive wsX9_spikesBy := goodIn_r _ [31, 32, 33, 34, 35, 36, 37, 38, 14, 39, 3, 2, 84, 85, 86, 87, 88, 89, 90, 91, 92, 93, 94, 95, 96, 97, 98, 99, 100, 101, 102, 103, 104, 105, 106, 107, 108, 109, 110, 111] (by decide +kernel) (by decide +kernel)
set_option maxRecDepth 20000 in
theorem gX9_arrive_X9_spikesBy : GoodIn wsX9_arrive (wsV RX9 91 RX9 yX9_spikesBy wsX9_spikesBy) := goodIn_app (goodIn_of _ (by decide +kernel)) ggX9_arrive_X9_spikesBy
set_option maxRecDepth 20000 in
theorem ggX9_arrive_X9_spurtBy : GoodIn wsX9_arrive wsX9_spurtBy := goodIn_r _ [23, 5, 6, 84, 85, 86, 87, 88, 89, 90, 91, 92, 93, 94, 95, 96, 97, 98, 99, 100, 101, 102, 103, 104, 105, 106, 107, 108, 109, 110, 111] (by decide +kernel) (by decide +kernel)
set_option maxRecDepth 20000 in
theorem gX9_arrive_X9_spurtBy : GoodIn wsX9_arrive (wsV RX9 81 RX9 yX9_spurtBy wsX9_spurtBy) := goodIn_app (goodIn_of _ (by decide +kernel)) ggX9_arrive_X9_spurtBy
set_option maxRecDepth 20000 in
theorem ggX9_arrive_X9_timeFor : GoodIn wsX9_arrive wsX9_timeFor := goodIn_r _ [43, 44, 10, 7, 45, 46, 47, 14, 48, 9, 1, 49, 2, 50, 51, 52, 32, 53, 54, 55, 56, 57, 58, 59, 60, 36, 37, 38, 39, 3, 61, 62, 63, 64, 65, 66, 67, 68, 69, 70, 71, 72, 73, 74, 75, 76, 77, 78, 79, 80, 81, 82, 83, 5, 6, 84, 85, 86, 87, 88, 89, 90, 91, 92, 93, 94, 95, 96, 97, 98, 99, 100, 101, 102, 103, 104, 105, 106, 107, 108, 109, 110, 111] (by decide +kernel) (by decide +kernel)
set_option maxRecDepth 20000 in
theorem gX9_arrive_X9_timeFor : GoodIn wsX9_arrive (wsV RX9 95 RX9 yX9_timeFor wsX9_timeFor) := goodIn_app (goodIn_of _ (by decide +kernel)) ggX9_arrive_X9_timeFor
theorem dX9_arrive_0 : decode cX9_arrive 0 = .ok (.iload_n 1, 1) := by decide +kernel
theorem dX9_arrive_1 : decode cX9_arrive 1 = .ok (.iconst 0, 1) := by decide +kernel
theorem dX9_arrive_2 : decode cX9_arrive 2 = .ok (.sipush 299, 3) := by decide +kernel
theorem dX9_arrive_5 : decode cX9_arrive 5 = .ok (.invokestatic 54, 3) := by decide +kernel
theorem dX9_arrive_8 : decode cX9_arrive 8 = .ok (.ifCond .eq 33, 3) := by decide +kernel
theorem dX9_arrive_11 : decode cX9_arrive 11 = .ok (.iload_n 2, 1) := by decide +kernel
theorem dX9_arrive_12 : decode cX9_arrive 12 = .ok (.iconst 0, 1) := by decide +kernel
theorem dX9_arrive_13 : decode cX9_arrive 13 = .ok (.iload_n 1, 1) := by decide +kernel
theorem dX9_arrive_14 : decode cX9_arrive 14 = .ok (.invokestatic 54, 3) := by decide +kernel
theorem dX9_arrive_17 : decode cX9_arrive 17 = .ok (.ifCond .eq 24, 3) := by decide +kernel
theorem dX9_arrive_20 : decode cX9_arrive 20 = .ok (.iload_n 3, 1) := by decide +kernel
theorem dX9_arrive_21 : decode cX9_arrive 21 = .ok (.iconst 0, 1) := by decide +kernel
theorem dX9_arrive_22 : decode cX9_arrive 22 = .ok (.iload_n 2, 1) := by decide +kernel
theorem dX9_arrive_23 : decode cX9_arrive 23 = .ok (.invokestatic 54, 3) := by decide +kernel
theorem dX9_arrive_26 : decode cX9_arrive 26 = .ok (.ifCond .eq 15, 3) := by decide +kernel
theorem dX9_arrive_29 : decode cX9_arrive 29 = .ok (.iload 4, 2) := by decide +kernel
theorem dX9_arrive_31 : decode cX9_arrive 31 = .ok (.iconst 0, 1) := by decide +kernel
theorem dX9_arrive_32 : decode cX9_arrive 32 = .ok (.sipush 30000, 3) := by decide +kernel
theorem dX9_arrive_35 : decode cX9_arrive 35 = .ok (.invokestatic 54, 3) := by decide +kernel
theorem dX9_arrive_38 : decode cX9_arrive 38 = .ok (.ifCond .ne 6, 3) := by decide +kernel
theorem dX9_arrive_41 : decode cX9_arrive 41 = .ok (.bipush (-2), 2) := by decide +kernel
theorem dX9_arrive_43 : decode cX9_arrive 43 = .ok (.ireturn, 1) := by decide +kernel
theorem dX9_arrive_44 : decode cX9_arrive 44 = .ok (.aload_n 0, 1) := by decide +kernel
theorem dX9_arrive_45 : decode cX9_arrive 45 = .ok (.iload_n 1, 1) := by decide +kernel
theorem dX9_arrive_46 : decode cX9_arrive 46 = .ok (.iload_n 2, 1) := by decide +kernel
theorem dX9_arrive_47 : decode cX9_arrive 47 = .ok (.iload_n 3, 1) := by decide +kernel
theorem dX9_arrive_48 : decode cX9_arrive 48 = .ok (.iload 4, 2) := by decide +kernel
theorem dX9_arrive_50 : decode cX9_arrive 50 = .ok (.invokevirtual 88, 3) := by decide +kernel
theorem dX9_arrive_53 : decode cX9_arrive 53 = .ok (.ifCond .eq 6, 3) := by decide +kernel
theorem dX9_arrive_56 : decode cX9_arrive 56 = .ok (.bipush (-3), 2) := by decide +kernel
theorem dX9_arrive_58 : decode cX9_arrive 58 = .ok (.ireturn, 1) := by decide +kernel
theorem dX9_arrive_59 : decode cX9_arrive 59 = .ok (.aload_n 0, 1) := by decide +kernel
theorem dX9_arrive_60 : decode cX9_arrive 60 = .ok (.getfield 78, 3) := by decide +kernel
theorem dX9_arrive_63 : decode cX9_arrive 63 = .ok (.bipush 120, 2) := by decide +kernel
theorem dX9_arrive_65 : decode cX9_arrive 65 = .ok (.if_icmp .ne 6, 3) := by decide +kernel
theorem dX9_arrive_68 : decode cX9_arrive 68 = .ok (.bipush (-4), 2) := by decide +kernel
theorem dX9_arrive_70 : decode cX9_arrive 70 = .ok (.ireturn, 1) := by decide +kernel
theorem dX9_arrive_71 : decode cX9_arrive 71 = .ok (.aload_n 0, 1) := by decide +kernel
theorem dX9_arrive_72 : decode cX9_arrive 72 = .ok (.getfield 23, 3) := by decide +kernel
theorem dX9_arrive_75 : decode cX9_arrive 75 = .ok (.aload_n 0, 1) := by decide +kernel
theorem dX9_arrive_76 : decode cX9_arrive 76 = .ok (.getfield 78, 3) := by decide +kernel
theorem dX9_arrive_79 : decode cX9_arrive 79 = .ok (.iload_n 1, 1) := by decide +kernel
theorem dX9_arrive_80 : decode cX9_arrive 80 = .ok (.iastore, 1) := by decide +kernel
theorem dX9_arrive_81 : decode cX9_arrive 81 = .ok (.aload_n 0, 1) := by decide +kernel
theorem dX9_arrive_82 : decode cX9_arrive 82 = .ok (.getfield 26, 3) := by decide +kernel
theorem dX9_arrive_85 : decode cX9_arrive 85 = .ok (.aload_n 0, 1) := by decide +kernel
theorem dX9_arrive_86 : decode cX9_arrive 86 = .ok (.getfield 78, 3) := by decide +kernel
theorem dX9_arrive_89 : decode cX9_arrive 89 = .ok (.iload 4, 2) := by decide +kernel
theorem dX9_arrive_91 : decode cX9_arrive 91 = .ok (.iastore, 1) := by decide +kernel
theorem dX9_arrive_92 : decode cX9_arrive 92 = .ok (.aload_n 0, 1) := by decide +kernel
theorem dX9_arrive_93 : decode cX9_arrive 93 = .ok (.getfield 32, 3) := by decide +kernel
theorem dX9_arrive_96 : decode cX9_arrive 96 = .ok (.iload_n 1, 1) := by decide +kernel
theorem dX9_arrive_97 : decode cX9_arrive 97 = .ok (.aload_n 0, 1) := by decide +kernel
theorem dX9_arrive_98 : decode cX9_arrive 98 = .ok (.getfield 78, 3) := by decide +kernel
theorem dX9_arrive_101 : decode cX9_arrive 101 = .ok (.iastore, 1) := by decide +kernel
theorem dX9_arrive_102 : decode cX9_arrive 102 = .ok (.aload_n 0, 1) := by decide +kernel
theorem dX9_arrive_103 : decode cX9_arrive 103 = .ok (.dup, 1) := by decide +kernel
theorem dX9_arrive_104 : decode cX9_arrive 104 = .ok (.getfield 78, 3) := by decide +kernel
theorem dX9_arrive_107 : decode cX9_arrive 107 = .ok (.iconst 1, 1) := by decide +kernel
theorem dX9_arrive_108 : decode cX9_arrive 108 = .ok (.iadd, 1) := by decide +kernel
theorem dX9_arrive_109 : decode cX9_arrive 109 = .ok (.putfield 78, 3) := by decide +kernel
theorem dX9_arrive_112 : decode cX9_arrive 112 = .ok (.aload_n 0, 1) := by decide +kernel
theorem dX9_arrive_113 : decode cX9_arrive 113 = .ok (.aload_n 0, 1) := by decide +kernel
theorem dX9_arrive_114 : decode cX9_arrive 114 = .ok (.getfield 78, 3) := by decide +kernel
theorem dX9_arrive_117 : decode cX9_arrive 117 = .ok (.iconst 1, 1) := by decide +kernel
theorem dX9_arrive_118 : decode cX9_arrive 118 = .ok (.isub, 1) := by decide +kernel
theorem dX9_arrive_119 : decode cX9_arrive 119 = .ok (.invokevirtual 91, 3) := by decide +kernel
theorem dX9_arrive_122 : decode cX9_arrive 122 = .ok (.aload_n 0, 1) := by decide +kernel
theorem dX9_arrive_123 : decode cX9_arrive 123 = .ok (.iload_n 2, 1) := by decide +kernel
theorem dX9_arrive_124 : decode cX9_arrive 124 = .ok (.invokevirtual 81, 3) := by decide +kernel
theorem dX9_arrive_127 : decode cX9_arrive 127 = .ok (.istore 5, 2) := by decide +kernel
theorem dX9_arrive_129 : decode cX9_arrive 129 = .ok (.iload 5, 2) := by decide +kernel
theorem dX9_arrive_131 : decode cX9_arrive 131 = .ok (.bipush (-9), 2) := by decide +kernel
theorem dX9_arrive_133 : decode cX9_arrive 133 = .ok (.if_icmp .ne 59, 3) := by decide +kernel
theorem dX9_arrive_136 : decode cX9_arrive 136 = .ok (.aload_n 0, 1) := by decide +kernel
theorem dX9_arrive_137 : decode cX9_arrive 137 = .ok (.getfield 75, 3) := by decide +kernel
theorem dX9_arrive_140 : decode cX9_arrive 140 = .ok (.istore 5, 2) := by decide +kernel
theorem dX9_arrive_142 : decode cX9_arrive 142 = .ok (.aload_n 0, 1) := by decide +kernel
theorem dX9_arrive_143 : decode cX9_arrive 143 = .ok (.getfield 35, 3) := by decide +kernel
theorem dX9_arrive_146 : decode cX9_arrive 146 = .ok (.iload 5, 2) := by decide +kernel
theorem dX9_arrive_148 : decode cX9_arrive 148 = .ok (.iload_n 2, 1) := by decide +kernel
theorem dX9_arrive_149 : decode cX9_arrive 149 = .ok (.iastore, 1) := by decide +kernel
theorem dX9_arrive_150 : decode cX9_arrive 150 = .ok (.aload_n 0, 1) := by decide +kernel
theorem dX9_arrive_151 : decode cX9_arrive 151 = .ok (.getfield 38, 3) := by decide +kernel
theorem dX9_arrive_154 : decode cX9_arrive 154 = .ok (.iload 5, 2) := by decide +kernel
theorem dX9_arrive_156 : decode cX9_arrive 156 = .ok (.iload_n 3, 1) := by decide +kernel
theorem dX9_arrive_157 : decode cX9_arrive 157 = .ok (.iastore, 1) := by decide +kernel
theorem dX9_arrive_158 : decode cX9_arrive 158 = .ok (.aload_n 0, 1) := by decide +kernel
theorem dX9_arrive_159 : decode cX9_arrive 159 = .ok (.getfield 44, 3) := by decide +kernel
theorem dX9_arrive_162 : decode cX9_arrive 162 = .ok (.iload 5, 2) := by decide +kernel
theorem dX9_arrive_164 : decode cX9_arrive 164 = .ok (.aload_n 0, 1) := by decide +kernel
theorem dX9_arrive_165 : decode cX9_arrive 165 = .ok (.getfield 69, 3) := by decide +kernel
theorem dX9_arrive_168 : decode cX9_arrive 168 = .ok (.iastore, 1) := by decide +kernel
theorem dX9_arrive_169 : decode cX9_arrive 169 = .ok (.aload_n 0, 1) := by decide +kernel
theorem dX9_arrive_170 : decode cX9_arrive 170 = .ok (.getfield 41, 3) := by decide +kernel
theorem dX9_arrive_173 : decode cX9_arrive 173 = .ok (.iload 5, 2) := by decide +kernel
theorem dX9_arrive_175 : decode cX9_arrive 175 = .ok (.aload_n 0, 1) := by decide +kernel
theorem dX9_arrive_176 : decode cX9_arrive 176 = .ok (.iload_n 2, 1) := by decide +kernel
theorem dX9_arrive_177 : decode cX9_arrive 177 = .ok (.iload_n 3, 1) := by decide +kernel
theorem dX9_arrive_178 : decode cX9_arrive 178 = .ok (.invokevirtual 95, 3) := by decide +kernel
theorem dX9_arrive_181 : decode cX9_arrive 181 = .ok (.iastore, 1) := by decide +kernel
theorem dX9_arrive_182 : decode cX9_arrive 182 = .ok (.aload_n 0, 1) := by decide +kernel
theorem dX9_arrive_183 : decode cX9_arrive 183 = .ok (.dup, 1) := by decide +kernel
theorem dX9_arrive_184 : decode cX9_arrive 184 = .ok (.getfield 75, 3) := by decide +kernel
theorem dX9_arrive_187 : decode cX9_arrive 187 = .ok (.iconst 1, 1) := by decide +kernel
theorem dX9_arrive_188 : decode cX9_arrive 188 = .ok (.iadd, 1) := by decide +kernel
theorem dX9_arrive_189 : decode cX9_arrive 189 = .ok (.putfield 75, 3) := by decide +kernel
theorem dX9_arrive_192 : decode cX9_arrive 192 = .ok (.aload_n 0, 1) := by decide +kernel
theorem dX9_arrive_193 : decode cX9_arrive 193 = .ok (.getfield 29, 3) := by decide +kernel
theorem dX9_arrive_196 : decode cX9_arrive 196 = .ok (.aload_n 0, 1) := by decide +kernel
theorem dX9_arrive_197 : decode cX9_arrive 197 = .ok (.getfield 78, 3) := by decide +kernel
theorem dX9_arrive_200 : decode cX9_arrive 200 = .ok (.iconst 1, 1) := by decide +kernel
theorem dX9_arrive_201 : decode cX9_arrive 201 = .ok (.isub, 1) := by decide +kernel
theorem dX9_arrive_202 : decode cX9_arrive 202 = .ok (.iload 5, 2) := by decide +kernel
theorem dX9_arrive_204 : decode cX9_arrive 204 = .ok (.iastore, 1) := by decide +kernel
theorem dX9_arrive_205 : decode cX9_arrive 205 = .ok (.iload 5, 2) := by decide +kernel
theorem dX9_arrive_207 : decode cX9_arrive 207 = .ok (.ireturn, 1) := by decide +kernel
set_option maxRecDepth 20000 in
theorem ggX9_spikesBy_X9_delay : GoodIn wsX9_spikesBy wsX9_delay := goodIn_r _ [9, 10, 11, 12, 13, 14, 15, 16, 17, 18, 19, 20, 21, 22, 23, 24, 25, 26, 27, 28, 29, 30, 31, 32, 33, 34, 35, 36, 37, 38, 39] (by decide +kernel) (by decide +kernel)
set_option maxRecDepth 20000 in
theorem gX9_spikesBy_X9_delay : GoodIn wsX9_spikesBy (wsV RX9 103 RX9 yX9_delay wsX9_delay) := goodIn_app (goodIn_of _ (by decide +kernel)) ggX9_spikesBy_X9_delay
theorem dX9_spikesBy_0 : decode cX9_spikesBy 0 = .ok (.aload_n 0, 1) := by decide +kernel
theorem dX9_spikesBy_1 : decode cX9_spikesBy 1 = .ok (.getfield 99, 3) := by decide +kernel
theorem dX9_spikesBy_4 : decode cX9_spikesBy 4 = .ok (.ifCond .eq 34, 3) := by decide +kernel
theorem dX9_spikesBy_7 : decode cX9_spikesBy 7 = .ok (.aload_n 0, 1) := by decide +kernel
theorem dX9_spikesBy_8 : decode cX9_spikesBy 8 = .ok (.aload_n 0, 1) := by decide +kernel
theorem dX9_spikesBy_9 : decode cX9_spikesBy 9 = .ok (.iload_n 1, 1) := by decide +kernel
theorem dX9_spikesBy_10 : decode cX9_spikesBy 10 = .ok (.invokevirtual 103, 3) := by decide +kernel
theorem dX9_spikesBy_13 : decode cX9_spikesBy 13 = .ok (.aload_n 0, 1) := by decide +kernel
theorem dX9_spikesBy_14 : decode cX9_spikesBy 14 = .ok (.getfield 106, 3) := by decide +kernel
theorem dX9_spikesBy_17 : decode cX9_spikesBy 17 = .ok (.aload_n 0, 1) := by decide +kernel
theorem dX9_spikesBy_18 : decode cX9_spikesBy 18 = .ok (.getfield 20, 3) := by decide +kernel
theorem dX9_spikesBy_21 : decode cX9_spikesBy 21 = .ok (.iconst 2, 1) := by decide +kernel
theorem dX9_spikesBy_22 : decode cX9_spikesBy 22 = .ok (.idiv, 1) := by decide +kernel
theorem dX9_spikesBy_23 : decode cX9_spikesBy 23 = .ok (.iadd, 1) := by decide +kernel
theorem dX9_spikesBy_24 : decode cX9_spikesBy 24 = .ok (.if_icmp .le 7, 3) := by decide +kernel
theorem dX9_spikesBy_27 : decode cX9_spikesBy 27 = .ok (.iconst 1, 1) := by decide +kernel
theorem dX9_spikesBy_28 : decode cX9_spikesBy 28 = .ok (.goto 4, 3) := by decide +kernel
theorem dX9_spikesBy_31 : decode cX9_spikesBy 31 = .ok (.iconst 0, 1) := by decide +kernel
theorem dX9_spikesBy_32 : decode cX9_spikesBy 32 = .ok (.putfield 99, 3) := by decide +kernel
theorem dX9_spikesBy_35 : decode cX9_spikesBy 35 = .ok (.goto 53, 3) := by decide +kernel
theorem dX9_spikesBy_38 : decode cX9_spikesBy 38 = .ok (.iload_n 1, 1) := by decide +kernel
theorem dX9_spikesBy_39 : decode cX9_spikesBy 39 = .ok (.ifCond .le 49, 3) := by decide +kernel
theorem dX9_spikesBy_42 : decode cX9_spikesBy 42 = .ok (.aload_n 0, 1) := by decide +kernel
theorem dX9_spikesBy_43 : decode cX9_spikesBy 43 = .ok (.iload_n 1, 1) := by decide +kernel
theorem dX9_spikesBy_44 : decode cX9_spikesBy 44 = .ok (.invokevirtual 103, 3) := by decide +kernel
theorem dX9_spikesBy_47 : decode cX9_spikesBy 47 = .ok (.aload_n 0, 1) := by decide +kernel
theorem dX9_spikesBy_48 : decode cX9_spikesBy 48 = .ok (.iload_n 1, 1) := by decide +kernel
theorem dX9_spikesBy_49 : decode cX9_spikesBy 49 = .ok (.iconst 1, 1) := by decide +kernel
theorem dX9_spikesBy_50 : decode cX9_spikesBy 50 = .ok (.isub, 1) := by decide +kernel
theorem dX9_spikesBy_51 : decode cX9_spikesBy 51 = .ok (.invokevirtual 103, 3) := by decide +kernel
theorem dX9_spikesBy_54 : decode cX9_spikesBy 54 = .ok (.aload_n 0, 1) := by decide +kernel
theorem dX9_spikesBy_55 : decode cX9_spikesBy 55 = .ok (.getfield 20, 3) := by decide +kernel
theorem dX9_spikesBy_58 : decode cX9_spikesBy 58 = .ok (.iadd, 1) := by decide +kernel
theorem dX9_spikesBy_59 : decode cX9_spikesBy 59 = .ok (.if_icmp .lt 29, 3) := by decide +kernel
theorem dX9_spikesBy_62 : decode cX9_spikesBy 62 = .ok (.aload_n 0, 1) := by decide +kernel
theorem dX9_spikesBy_63 : decode cX9_spikesBy 63 = .ok (.iconst 1, 1) := by decide +kernel
theorem dX9_spikesBy_64 : decode cX9_spikesBy 64 = .ok (.putfield 99, 3) := by decide +kernel
theorem dX9_spikesBy_67 : decode cX9_spikesBy 67 = .ok (.aload_n 0, 1) := by decide +kernel
theorem dX9_spikesBy_68 : decode cX9_spikesBy 68 = .ok (.aload_n 0, 1) := by decide +kernel
theorem dX9_spikesBy_69 : decode cX9_spikesBy 69 = .ok (.iload_n 1, 1) := by decide +kernel
theorem dX9_spikesBy_70 : decode cX9_spikesBy 70 = .ok (.iconst 1, 1) := by decide +kernel
theorem dX9_spikesBy_71 : decode cX9_spikesBy 71 = .ok (.isub, 1) := by decide +kernel
theorem dX9_spikesBy_72 : decode cX9_spikesBy 72 = .ok (.invokevirtual 103, 3) := by decide +kernel
theorem dX9_spikesBy_75 : decode cX9_spikesBy 75 = .ok (.putfield 106, 3) := by decide +kernel
theorem dX9_spikesBy_78 : decode cX9_spikesBy 78 = .ok (.aload_n 0, 1) := by decide +kernel
theorem dX9_spikesBy_79 : decode cX9_spikesBy 79 = .ok (.dup, 1) := by decide +kernel
theorem dX9_spikesBy_80 : decode cX9_spikesBy 80 = .ok (.getfield 109, 3) := by decide +kernel
theorem dX9_spikesBy_83 : decode cX9_spikesBy 83 = .ok (.iconst 1, 1) := by decide +kernel
theorem dX9_spikesBy_84 : decode cX9_spikesBy 84 = .ok (.iadd, 1) := by decide +kernel
theorem dX9_spikesBy_85 : decode cX9_spikesBy 85 = .ok (.putfield 109, 3) := by decide +kernel
theorem dX9_spikesBy_88 : decode cX9_spikesBy 88 = .ok (.return_, 1) := by decide +kernel
theorem dX9_anew_0 : decode cX9_anew 0 = .ok (.aload_n 0, 1) := by decide +kernel
theorem dX9_anew_1 : decode cX9_anew 1 = .ok (.getfield 78, 3) := by decide +kernel
theorem dX9_anew_4 : decode cX9_anew 4 = .ok (.istore_n 1, 1) := by decide +kernel
theorem dX9_anew_5 : decode cX9_anew 5 = .ok (.iconst 0, 1) := by decide +kernel
theorem dX9_anew_6 : decode cX9_anew 6 = .ok (.istore_n 2, 1) := by decide +kernel
theorem dX9_anew_7 : decode cX9_anew 7 = .ok (.iload_n 2, 1) := by decide +kernel
theorem dX9_anew_8 : decode cX9_anew 8 = .ok (.sipush 300, 3) := by decide +kernel
theorem dX9_anew_11 : decode cX9_anew 11 = .ok (.if_icmp .ge 17, 3) := by decide +kernel
theorem dX9_anew_14 : decode cX9_anew 14 = .ok (.aload_n 0, 1) := by decide +kernel
theorem dX9_anew_15 : decode cX9_anew 15 = .ok (.getfield 32, 3) := by decide +kernel
theorem dX9_anew_18 : decode cX9_anew 18 = .ok (.iload_n 2, 1) := by decide +kernel
theorem dX9_anew_19 : decode cX9_anew 19 = .ok (.bipush (-9), 2) := by decide +kernel
theorem dX9_anew_21 : decode cX9_anew 21 = .ok (.iastore, 1) := by decide +kernel
theorem dX9_anew_22 : decode cX9_anew 22 = .ok (.iinc 2 1, 3) := by decide +kernel
theorem dX9_anew_25 : decode cX9_anew 25 = .ok (.goto (-18), 3) := by decide +kernel
theorem dX9_anew_28 : decode cX9_anew 28 = .ok (.aload_n 0, 1) := by decide +kernel
theorem dX9_anew_29 : decode cX9_anew 29 = .ok (.iconst 0, 1) := by decide +kernel
theorem dX9_anew_30 : decode cX9_anew 30 = .ok (.putfield 78, 3) := by decide +kernel
theorem dX9_anew_33 : decode cX9_anew 33 = .ok (.aload_n 0, 1) := by decide +kernel
theorem dX9_anew_34 : decode cX9_anew 34 = .ok (.iconst 0, 1) := by decide +kernel
theorem dX9_anew_35 : decode cX9_anew 35 = .ok (.putfield 75, 3) := by decide +kernel
theorem dX9_anew_38 : decode cX9_anew 38 = .ok (.aload_n 0, 1) := by decide +kernel
theorem dX9_anew_39 : decode cX9_anew 39 = .ok (.iconst 0, 1) := by decide +kernel
theorem dX9_anew_40 : decode cX9_anew 40 = .ok (.putfield 99, 3) := by decide +kernel
theorem dX9_anew_43 : decode cX9_anew 43 = .ok (.aload_n 0, 1) := by decide +kernel
theorem dX9_anew_44 : decode cX9_anew 44 = .ok (.iconst 0, 1) := by decide +kernel
theorem dX9_anew_45 : decode cX9_anew 45 = .ok (.putfield 109, 3) := by decide +kernel
theorem dX9_anew_48 : decode cX9_anew 48 = .ok (.iload_n 1, 1) := by decide +kernel
theorem dX9_anew_49 : decode cX9_anew 49 = .ok (.ireturn, 1) := by decide +kernel
theorem dX9_oldest_0 : decode cX9_oldest 0 = .ok (.aload_n 0, 1) := by decide +kernel
theorem dX9_oldest_1 : decode cX9_oldest 1 = .ok (.getfield 78, 3) := by decide +kernel
theorem dX9_oldest_4 : decode cX9_oldest 4 = .ok (.bipush 32, 2) := by decide +kernel
theorem dX9_oldest_6 : decode cX9_oldest 6 = .ok (.if_icmp .le 13, 3) := by decide +kernel
theorem dX9_oldest_9 : decode cX9_oldest 9 = .ok (.aload_n 0, 1) := by decide +kernel
theorem dX9_oldest_10 : decode cX9_oldest 10 = .ok (.getfield 78, 3) := by decide +kernel
theorem dX9_oldest_13 : decode cX9_oldest 13 = .ok (.bipush 32, 2) := by decide +kernel
theorem dX9_oldest_15 : decode cX9_oldest 15 = .ok (.isub, 1) := by decide +kernel
theorem dX9_oldest_16 : decode cX9_oldest 16 = .ok (.goto 4, 3) := by decide +kernel
theorem dX9_oldest_19 : decode cX9_oldest 19 = .ok (.iconst 0, 1) := by decide +kernel
theorem dX9_oldest_20 : decode cX9_oldest 20 = .ok (.ireturn, 1) := by decide +kernel
set_option maxRecDepth 20000 in
theorem ggX9_leastBy_X9_oldest : GoodIn wsX9_leastBy wsX9_oldest := goodIn_r _ [7, 1, 8, 9, 10, 11, 12, 13, 14, 15, 16, 17, 18, 19, 20, 21, 22, 23, 24, 25, 26, 27, 28, 29, 30, 31, 32, 33, 34, 35] (by decide +kernel) (by decide +kernel)
set_option maxRecDepth 20000 in
theorem gX9_leastBy_X9_oldest : GoodIn wsX9_leastBy (wsV RX9 112 RX9 yX9_oldest wsX9_oldest) := goodIn_app (goodIn_of _ (by decide +kernel)) ggX9_leastBy_X9_oldest
theorem dX9_leastBy_0 : decode cX9_leastBy 0 = .ok (.lconst 0, 1) := by decide +kernel
theorem dX9_leastBy_1 : decode cX9_leastBy 1 = .ok (.lstore_n 2, 1) := by decide +kernel
theorem dX9_leastBy_2 : decode cX9_leastBy 2 = .ok (.iconst 0, 1) := by decide +kernel
theorem dX9_leastBy_3 : decode cX9_leastBy 3 = .ok (.istore 4, 2) := by decide +kernel
theorem dX9_leastBy_5 : decode cX9_leastBy 5 = .ok (.aload_n 0, 1) := by decide +kernel
theorem dX9_leastBy_6 : decode cX9_leastBy 6 = .ok (.invokevirtual 112, 3) := by decide +kernel
theorem dX9_leastBy_9 : decode cX9_leastBy 9 = .ok (.istore 5, 2) := by decide +kernel
theorem dX9_leastBy_11 : decode cX9_leastBy 11 = .ok (.iload 5, 2) := by decide +kernel
theorem dX9_leastBy_13 : decode cX9_leastBy 13 = .ok (.aload_n 0, 1) := by decide +kernel
theorem dX9_leastBy_14 : decode cX9_leastBy 14 = .ok (.getfield 78, 3) := by decide +kernel
theorem dX9_leastBy_17 : decode cX9_leastBy 17 = .ok (.if_icmp .ge 139, 3) := by decide +kernel
theorem dX9_leastBy_20 : decode cX9_leastBy 20 = .ok (.iconst 0, 1) := by decide +kernel
theorem dX9_leastBy_21 : decode cX9_leastBy 21 = .ok (.istore 6, 2) := by decide +kernel
theorem dX9_leastBy_23 : decode cX9_leastBy 23 = .ok (.aload_n 0, 1) := by decide +kernel
theorem dX9_leastBy_24 : decode cX9_leastBy 24 = .ok (.invokevirtual 112, 3) := by decide +kernel
theorem dX9_leastBy_27 : decode cX9_leastBy 27 = .ok (.istore 7, 2) := by decide +kernel
theorem dX9_leastBy_29 : decode cX9_leastBy 29 = .ok (.iload 7, 2) := by decide +kernel
theorem dX9_leastBy_31 : decode cX9_leastBy 31 = .ok (.aload_n 0, 1) := by decide +kernel
theorem dX9_leastBy_32 : decode cX9_leastBy 32 = .ok (.getfield 78, 3) := by decide +kernel
theorem dX9_leastBy_35 : decode cX9_leastBy 35 = .ok (.if_icmp .ge 37, 3) := by decide +kernel
theorem dX9_leastBy_38 : decode cX9_leastBy 38 = .ok (.iload 6, 2) := by decide +kernel
theorem dX9_leastBy_40 : decode cX9_leastBy 40 = .ok (.aload_n 0, 1) := by decide +kernel
theorem dX9_leastBy_41 : decode cX9_leastBy 41 = .ok (.getfield 47, 3) := by decide +kernel
theorem dX9_leastBy_44 : decode cX9_leastBy 44 = .ok (.iload 7, 2) := by decide +kernel
theorem dX9_leastBy_46 : decode cX9_leastBy 46 = .ok (.laload, 1) := by decide +kernel
theorem dX9_leastBy_47 : decode cX9_leastBy 47 = .ok (.aload_n 0, 1) := by decide +kernel
theorem dX9_leastBy_48 : decode cX9_leastBy 48 = .ok (.getfield 47, 3) := by decide +kernel
theorem dX9_leastBy_51 : decode cX9_leastBy 51 = .ok (.iload 5, 2) := by decide +kernel
theorem dX9_leastBy_53 : decode cX9_leastBy 53 = .ok (.laload, 1) := by decide +kernel
theorem dX9_leastBy_54 : decode cX9_leastBy 54 = .ok (.lcmp, 1) := by decide +kernel
theorem dX9_leastBy_55 : decode cX9_leastBy 55 = .ok (.ifCond .le 7, 3) := by decide +kernel
theorem dX9_leastBy_58 : decode cX9_leastBy 58 = .ok (.iconst 1, 1) := by decide +kernel
theorem dX9_leastBy_59 : decode cX9_leastBy 59 = .ok (.goto 4, 3) := by decide +kernel
theorem dX9_leastBy_62 : decode cX9_leastBy 62 = .ok (.iconst 0, 1) := by decide +kernel
theorem dX9_leastBy_63 : decode cX9_leastBy 63 = .ok (.iadd, 1) := by decide +kernel
theorem dX9_leastBy_64 : decode cX9_leastBy 64 = .ok (.istore 6, 2) := by decide +kernel
theorem dX9_leastBy_66 : decode cX9_leastBy 66 = .ok (.iinc 7 1, 3) := by decide +kernel
theorem dX9_leastBy_69 : decode cX9_leastBy 69 = .ok (.goto (-40), 3) := by decide +kernel
theorem dX9_leastBy_72 : decode cX9_leastBy 72 = .ok (.sipush 256, 3) := by decide +kernel
theorem dX9_leastBy_75 : decode cX9_leastBy 75 = .ok (.iload 6, 2) := by decide +kernel
theorem dX9_leastBy_77 : decode cX9_leastBy 77 = .ok (.imul, 1) := by decide +kernel
theorem dX9_leastBy_78 : decode cX9_leastBy 78 = .ok (.iload_n 1, 1) := by decide +kernel
theorem dX9_leastBy_79 : decode cX9_leastBy 79 = .ok (.aload_n 0, 1) := by decide +kernel
theorem dX9_leastBy_80 : decode cX9_leastBy 80 = .ok (.getfield 78, 3) := by decide +kernel
theorem dX9_leastBy_83 : decode cX9_leastBy 83 = .ok (.aload_n 0, 1) := by decide +kernel
theorem dX9_leastBy_84 : decode cX9_leastBy 84 = .ok (.invokevirtual 112, 3) := by decide +kernel
theorem dX9_leastBy_87 : decode cX9_leastBy 87 = .ok (.isub, 1) := by decide +kernel
theorem dX9_leastBy_88 : decode cX9_leastBy 88 = .ok (.imul, 1) := by decide +kernel
theorem dX9_leastBy_89 : decode cX9_leastBy 89 = .ok (.if_icmp .gt 7, 3) := by decide +kernel
theorem dX9_leastBy_92 : decode cX9_leastBy 92 = .ok (.iconst 1, 1) := by decide +kernel
theorem dX9_leastBy_93 : decode cX9_leastBy 93 = .ok (.goto 4, 3) := by decide +kernel
theorem dX9_leastBy_96 : decode cX9_leastBy 96 = .ok (.iconst 0, 1) := by decide +kernel
theorem dX9_leastBy_97 : decode cX9_leastBy 97 = .ok (.istore 7, 2) := by decide +kernel
theorem dX9_leastBy_99 : decode cX9_leastBy 99 = .ok (.iload 7, 2) := by decide +kernel
theorem dX9_leastBy_101 : decode cX9_leastBy 101 = .ok (.ifCond .eq 30, 3) := by decide +kernel
theorem dX9_leastBy_104 : decode cX9_leastBy 104 = .ok (.iload 4, 2) := by decide +kernel
theorem dX9_leastBy_106 : decode cX9_leastBy 106 = .ok (.ifCond .eq 15, 3) := by decide +kernel
theorem dX9_leastBy_109 : decode cX9_leastBy 109 = .ok (.aload_n 0, 1) := by decide +kernel
theorem dX9_leastBy_110 : decode cX9_leastBy 110 = .ok (.getfield 47, 3) := by decide +kernel
theorem dX9_leastBy_113 : decode cX9_leastBy 113 = .ok (.iload 5, 2) := by decide +kernel
theorem dX9_leastBy_115 : decode cX9_leastBy 115 = .ok (.laload, 1) := by decide +kernel
theorem dX9_leastBy_116 : decode cX9_leastBy 116 = .ok (.lload_n 2, 1) := by decide +kernel
theorem dX9_leastBy_117 : decode cX9_leastBy 117 = .ok (.lcmp, 1) := by decide +kernel
theorem dX9_leastBy_118 : decode cX9_leastBy 118 = .ok (.ifCond .ge 13, 3) := by decide +kernel
theorem dX9_leastBy_121 : decode cX9_leastBy 121 = .ok (.aload_n 0, 1) := by decide +kernel
theorem dX9_leastBy_122 : decode cX9_leastBy 122 = .ok (.getfield 47, 3) := by decide +kernel
theorem dX9_leastBy_125 : decode cX9_leastBy 125 = .ok (.iload 5, 2) := by decide +kernel
theorem dX9_leastBy_127 : decode cX9_leastBy 127 = .ok (.laload, 1) := by decide +kernel
theorem dX9_leastBy_128 : decode cX9_leastBy 128 = .ok (.goto 4, 3) := by decide +kernel
theorem dX9_leastBy_131 : decode cX9_leastBy 131 = .ok (.lload_n 2, 1) := by decide +kernel
theorem dX9_leastBy_132 : decode cX9_leastBy 132 = .ok (.lstore_n 2, 1) := by decide +kernel
theorem dX9_leastBy_133 : decode cX9_leastBy 133 = .ok (.iload 4, 2) := by decide +kernel
theorem dX9_leastBy_135 : decode cX9_leastBy 135 = .ok (.ifCond .ne 8, 3) := by decide +kernel
theorem dX9_leastBy_138 : decode cX9_leastBy 138 = .ok (.iload 7, 2) := by decide +kernel
theorem dX9_leastBy_140 : decode cX9_leastBy 140 = .ok (.ifCond .eq 7, 3) := by decide +kernel
theorem dX9_leastBy_143 : decode cX9_leastBy 143 = .ok (.iconst 1, 1) := by decide +kernel
theorem dX9_leastBy_144 : decode cX9_leastBy 144 = .ok (.goto 4, 3) := by decide +kernel
theorem dX9_leastBy_147 : decode cX9_leastBy 147 = .ok (.iconst 0, 1) := by decide +kernel
theorem dX9_leastBy_148 : decode cX9_leastBy 148 = .ok (.istore 4, 2) := by decide +kernel
theorem dX9_leastBy_150 : decode cX9_leastBy 150 = .ok (.iinc 5 1, 3) := by decide +kernel
theorem dX9_leastBy_153 : decode cX9_leastBy 153 = .ok (.goto (-142), 3) := by decide +kernel
theorem dX9_leastBy_156 : decode cX9_leastBy 156 = .ok (.lload_n 2, 1) := by decide +kernel
theorem dX9_leastBy_157 : decode cX9_leastBy 157 = .ok (.lreturn, 1) := by decide +kernel
set_option maxRecDepth 20000 in
theorem ggX9_latelyMost_X9_oldest : GoodIn wsX9_latelyMost wsX9_oldest := goodIn_r _ [7, 2, 8, 9, 10, 11, 12, 13, 14, 15, 16, 17, 18, 19, 20, 21, 22, 23, 24, 25, 26, 27, 28, 29, 30, 31, 32, 33, 34, 35] (by decide +kernel) (by decide +kernel)
set_option maxRecDepth 20000 in
theorem gX9_latelyMost_X9_oldest : GoodIn wsX9_latelyMost (wsV RX9 112 RX9 yX9_oldest wsX9_oldest) := goodIn_app (goodIn_of _ (by decide +kernel)) ggX9_latelyMost_X9_oldest
theorem dX9_latelyMost_0 : decode cX9_latelyMost 0 = .ok (.aload_n 0, 1) := by decide +kernel
theorem dX9_latelyMost_1 : decode cX9_latelyMost 1 = .ok (.getfield 47, 3) := by decide +kernel
theorem dX9_latelyMost_4 : decode cX9_latelyMost 4 = .ok (.aload_n 0, 1) := by decide +kernel
theorem dX9_latelyMost_5 : decode cX9_latelyMost 5 = .ok (.getfield 78, 3) := by decide +kernel
theorem dX9_latelyMost_8 : decode cX9_latelyMost 8 = .ok (.iconst 1, 1) := by decide +kernel
theorem dX9_latelyMost_9 : decode cX9_latelyMost 9 = .ok (.isub, 1) := by decide +kernel
theorem dX9_latelyMost_10 : decode cX9_latelyMost 10 = .ok (.laload, 1) := by decide +kernel
theorem dX9_latelyMost_11 : decode cX9_latelyMost 11 = .ok (.lstore_n 1, 1) := by decide +kernel
theorem dX9_latelyMost_12 : decode cX9_latelyMost 12 = .ok (.aload_n 0, 1) := by decide +kernel
theorem dX9_latelyMost_13 : decode cX9_latelyMost 13 = .ok (.getfield 78, 3) := by decide +kernel
theorem dX9_latelyMost_16 : decode cX9_latelyMost 16 = .ok (.iconst 1, 1) := by decide +kernel
theorem dX9_latelyMost_17 : decode cX9_latelyMost 17 = .ok (.isub, 1) := by decide +kernel
theorem dX9_latelyMost_18 : decode cX9_latelyMost 18 = .ok (.istore_n 3, 1) := by decide +kernel
theorem dX9_latelyMost_19 : decode cX9_latelyMost 19 = .ok (.iload_n 3, 1) := by decide +kernel
theorem dX9_latelyMost_20 : decode cX9_latelyMost 20 = .ok (.aload_n 0, 1) := by decide +kernel
theorem dX9_latelyMost_21 : decode cX9_latelyMost 21 = .ok (.invokevirtual 112, 3) := by decide +kernel
theorem dX9_latelyMost_24 : decode cX9_latelyMost 24 = .ok (.if_icmp .lt 41, 3) := by decide +kernel
theorem dX9_latelyMost_27 : decode cX9_latelyMost 27 = .ok (.iload_n 3, 1) := by decide +kernel
theorem dX9_latelyMost_28 : decode cX9_latelyMost 28 = .ok (.aload_n 0, 1) := by decide +kernel
theorem dX9_latelyMost_29 : decode cX9_latelyMost 29 = .ok (.getfield 78, 3) := by decide +kernel
theorem dX9_latelyMost_32 : decode cX9_latelyMost 32 = .ok (.iconst 4, 1) := by decide +kernel
theorem dX9_latelyMost_33 : decode cX9_latelyMost 33 = .ok (.isub, 1) := by decide +kernel
theorem dX9_latelyMost_34 : decode cX9_latelyMost 34 = .ok (.if_icmp .le 31, 3) := by decide +kernel
theorem dX9_latelyMost_37 : decode cX9_latelyMost 37 = .ok (.aload_n 0, 1) := by decide +kernel
theorem dX9_latelyMost_38 : decode cX9_latelyMost 38 = .ok (.getfield 47, 3) := by decide +kernel
theorem dX9_latelyMost_41 : decode cX9_latelyMost 41 = .ok (.iload_n 3, 1) := by decide +kernel
theorem dX9_latelyMost_42 : decode cX9_latelyMost 42 = .ok (.laload, 1) := by decide +kernel
theorem dX9_latelyMost_43 : decode cX9_latelyMost 43 = .ok (.lload_n 1, 1) := by decide +kernel
theorem dX9_latelyMost_44 : decode cX9_latelyMost 44 = .ok (.lcmp, 1) := by decide +kernel
theorem dX9_latelyMost_45 : decode cX9_latelyMost 45 = .ok (.ifCond .le 12, 3) := by decide +kernel
theorem dX9_latelyMost_48 : decode cX9_latelyMost 48 = .ok (.aload_n 0, 1) := by decide +kernel
theorem dX9_latelyMost_49 : decode cX9_latelyMost 49 = .ok (.getfield 47, 3) := by decide +kernel
theorem dX9_latelyMost_52 : decode cX9_latelyMost 52 = .ok (.iload_n 3, 1) := by decide +kernel
theorem dX9_latelyMost_53 : decode cX9_latelyMost 53 = .ok (.laload, 1) := by decide +kernel
theorem dX9_latelyMost_54 : decode cX9_latelyMost 54 = .ok (.goto 4, 3) := by decide +kernel
theorem dX9_latelyMost_57 : decode cX9_latelyMost 57 = .ok (.lload_n 1, 1) := by decide +kernel
theorem dX9_latelyMost_58 : decode cX9_latelyMost 58 = .ok (.lstore_n 1, 1) := by decide +kernel
theorem dX9_latelyMost_59 : decode cX9_latelyMost 59 = .ok (.iinc 3 (-1), 3) := by decide +kernel
theorem dX9_latelyMost_62 : decode cX9_latelyMost 62 = .ok (.goto (-43), 3) := by decide +kernel
theorem dX9_latelyMost_65 : decode cX9_latelyMost 65 = .ok (.lload_n 1, 1) := by decide +kernel
theorem dX9_latelyMost_66 : decode cX9_latelyMost 66 = .ok (.lreturn, 1) := by decide +kernel
set_option maxRecDepth 20000 in
theorem ggX9_farBy_X9_oldest : GoodIn wsX9_farBy wsX9_oldest := goodIn_r _ [7, 1, 11, 12, 13, 14, 15, 16, 17, 18, 19, 20, 21, 22, 23, 24, 25, 26, 27, 28, 29, 30, 31, 32, 33, 34, 35, 36, 37, 38] (by decide +kernel) (by decide +kernel)
set_option maxRecDepth 20000 in
theorem gX9_farBy_X9_oldest : GoodIn wsX9_farBy (wsV RX9 112 RX9 yX9_oldest wsX9_oldest) := goodIn_app (goodIn_of _ (by decide +kernel)) ggX9_farBy_X9_oldest
set_option maxRecDepth 20000 in
theorem ggX9_farBy_X9_down : GoodIn wsX9_farBy wsX9_down := goodIn_r _ [10] (by decide +kernel) (by decide +kernel)
set_option maxRecDepth 20000 in
theorem gX9_farBy_X9_down : GoodIn wsX9_farBy (va_wsS RX9 115 yX9_down wsX9_down) := goodIn_app (goodIn_of _ (by decide +kernel)) ggX9_farBy_X9_down
theorem dX9_farBy_0 : decode cX9_farBy 0 = .ok (.aload_n 0, 1) := by decide +kernel
theorem dX9_farBy_1 : decode cX9_farBy 1 = .ok (.getfield 78, 3) := by decide +kernel
theorem dX9_farBy_4 : decode cX9_farBy 4 = .ok (.aload_n 0, 1) := by decide +kernel
theorem dX9_farBy_5 : decode cX9_farBy 5 = .ok (.invokevirtual 112, 3) := by decide +kernel
theorem dX9_farBy_8 : decode cX9_farBy 8 = .ok (.isub, 1) := by decide +kernel
theorem dX9_farBy_9 : decode cX9_farBy 9 = .ok (.i2l, 1) := by decide +kernel
theorem dX9_farBy_10 : decode cX9_farBy 10 = .ok (.lstore_n 2, 1) := by decide +kernel
theorem dX9_farBy_11 : decode cX9_farBy 11 = .ok (.lconst 0, 1) := by decide +kernel
theorem dX9_farBy_12 : decode cX9_farBy 12 = .ok (.lstore 4, 2) := by decide +kernel
theorem dX9_farBy_14 : decode cX9_farBy 14 = .ok (.lconst 0, 1) := by decide +kernel
theorem dX9_farBy_15 : decode cX9_farBy 15 = .ok (.lstore 6, 2) := by decide +kernel
theorem dX9_farBy_17 : decode cX9_farBy 17 = .ok (.aload_n 0, 1) := by decide +kernel
theorem dX9_farBy_18 : decode cX9_farBy 18 = .ok (.invokevirtual 112, 3) := by decide +kernel
theorem dX9_farBy_21 : decode cX9_farBy 21 = .ok (.istore 8, 2) := by decide +kernel
theorem dX9_farBy_23 : decode cX9_farBy 23 = .ok (.iload 8, 2) := by decide +kernel
theorem dX9_farBy_25 : decode cX9_farBy 25 = .ok (.aload_n 0, 1) := by decide +kernel
theorem dX9_farBy_26 : decode cX9_farBy 26 = .ok (.getfield 78, 3) := by decide +kernel
theorem dX9_farBy_29 : decode cX9_farBy 29 = .ok (.if_icmp .ge 21, 3) := by decide +kernel
theorem dX9_farBy_32 : decode cX9_farBy 32 = .ok (.lload 4, 2) := by decide +kernel
theorem dX9_farBy_34 : decode cX9_farBy 34 = .ok (.aload_n 0, 1) := by decide +kernel
theorem dX9_farBy_35 : decode cX9_farBy 35 = .ok (.getfield 47, 3) := by decide +kernel
theorem dX9_farBy_38 : decode cX9_farBy 38 = .ok (.iload 8, 2) := by decide +kernel
theorem dX9_farBy_40 : decode cX9_farBy 40 = .ok (.laload, 1) := by decide +kernel
theorem dX9_farBy_41 : decode cX9_farBy 41 = .ok (.ladd, 1) := by decide +kernel
theorem dX9_farBy_42 : decode cX9_farBy 42 = .ok (.lstore 4, 2) := by decide +kernel
theorem dX9_farBy_44 : decode cX9_farBy 44 = .ok (.iinc 8 1, 3) := by decide +kernel
theorem dX9_farBy_47 : decode cX9_farBy 47 = .ok (.goto (-24), 3) := by decide +kernel
theorem dX9_farBy_50 : decode cX9_farBy 50 = .ok (.lload 4, 2) := by decide +kernel
theorem dX9_farBy_52 : decode cX9_farBy 52 = .ok (.lload_n 2, 1) := by decide +kernel
theorem dX9_farBy_53 : decode cX9_farBy 53 = .ok (.invokestatic 115, 3) := by decide +kernel
theorem dX9_farBy_56 : decode cX9_farBy 56 = .ok (.lstore 8, 2) := by decide +kernel
theorem dX9_farBy_58 : decode cX9_farBy 58 = .ok (.aload_n 0, 1) := by decide +kernel
theorem dX9_farBy_59 : decode cX9_farBy 59 = .ok (.invokevirtual 112, 3) := by decide +kernel
theorem dX9_farBy_62 : decode cX9_farBy 62 = .ok (.istore 10, 2) := by decide +kernel
theorem dX9_farBy_64 : decode cX9_farBy 64 = .ok (.iload 10, 2) := by decide +kernel
theorem dX9_farBy_66 : decode cX9_farBy 66 = .ok (.aload_n 0, 1) := by decide +kernel
theorem dX9_farBy_67 : decode cX9_farBy 67 = .ok (.getfield 78, 3) := by decide +kernel
theorem dX9_farBy_70 : decode cX9_farBy 70 = .ok (.if_icmp .ge 50, 3) := by decide +kernel
theorem dX9_farBy_73 : decode cX9_farBy 73 = .ok (.lload 6, 2) := by decide +kernel
theorem dX9_farBy_75 : decode cX9_farBy 75 = .ok (.aload_n 0, 1) := by decide +kernel
theorem dX9_farBy_76 : decode cX9_farBy 76 = .ok (.getfield 47, 3) := by decide +kernel
theorem dX9_farBy_79 : decode cX9_farBy 79 = .ok (.iload 10, 2) := by decide +kernel
theorem dX9_farBy_81 : decode cX9_farBy 81 = .ok (.laload, 1) := by decide +kernel
theorem dX9_farBy_82 : decode cX9_farBy 82 = .ok (.lload 8, 2) := by decide +kernel
theorem dX9_farBy_84 : decode cX9_farBy 84 = .ok (.lcmp, 1) := by decide +kernel
theorem dX9_farBy_85 : decode cX9_farBy 85 = .ok (.ifCond .ge 16, 3) := by decide +kernel
theorem dX9_farBy_88 : decode cX9_farBy 88 = .ok (.lload 8, 2) := by decide +kernel
theorem dX9_farBy_90 : decode cX9_farBy 90 = .ok (.aload_n 0, 1) := by decide +kernel
theorem dX9_farBy_91 : decode cX9_farBy 91 = .ok (.getfield 47, 3) := by decide +kernel
theorem dX9_farBy_94 : decode cX9_farBy 94 = .ok (.iload 10, 2) := by decide +kernel
theorem dX9_farBy_96 : decode cX9_farBy 96 = .ok (.laload, 1) := by decide +kernel
theorem dX9_farBy_97 : decode cX9_farBy 97 = .ok (.lsub, 1) := by decide +kernel
theorem dX9_farBy_98 : decode cX9_farBy 98 = .ok (.goto 13, 3) := by decide +kernel
theorem dX9_farBy_101 : decode cX9_farBy 101 = .ok (.aload_n 0, 1) := by decide +kernel
theorem dX9_farBy_102 : decode cX9_farBy 102 = .ok (.getfield 47, 3) := by decide +kernel
theorem dX9_farBy_105 : decode cX9_farBy 105 = .ok (.iload 10, 2) := by decide +kernel
theorem dX9_farBy_107 : decode cX9_farBy 107 = .ok (.laload, 1) := by decide +kernel
theorem dX9_farBy_108 : decode cX9_farBy 108 = .ok (.lload 8, 2) := by decide +kernel
theorem dX9_farBy_110 : decode cX9_farBy 110 = .ok (.lsub, 1) := by decide +kernel
theorem dX9_farBy_111 : decode cX9_farBy 111 = .ok (.ladd, 1) := by decide +kernel
theorem dX9_farBy_112 : decode cX9_farBy 112 = .ok (.lstore 6, 2) := by decide +kernel
theorem dX9_farBy_114 : decode cX9_farBy 114 = .ok (.iinc 10 1, 3) := by decide +kernel
theorem dX9_farBy_117 : decode cX9_farBy 117 = .ok (.goto (-53), 3) := by decide +kernel
theorem dX9_farBy_120 : decode cX9_farBy 120 = .ok (.lload 8, 2) := by decide +kernel
theorem dX9_farBy_122 : decode cX9_farBy 122 = .ok (.iload_n 1, 1) := by decide +kernel
theorem dX9_farBy_123 : decode cX9_farBy 123 = .ok (.i2l, 1) := by decide +kernel
theorem dX9_farBy_124 : decode cX9_farBy 124 = .ok (.lload 6, 2) := by decide +kernel
theorem dX9_farBy_126 : decode cX9_farBy 126 = .ok (.lload_n 2, 1) := by decide +kernel
theorem dX9_farBy_127 : decode cX9_farBy 127 = .ok (.invokestatic 115, 3) := by decide +kernel
theorem dX9_farBy_130 : decode cX9_farBy 130 = .ok (.lmul, 1) := by decide +kernel
theorem dX9_farBy_131 : decode cX9_farBy 131 = .ok (.ladd, 1) := by decide +kernel
theorem dX9_farBy_132 : decode cX9_farBy 132 = .ok (.lreturn, 1) := by decide +kernel
set_option maxRecDepth 20000 in
theorem ggX9_wishFor_X9_findDrift : GoodIn wsX9_wishFor wsX9_findDrift := goodIn_r _ [13, 3, 5, 2, 4, 14, 15, 16, 12, 17, 18, 19, 20, 21, 22, 42, 43, 44, 45, 46, 47, 48, 49, 50, 51, 52, 53, 54, 55, 56, 57, 58, 59, 60, 61, 62, 63, 64, 65, 66, 67, 68, 69] (by decide +kernel) (by decide +kernel)
set_option maxRecDepth 20000 in
theorem gX9_wishFor_X9_findDrift : GoodIn wsX9_wishFor (wsV RX9 119 RX9 yX9_findDrift wsX9_findDrift) := goodIn_app (goodIn_of _ (by decide +kernel)) ggX9_wishFor_X9_findDrift
set_option maxRecDepth 20000 in
theorem ggX9_wishFor_X9_oldest : GoodIn wsX9_wishFor wsX9_oldest := goodIn_r _ [26, 2, 42, 43, 44, 45, 46, 47, 48, 49, 50, 51, 52, 53, 54, 55, 56, 57, 58, 59, 60, 61, 62, 63, 64, 65, 66, 67, 68, 69] (by decide +kernel) (by decide +kernel)
set_option maxRecDepth 20000 in
theorem gX9_wishFor_X9_oldest : GoodIn wsX9_wishFor (wsV RX9 112 RX9 yX9_oldest wsX9_oldest) := goodIn_app (goodIn_of _ (by decide +kernel)) ggX9_wishFor_X9_oldest
set_option maxRecDepth 20000 in
theorem ggX9_wishFor_X9_down : GoodIn wsX9_wishFor wsX9_down := goodIn_r _ [29] (by decide +kernel) (by decide +kernel)
set_option maxRecDepth 20000 in
theorem gX9_wishFor_X9_down : GoodIn wsX9_wishFor (va_wsS RX9 115 yX9_down wsX9_down) := goodIn_app (goodIn_of _ (by decide +kernel)) ggX9_wishFor_X9_down
set_option maxRecDepth 20000 in
theorem ggX9_wishFor_X9_delay : GoodIn wsX9_wishFor wsX9_delay := goodIn_r _ [21, 22, 4, 42, 43, 44, 45, 46, 47, 48, 49, 50, 51, 52, 53, 54, 55, 56, 57, 58, 59, 60, 61, 62, 63, 64, 65, 66, 67, 68, 69] (by decide +kernel) (by decide +kernel)
set_option maxRecDepth 20000 in
theorem gX9_wishFor_X9_delay : GoodIn wsX9_wishFor (wsV RX9 103 RX9 yX9_delay wsX9_delay) := goodIn_app (goodIn_of _ (by decide +kernel)) ggX9_wishFor_X9_delay
set_option maxRecDepth 20000 in
theorem ggX9_wishFor_X9_farBy : GoodIn wsX9_wishFor wsX9_farBy := goodIn_r _ [33, 2, 6, 23, 24, 25, 12, 26, 27, 28, 29, 42, 43, 44, 45, 46, 47, 48, 49, 50, 51, 52, 53, 54, 55, 56, 57, 58, 59, 60, 61, 62, 63, 64, 65, 66, 67, 68, 69] (by decide +kernel) (by decide +kernel)
set_option maxRecDepth 20000 in
theorem gX9_wishFor_X9_farBy : GoodIn wsX9_wishFor (wsV RX9 129 RX9 yX9_farBy wsX9_farBy) := goodIn_app (goodIn_of _ (by decide +kernel)) ggX9_wishFor_X9_farBy
set_option maxRecDepth 20000 in
theorem ggX9_wishFor_X9_latelyMost : GoodIn wsX9_wishFor wsX9_latelyMost := goodIn_r _ [37, 6, 2, 23, 24, 25, 12, 26, 42, 43, 44, 45, 46, 47, 48, 49, 50, 51, 52, 53, 54, 55, 56, 57, 58, 59, 60, 61, 62, 63, 64, 65, 66, 67, 68, 69] (by decide +kernel) (by decide +kernel)
set_option maxRecDepth 20000 in
theorem gX9_wishFor_X9_latelyMost : GoodIn wsX9_wishFor (wsV RX9 133 RX9 yX9_latelyMost wsX9_latelyMost) := goodIn_app (goodIn_of _ (by decide +kernel)) ggX9_wishFor_X9_latelyMost
set_option maxRecDepth 20000 in
theorem ggX9_wishFor_X9_leastBy : GoodIn wsX9_wishFor wsX9_leastBy := goodIn_r _ [41, 2, 6, 23, 24, 25, 12, 26, 42, 43, 44, 45, 46, 47, 48, 49, 50, 51, 52, 53, 54, 55, 56, 57, 58, 59, 60, 61, 62, 63, 64, 65, 66, 67, 68, 69] (by decide +kernel) (by decide +kernel)
set_option maxRecDepth 20000 in
theorem gX9_wishFor_X9_leastBy : GoodIn wsX9_wishFor (wsV RX9 137 RX9 yX9_leastBy wsX9_leastBy) := goodIn_app (goodIn_of _ (by decide +kernel)) ggX9_wishFor_X9_leastBy
theorem dX9_wishFor_0 : decode cX9_wishFor 0 = .ok (.aload_n 0, 1) := by decide +kernel
theorem dX9_wishFor_1 : decode cX9_wishFor 1 = .ok (.getfield 69, 3) := by decide +kernel
theorem dX9_wishFor_4 : decode cX9_wishFor 4 = .ok (.iconst 3, 1) := by decide +kernel
theorem dX9_wishFor_5 : decode cX9_wishFor 5 = .ok (.if_icmp .ne 7, 3) := by decide +kernel
theorem dX9_wishFor_8 : decode cX9_wishFor 8 = .ok (.aload_n 0, 1) := by decide +kernel
theorem dX9_wishFor_9 : decode cX9_wishFor 9 = .ok (.invokevirtual 119, 3) := by decide +kernel
theorem dX9_wishFor_12 : decode cX9_wishFor 12 = .ok (.aload_n 0, 1) := by decide +kernel
theorem dX9_wishFor_13 : decode cX9_wishFor 13 = .ok (.invokevirtual 112, 3) := by decide +kernel
theorem dX9_wishFor_16 : decode cX9_wishFor 16 = .ok (.istore_n 2, 1) := by decide +kernel
theorem dX9_wishFor_17 : decode cX9_wishFor 17 = .ok (.iload_n 2, 1) := by decide +kernel
theorem dX9_wishFor_18 : decode cX9_wishFor 18 = .ok (.aload_n 0, 1) := by decide +kernel
theorem dX9_wishFor_19 : decode cX9_wishFor 19 = .ok (.getfield 78, 3) := by decide +kernel
theorem dX9_wishFor_22 : decode cX9_wishFor 22 = .ok (.if_icmp .ge 59, 3) := by decide +kernel
theorem dX9_wishFor_25 : decode cX9_wishFor 25 = .ok (.aload_n 0, 1) := by decide +kernel
theorem dX9_wishFor_26 : decode cX9_wishFor 26 = .ok (.getfield 69, 3) := by decide +kernel
theorem dX9_wishFor_29 : decode cX9_wishFor 29 = .ok (.iconst 3, 1) := by decide +kernel
theorem dX9_wishFor_30 : decode cX9_wishFor 30 = .ok (.if_icmp .ne 29, 3) := by decide +kernel
theorem dX9_wishFor_33 : decode cX9_wishFor 33 = .ok (.aload_n 0, 1) := by decide +kernel
theorem dX9_wishFor_34 : decode cX9_wishFor 34 = .ok (.getfield 122, 3) := by decide +kernel
theorem dX9_wishFor_37 : decode cX9_wishFor 37 = .ok (.iload_n 1, 1) := by decide +kernel
theorem dX9_wishFor_38 : decode cX9_wishFor 38 = .ok (.aload_n 0, 1) := by decide +kernel
theorem dX9_wishFor_39 : decode cX9_wishFor 39 = .ok (.getfield 23, 3) := by decide +kernel
theorem dX9_wishFor_42 : decode cX9_wishFor 42 = .ok (.iload_n 2, 1) := by decide +kernel
theorem dX9_wishFor_43 : decode cX9_wishFor 43 = .ok (.iaload, 1) := by decide +kernel
theorem dX9_wishFor_44 : decode cX9_wishFor 44 = .ok (.isub, 1) := by decide +kernel
theorem dX9_wishFor_45 : decode cX9_wishFor 45 = .ok (.i2l, 1) := by decide +kernel
theorem dX9_wishFor_46 : decode cX9_wishFor 46 = .ok (.lmul, 1) := by decide +kernel
theorem dX9_wishFor_47 : decode cX9_wishFor 47 = .ok (.lneg, 1) := by decide +kernel
theorem dX9_wishFor_48 : decode cX9_wishFor 48 = .ok (.aload_n 0, 1) := by decide +kernel
theorem dX9_wishFor_49 : decode cX9_wishFor 49 = .ok (.getfield 126, 3) := by decide +kernel
theorem dX9_wishFor_52 : decode cX9_wishFor 52 = .ok (.invokestatic 115, 3) := by decide +kernel
theorem dX9_wishFor_55 : decode cX9_wishFor 55 = .ok (.lneg, 1) := by decide +kernel
theorem dX9_wishFor_56 : decode cX9_wishFor 56 = .ok (.goto 4, 3) := by decide +kernel
theorem dX9_wishFor_59 : decode cX9_wishFor 59 = .ok (.lconst 0, 1) := by decide +kernel
theorem dX9_wishFor_60 : decode cX9_wishFor 60 = .ok (.lstore_n 3, 1) := by decide +kernel
theorem dX9_wishFor_61 : decode cX9_wishFor 61 = .ok (.aload_n 0, 1) := by decide +kernel
theorem dX9_wishFor_62 : decode cX9_wishFor 62 = .ok (.getfield 47, 3) := by decide +kernel
theorem dX9_wishFor_65 : decode cX9_wishFor 65 = .ok (.iload_n 2, 1) := by decide +kernel
theorem dX9_wishFor_66 : decode cX9_wishFor 66 = .ok (.aload_n 0, 1) := by decide +kernel
theorem dX9_wishFor_67 : decode cX9_wishFor 67 = .ok (.iload_n 2, 1) := by decide +kernel
theorem dX9_wishFor_68 : decode cX9_wishFor 68 = .ok (.invokevirtual 103, 3) := by decide +kernel
theorem dX9_wishFor_71 : decode cX9_wishFor 71 = .ok (.i2l, 1) := by decide +kernel
theorem dX9_wishFor_72 : decode cX9_wishFor 72 = .ok (.lload_n 3, 1) := by decide +kernel
theorem dX9_wishFor_73 : decode cX9_wishFor 73 = .ok (.ladd, 1) := by decide +kernel
theorem dX9_wishFor_74 : decode cX9_wishFor 74 = .ok (.lastore, 1) := by decide +kernel
theorem dX9_wishFor_75 : decode cX9_wishFor 75 = .ok (.iinc 2 1, 3) := by decide +kernel
theorem dX9_wishFor_78 : decode cX9_wishFor 78 = .ok (.goto (-61), 3) := by decide +kernel
theorem dX9_wishFor_81 : decode cX9_wishFor 81 = .ok (.aload_n 0, 1) := by decide +kernel
theorem dX9_wishFor_82 : decode cX9_wishFor 82 = .ok (.getfield 69, 3) := by decide +kernel
theorem dX9_wishFor_85 : decode cX9_wishFor 85 = .ok (.ifCond .ne 8, 3) := by decide +kernel
theorem dX9_wishFor_88 : decode cX9_wishFor 88 = .ok (.aload_n 0, 1) := by decide +kernel
theorem dX9_wishFor_89 : decode cX9_wishFor 89 = .ok (.getfield 16, 3) := by decide +kernel
theorem dX9_wishFor_92 : decode cX9_wishFor 92 = .ok (.ireturn, 1) := by decide +kernel
theorem dX9_wishFor_93 : decode cX9_wishFor 93 = .ok (.aload_n 0, 1) := by decide +kernel
theorem dX9_wishFor_94 : decode cX9_wishFor 94 = .ok (.getfield 69, 3) := by decide +kernel
theorem dX9_wishFor_97 : decode cX9_wishFor 97 = .ok (.iconst 4, 1) := by decide +kernel
theorem dX9_wishFor_98 : decode cX9_wishFor 98 = .ok (.if_icmp .ne 13, 3) := by decide +kernel
theorem dX9_wishFor_101 : decode cX9_wishFor 101 = .ok (.aload_n 0, 1) := by decide +kernel
theorem dX9_wishFor_102 : decode cX9_wishFor 102 = .ok (.aload_n 0, 1) := by decide +kernel
theorem dX9_wishFor_103 : decode cX9_wishFor 103 = .ok (.getfield 16, 3) := by decide +kernel
theorem dX9_wishFor_106 : decode cX9_wishFor 106 = .ok (.invokevirtual 129, 3) := by decide +kernel
theorem dX9_wishFor_109 : decode cX9_wishFor 109 = .ok (.l2i, 1) := by decide +kernel
theorem dX9_wishFor_110 : decode cX9_wishFor 110 = .ok (.ireturn, 1) := by decide +kernel
theorem dX9_wishFor_111 : decode cX9_wishFor 111 = .ok (.aload_n 0, 1) := by decide +kernel
theorem dX9_wishFor_112 : decode cX9_wishFor 112 = .ok (.getfield 69, 3) := by decide +kernel
theorem dX9_wishFor_115 : decode cX9_wishFor 115 = .ok (.iconst 2, 1) := by decide +kernel
theorem dX9_wishFor_116 : decode cX9_wishFor 116 = .ok (.if_icmp .ne 17, 3) := by decide +kernel
theorem dX9_wishFor_119 : decode cX9_wishFor 119 = .ok (.aload_n 0, 1) := by decide +kernel
theorem dX9_wishFor_120 : decode cX9_wishFor 120 = .ok (.getfield 99, 3) := by decide +kernel
theorem dX9_wishFor_123 : decode cX9_wishFor 123 = .ok (.ifCond .eq 10, 3) := by decide +kernel
theorem dX9_wishFor_126 : decode cX9_wishFor 126 = .ok (.aload_n 0, 1) := by decide +kernel
theorem dX9_wishFor_127 : decode cX9_wishFor 127 = .ok (.invokevirtual 133, 3) := by decide +kernel
theorem dX9_wishFor_130 : decode cX9_wishFor 130 = .ok (.goto 11, 3) := by decide +kernel
theorem dX9_wishFor_133 : decode cX9_wishFor 133 = .ok (.aload_n 0, 1) := by decide +kernel
theorem dX9_wishFor_134 : decode cX9_wishFor 134 = .ok (.aload_n 0, 1) := by decide +kernel
theorem dX9_wishFor_135 : decode cX9_wishFor 135 = .ok (.getfield 16, 3) := by decide +kernel
theorem dX9_wishFor_138 : decode cX9_wishFor 138 = .ok (.invokevirtual 137, 3) := by decide +kernel
theorem dX9_wishFor_141 : decode cX9_wishFor 141 = .ok (.l2i, 1) := by decide +kernel
theorem dX9_wishFor_142 : decode cX9_wishFor 142 = .ok (.ireturn, 1) := by decide +kernel
theorem dX9_beside_0 : decode cX9_beside 0 = .ok (.bipush (-9), 2) := by decide +kernel
theorem dX9_beside_2 : decode cX9_beside 2 = .ok (.istore_n 3, 1) := by decide +kernel
theorem dX9_beside_3 : decode cX9_beside 3 = .ok (.iconst 0, 1) := by decide +kernel
theorem dX9_beside_4 : decode cX9_beside 4 = .ok (.istore 4, 2) := by decide +kernel
theorem dX9_beside_6 : decode cX9_beside 6 = .ok (.iload 4, 2) := by decide +kernel
theorem dX9_beside_8 : decode cX9_beside 8 = .ok (.aload_n 0, 1) := by decide +kernel
theorem dX9_beside_9 : decode cX9_beside 9 = .ok (.getfield 75, 3) := by decide +kernel
theorem dX9_beside_12 : decode cX9_beside 12 = .ok (.if_icmp .ge 119, 3) := by decide +kernel
theorem dX9_beside_15 : decode cX9_beside 15 = .ok (.iload_n 2, 1) := by decide +kernel
theorem dX9_beside_16 : decode cX9_beside 16 = .ok (.ifCond .eq 22, 3) := by decide +kernel
theorem dX9_beside_19 : decode cX9_beside 19 = .ok (.aload_n 0, 1) := by decide +kernel
theorem dX9_beside_20 : decode cX9_beside 20 = .ok (.getfield 35, 3) := by decide +kernel
theorem dX9_beside_23 : decode cX9_beside 23 = .ok (.iload 4, 2) := by decide +kernel
theorem dX9_beside_25 : decode cX9_beside 25 = .ok (.iaload, 1) := by decide +kernel
theorem dX9_beside_26 : decode cX9_beside 26 = .ok (.iload_n 1, 1) := by decide +kernel
theorem dX9_beside_27 : decode cX9_beside 27 = .ok (.if_icmp .ge 7, 3) := by decide +kernel
theorem dX9_beside_30 : decode cX9_beside 30 = .ok (.iconst 1, 1) := by decide +kernel
theorem dX9_beside_31 : decode cX9_beside 31 = .ok (.goto 23, 3) := by decide +kernel
theorem dX9_beside_34 : decode cX9_beside 34 = .ok (.iconst 0, 1) := by decide +kernel
theorem dX9_beside_35 : decode cX9_beside 35 = .ok (.goto 19, 3) := by decide +kernel
theorem dX9_beside_38 : decode cX9_beside 38 = .ok (.aload_n 0, 1) := by decide +kernel
theorem dX9_beside_39 : decode cX9_beside 39 = .ok (.getfield 35, 3) := by decide +kernel
theorem dX9_beside_42 : decode cX9_beside 42 = .ok (.iload 4, 2) := by decide +kernel
theorem dX9_beside_44 : decode cX9_beside 44 = .ok (.iaload, 1) := by decide +kernel
theorem dX9_beside_45 : decode cX9_beside 45 = .ok (.iload_n 1, 1) := by decide +kernel
theorem dX9_beside_46 : decode cX9_beside 46 = .ok (.if_icmp .le 7, 3) := by decide +kernel
theorem dX9_beside_49 : decode cX9_beside 49 = .ok (.iconst 1, 1) := by decide +kernel
theorem dX9_beside_50 : decode cX9_beside 50 = .ok (.goto 4, 3) := by decide +kernel
theorem dX9_beside_53 : decode cX9_beside 53 = .ok (.iconst 0, 1) := by decide +kernel
theorem dX9_beside_54 : decode cX9_beside 54 = .ok (.istore 5, 2) := by decide +kernel
theorem dX9_beside_56 : decode cX9_beside 56 = .ok (.iload_n 3, 1) := by decide +kernel
theorem dX9_beside_57 : decode cX9_beside 57 = .ok (.bipush (-9), 2) := by decide +kernel
theorem dX9_beside_59 : decode cX9_beside 59 = .ok (.if_icmp .eq 42, 3) := by decide +kernel
theorem dX9_beside_62 : decode cX9_beside 62 = .ok (.iload_n 2, 1) := by decide +kernel
theorem dX9_beside_63 : decode cX9_beside 63 = .ok (.ifCond .eq 22, 3) := by decide +kernel
theorem dX9_beside_66 : decode cX9_beside 66 = .ok (.aload_n 0, 1) := by decide +kernel
theorem dX9_beside_67 : decode cX9_beside 67 = .ok (.getfield 35, 3) := by decide +kernel
theorem dX9_beside_70 : decode cX9_beside 70 = .ok (.iload 4, 2) := by decide +kernel
theorem dX9_beside_72 : decode cX9_beside 72 = .ok (.iaload, 1) := by decide +kernel
theorem dX9_beside_73 : decode cX9_beside 73 = .ok (.aload_n 0, 1) := by decide +kernel
theorem dX9_beside_74 : decode cX9_beside 74 = .ok (.getfield 35, 3) := by decide +kernel
theorem dX9_beside_77 : decode cX9_beside 77 = .ok (.iload_n 3, 1) := by decide +kernel
theorem dX9_beside_78 : decode cX9_beside 78 = .ok (.iaload, 1) := by decide +kernel
theorem dX9_beside_79 : decode cX9_beside 79 = .ok (.if_icmp .le 26, 3) := by decide +kernel
theorem dX9_beside_82 : decode cX9_beside 82 = .ok (.goto 19, 3) := by decide +kernel
theorem dX9_beside_85 : decode cX9_beside 85 = .ok (.aload_n 0, 1) := by decide +kernel
theorem dX9_beside_86 : decode cX9_beside 86 = .ok (.getfield 35, 3) := by decide +kernel
theorem dX9_beside_89 : decode cX9_beside 89 = .ok (.iload 4, 2) := by decide +kernel
theorem dX9_beside_91 : decode cX9_beside 91 = .ok (.iaload, 1) := by decide +kernel
theorem dX9_beside_92 : decode cX9_beside 92 = .ok (.aload_n 0, 1) := by decide +kernel
theorem dX9_beside_93 : decode cX9_beside 93 = .ok (.getfield 35, 3) := by decide +kernel
theorem dX9_beside_96 : decode cX9_beside 96 = .ok (.iload_n 3, 1) := by decide +kernel
theorem dX9_beside_97 : decode cX9_beside 97 = .ok (.iaload, 1) := by decide +kernel
theorem dX9_beside_98 : decode cX9_beside 98 = .ok (.if_icmp .ge 7, 3) := by decide +kernel
theorem dX9_beside_101 : decode cX9_beside 101 = .ok (.iconst 1, 1) := by decide +kernel
theorem dX9_beside_102 : decode cX9_beside 102 = .ok (.goto 4, 3) := by decide +kernel
theorem dX9_beside_105 : decode cX9_beside 105 = .ok (.iconst 0, 1) := by decide +kernel
theorem dX9_beside_106 : decode cX9_beside 106 = .ok (.istore 6, 2) := by decide +kernel
theorem dX9_beside_108 : decode cX9_beside 108 = .ok (.iload 5, 2) := by decide +kernel
theorem dX9_beside_110 : decode cX9_beside 110 = .ok (.ifCond .eq 13, 3) := by decide +kernel
theorem dX9_beside_113 : decode cX9_beside 113 = .ok (.iload 6, 2) := by decide +kernel
theorem dX9_beside_115 : decode cX9_beside 115 = .ok (.ifCond .eq 8, 3) := by decide +kernel
theorem dX9_beside_118 : decode cX9_beside 118 = .ok (.iload 4, 2) := by decide +kernel
theorem dX9_beside_120 : decode cX9_beside 120 = .ok (.goto 4, 3) := by decide +kernel
theorem dX9_beside_123 : decode cX9_beside 123 = .ok (.iload_n 3, 1) := by decide +kernel
theorem dX9_beside_124 : decode cX9_beside 124 = .ok (.istore_n 3, 1) := by decide +kernel
theorem dX9_beside_125 : decode cX9_beside 125 = .ok (.iinc 4 1, 3) := by decide +kernel
theorem dX9_beside_128 : decode cX9_beside 128 = .ok (.goto (-122), 3) := by decide +kernel
theorem dX9_beside_131 : decode cX9_beside 131 = .ok (.iload_n 3, 1) := by decide +kernel
theorem dX9_beside_132 : decode cX9_beside 132 = .ok (.ireturn, 1) := by decide +kernel
set_option maxRecDepth 20000 in
theorem ggX9_timeFor_X9_wishFor : GoodIn wsX9_timeFor wsX9_wishFor := goodIn_r _ [8, 9, 10, 11, 12, 13, 14, 15, 16, 17, 18, 19, 7, 20, 21, 22, 23, 24, 25, 26, 27, 28, 29, 30, 31, 32, 33, 34, 35, 36, 37, 38, 39, 40, 41, 42, 43, 44, 45, 46, 47, 48, 55, 56, 57, 58, 59, 60, 61, 62, 63, 64, 65, 66, 67, 68, 69, 70, 71, 72, 73, 74, 75, 76, 77, 78, 79, 80, 81, 82] (by decide +kernel) (by decide +kernel)
set_option maxRecDepth 20000 in
theorem gX9_timeFor_X9_wishFor : GoodIn wsX9_timeFor (wsV RX9 140 RX9 yX9_wishFor wsX9_wishFor) := goodIn_app (goodIn_of _ (by decide +kernel)) ggX9_timeFor_X9_wishFor
set_option maxRecDepth 20000 in
theorem ggX9_timeFor_X9_beside : GoodIn wsX9_timeFor wsX9_beside := goodIn_r _ [52, 53, 54, 55, 56, 57, 58, 59, 60, 61, 62, 63, 64, 65, 66, 67, 68, 69, 70, 71, 72, 73, 74, 75, 76, 77, 78, 79, 80, 81, 82] (by decide +kernel) (by decide +kernel)
set_option maxRecDepth 20000 in
theorem gX9_timeFor_X9_beside : GoodIn wsX9_timeFor (wsV RX9 143 RX9 yX9_beside wsX9_beside) := goodIn_app (goodIn_of _ (by decide +kernel)) ggX9_timeFor_X9_beside
theorem dX9_timeFor_0 : decode cX9_timeFor 0 = .ok (.aload_n 0, 1) := by decide +kernel
theorem dX9_timeFor_1 : decode cX9_timeFor 1 = .ok (.iload_n 1, 1) := by decide +kernel
theorem dX9_timeFor_2 : decode cX9_timeFor 2 = .ok (.invokevirtual 140, 3) := by decide +kernel
theorem dX9_timeFor_5 : decode cX9_timeFor 5 = .ok (.aload_n 0, 1) := by decide +kernel
theorem dX9_timeFor_6 : decode cX9_timeFor 6 = .ok (.getfield 72, 3) := by decide +kernel
theorem dX9_timeFor_9 : decode cX9_timeFor 9 = .ok (.iadd, 1) := by decide +kernel
theorem dX9_timeFor_10 : decode cX9_timeFor 10 = .ok (.istore_n 3, 1) := by decide +kernel
theorem dX9_timeFor_11 : decode cX9_timeFor 11 = .ok (.aload_n 0, 1) := by decide +kernel
theorem dX9_timeFor_12 : decode cX9_timeFor 12 = .ok (.iload_n 1, 1) := by decide +kernel
theorem dX9_timeFor_13 : decode cX9_timeFor 13 = .ok (.iconst 1, 1) := by decide +kernel
theorem dX9_timeFor_14 : decode cX9_timeFor 14 = .ok (.invokevirtual 143, 3) := by decide +kernel
theorem dX9_timeFor_17 : decode cX9_timeFor 17 = .ok (.istore 4, 2) := by decide +kernel
theorem dX9_timeFor_19 : decode cX9_timeFor 19 = .ok (.aload_n 0, 1) := by decide +kernel
theorem dX9_timeFor_20 : decode cX9_timeFor 20 = .ok (.iload_n 1, 1) := by decide +kernel
theorem dX9_timeFor_21 : decode cX9_timeFor 21 = .ok (.iconst 0, 1) := by decide +kernel
theorem dX9_timeFor_22 : decode cX9_timeFor 22 = .ok (.invokevirtual 143, 3) := by decide +kernel
theorem dX9_timeFor_25 : decode cX9_timeFor 25 = .ok (.istore 5, 2) := by decide +kernel
theorem dX9_timeFor_27 : decode cX9_timeFor 27 = .ok (.iload 4, 2) := by decide +kernel
theorem dX9_timeFor_29 : decode cX9_timeFor 29 = .ok (.bipush (-9), 2) := by decide +kernel
theorem dX9_timeFor_31 : decode cX9_timeFor 31 = .ok (.if_icmp .eq 32, 3) := by decide +kernel
theorem dX9_timeFor_34 : decode cX9_timeFor 34 = .ok (.iload_n 3, 1) := by decide +kernel
theorem dX9_timeFor_35 : decode cX9_timeFor 35 = .ok (.aload_n 0, 1) := by decide +kernel
theorem dX9_timeFor_36 : decode cX9_timeFor 36 = .ok (.getfield 41, 3) := by decide +kernel
theorem dX9_timeFor_39 : decode cX9_timeFor 39 = .ok (.iload 4, 2) := by decide +kernel
theorem dX9_timeFor_41 : decode cX9_timeFor 41 = .ok (.iaload, 1) := by decide +kernel
theorem dX9_timeFor_42 : decode cX9_timeFor 42 = .ok (.bipush 20, 2) := by decide +kernel
theorem dX9_timeFor_44 : decode cX9_timeFor 44 = .ok (.iload_n 2, 1) := by decide +kernel
theorem dX9_timeFor_45 : decode cX9_timeFor 45 = .ok (.imul, 1) := by decide +kernel
theorem dX9_timeFor_46 : decode cX9_timeFor 46 = .ok (.isub, 1) := by decide +kernel
theorem dX9_timeFor_47 : decode cX9_timeFor 47 = .ok (.if_icmp .ge 16, 3) := by decide +kernel
theorem dX9_timeFor_50 : decode cX9_timeFor 50 = .ok (.aload_n 0, 1) := by decide +kernel
theorem dX9_timeFor_51 : decode cX9_timeFor 51 = .ok (.getfield 41, 3) := by decide +kernel
theorem dX9_timeFor_54 : decode cX9_timeFor 54 = .ok (.iload 4, 2) := by decide +kernel
theorem dX9_timeFor_56 : decode cX9_timeFor 56 = .ok (.iaload, 1) := by decide +kernel
theorem dX9_timeFor_57 : decode cX9_timeFor 57 = .ok (.bipush 20, 2) := by decide +kernel
theorem dX9_timeFor_59 : decode cX9_timeFor 59 = .ok (.iload_n 2, 1) := by decide +kernel
theorem dX9_timeFor_60 : decode cX9_timeFor 60 = .ok (.imul, 1) := by decide +kernel
theorem dX9_timeFor_61 : decode cX9_timeFor 61 = .ok (.isub, 1) := by decide +kernel
theorem dX9_timeFor_62 : decode cX9_timeFor 62 = .ok (.istore_n 3, 1) := by decide +kernel
theorem dX9_timeFor_63 : decode cX9_timeFor 63 = .ok (.iload 5, 2) := by decide +kernel
theorem dX9_timeFor_65 : decode cX9_timeFor 65 = .ok (.bipush (-9), 2) := by decide +kernel
theorem dX9_timeFor_67 : decode cX9_timeFor 67 = .ok (.if_icmp .eq 44, 3) := by decide +kernel
theorem dX9_timeFor_70 : decode cX9_timeFor 70 = .ok (.iload_n 3, 1) := by decide +kernel
theorem dX9_timeFor_71 : decode cX9_timeFor 71 = .ok (.aload_n 0, 1) := by decide +kernel
theorem dX9_timeFor_72 : decode cX9_timeFor 72 = .ok (.getfield 41, 3) := by decide +kernel
theorem dX9_timeFor_75 : decode cX9_timeFor 75 = .ok (.iload 5, 2) := by decide +kernel
theorem dX9_timeFor_77 : decode cX9_timeFor 77 = .ok (.iaload, 1) := by decide +kernel
theorem dX9_timeFor_78 : decode cX9_timeFor 78 = .ok (.bipush 20, 2) := by decide +kernel
theorem dX9_timeFor_80 : decode cX9_timeFor 80 = .ok (.aload_n 0, 1) := by decide +kernel
theorem dX9_timeFor_81 : decode cX9_timeFor 81 = .ok (.getfield 38, 3) := by decide +kernel
theorem dX9_timeFor_84 : decode cX9_timeFor 84 = .ok (.iload 5, 2) := by decide +kernel
theorem dX9_timeFor_86 : decode cX9_timeFor 86 = .ok (.iaload, 1) := by decide +kernel
theorem dX9_timeFor_87 : decode cX9_timeFor 87 = .ok (.imul, 1) := by decide +kernel
theorem dX9_timeFor_88 : decode cX9_timeFor 88 = .ok (.iadd, 1) := by decide +kernel
theorem dX9_timeFor_89 : decode cX9_timeFor 89 = .ok (.if_icmp .le 22, 3) := by decide +kernel
theorem dX9_timeFor_92 : decode cX9_timeFor 92 = .ok (.aload_n 0, 1) := by decide +kernel
theorem dX9_timeFor_93 : decode cX9_timeFor 93 = .ok (.getfield 41, 3) := by decide +kernel
theorem dX9_timeFor_96 : decode cX9_timeFor 96 = .ok (.iload 5, 2) := by decide +kernel
theorem dX9_timeFor_98 : decode cX9_timeFor 98 = .ok (.iaload, 1) := by decide +kernel
theorem dX9_timeFor_99 : decode cX9_timeFor 99 = .ok (.bipush 20, 2) := by decide +kernel
theorem dX9_timeFor_101 : decode cX9_timeFor 101 = .ok (.aload_n 0, 1) := by decide +kernel
theorem dX9_timeFor_102 : decode cX9_timeFor 102 = .ok (.getfield 38, 3) := by decide +kernel
theorem dX9_timeFor_105 : decode cX9_timeFor 105 = .ok (.iload 5, 2) := by decide +kernel
theorem dX9_timeFor_107 : decode cX9_timeFor 107 = .ok (.iaload, 1) := by decide +kernel
theorem dX9_timeFor_108 : decode cX9_timeFor 108 = .ok (.imul, 1) := by decide +kernel
theorem dX9_timeFor_109 : decode cX9_timeFor 109 = .ok (.iadd, 1) := by decide +kernel
theorem dX9_timeFor_110 : decode cX9_timeFor 110 = .ok (.istore_n 3, 1) := by decide +kernel
theorem dX9_timeFor_111 : decode cX9_timeFor 111 = .ok (.iload_n 3, 1) := by decide +kernel
theorem dX9_timeFor_112 : decode cX9_timeFor 112 = .ok (.ireturn, 1) := by decide +kernel
set_option maxRecDepth 20000 in
theorem ggX9_isPlayed_X9_delay : GoodIn wsX9_isPlayed wsX9_delay := goodIn_r _ [7, 8, 9, 10, 11, 12, 13, 14, 15, 16, 17, 18, 19, 20, 21, 22, 23, 24, 25, 26, 27, 28, 29, 30, 31, 32, 33, 34, 35, 36, 37] (by decide +kernel) (by decide +kernel)
set_option maxRecDepth 20000 in
theorem gX9_isPlayed_X9_delay : GoodIn wsX9_isPlayed (wsV RX9 103 RX9 yX9_delay wsX9_delay) := goodIn_app (goodIn_of _ (by decide +kernel)) ggX9_isPlayed_X9_delay
theorem dX9_isPlayed_0 : decode cX9_isPlayed 0 = .ok (.aload_n 0, 1) := by decide +kernel
theorem dX9_isPlayed_1 : decode cX9_isPlayed 1 = .ok (.iload_n 1, 1) := by decide +kernel
theorem dX9_isPlayed_2 : decode cX9_isPlayed 2 = .ok (.invokevirtual 103, 3) := by decide +kernel
theorem dX9_isPlayed_5 : decode cX9_isPlayed 5 = .ok (.aload_n 0, 1) := by decide +kernel
theorem dX9_isPlayed_6 : decode cX9_isPlayed 6 = .ok (.getfield 41, 3) := by decide +kernel
theorem dX9_isPlayed_9 : decode cX9_isPlayed 9 = .ok (.aload_n 0, 1) := by decide +kernel
theorem dX9_isPlayed_10 : decode cX9_isPlayed 10 = .ok (.getfield 29, 3) := by decide +kernel
theorem dX9_isPlayed_13 : decode cX9_isPlayed 13 = .ok (.iload_n 1, 1) := by decide +kernel
theorem dX9_isPlayed_14 : decode cX9_isPlayed 14 = .ok (.iaload, 1) := by decide +kernel
theorem dX9_isPlayed_15 : decode cX9_isPlayed 15 = .ok (.iaload, 1) := by decide +kernel
theorem dX9_isPlayed_16 : decode cX9_isPlayed 16 = .ok (.if_icmp .gt 7, 3) := by decide +kernel
theorem dX9_isPlayed_19 : decode cX9_isPlayed 19 = .ok (.iconst 1, 1) := by decide +kernel
theorem dX9_isPlayed_20 : decode cX9_isPlayed 20 = .ok (.goto 4, 3) := by decide +kernel
theorem dX9_isPlayed_23 : decode cX9_isPlayed 23 = .ok (.iconst 0, 1) := by decide +kernel
theorem dX9_isPlayed_24 : decode cX9_isPlayed 24 = .ok (.ireturn, 1) := by decide +kernel
theorem dX9_playedAt_0 : decode cX9_playedAt 0 = .ok (.bipush 20, 2) := by decide +kernel
theorem dX9_playedAt_2 : decode cX9_playedAt 2 = .ok (.aload_n 0, 1) := by decide +kernel
theorem dX9_playedAt_3 : decode cX9_playedAt 3 = .ok (.getfield 23, 3) := by decide +kernel
theorem dX9_playedAt_6 : decode cX9_playedAt 6 = .ok (.iload_n 1, 1) := by decide +kernel
theorem dX9_playedAt_7 : decode cX9_playedAt 7 = .ok (.iaload, 1) := by decide +kernel
theorem dX9_playedAt_8 : decode cX9_playedAt 8 = .ok (.imul, 1) := by decide +kernel
theorem dX9_playedAt_9 : decode cX9_playedAt 9 = .ok (.aload_n 0, 1) := by decide +kernel
theorem dX9_playedAt_10 : decode cX9_playedAt 10 = .ok (.getfield 41, 3) := by decide +kernel
theorem dX9_playedAt_13 : decode cX9_playedAt 13 = .ok (.aload_n 0, 1) := by decide +kernel
theorem dX9_playedAt_14 : decode cX9_playedAt 14 = .ok (.getfield 29, 3) := by decide +kernel
theorem dX9_playedAt_17 : decode cX9_playedAt 17 = .ok (.iload_n 1, 1) := by decide +kernel
theorem dX9_playedAt_18 : decode cX9_playedAt 18 = .ok (.iaload, 1) := by decide +kernel
theorem dX9_playedAt_19 : decode cX9_playedAt 19 = .ok (.iaload, 1) := by decide +kernel
theorem dX9_playedAt_20 : decode cX9_playedAt 20 = .ok (.iadd, 1) := by decide +kernel
theorem dX9_playedAt_21 : decode cX9_playedAt 21 = .ok (.ireturn, 1) := by decide +kernel
set_option maxRecDepth 20000 in
theorem ggX9_ofFrame_X9_within : GoodIn wsX9_ofFrame wsX9_within := goodIn_r _ [7] (by decide +kernel) (by decide +kernel)
set_option maxRecDepth 20000 in
theorem gX9_ofFrame_X9_within : GoodIn wsX9_ofFrame (va_wsS RX9 54 yX9_within wsX9_within) := goodIn_app (goodIn_of _ (by decide +kernel)) ggX9_ofFrame_X9_within
set_option maxRecDepth 20000 in
theorem ggX9_ofFrame_X9_delay : GoodIn wsX9_ofFrame wsX9_delay := goodIn_r _ [11, 2, 12, 22, 23, 24, 25, 26, 27, 28, 29, 30, 31, 32, 33, 34, 35, 36, 37, 38, 39, 40, 41, 42, 43, 44, 45, 46, 47, 48, 49] (by decide +kernel) (by decide +kernel)
set_option maxRecDepth 20000 in
theorem gX9_ofFrame_X9_delay : GoodIn wsX9_ofFrame (wsV RX9 103 RX9 yX9_delay wsX9_delay) := goodIn_app (goodIn_of _ (by decide +kernel)) ggX9_ofFrame_X9_delay
set_option maxRecDepth 20000 in
theorem ggX9_ofFrame_X9_isPlayed : GoodIn wsX9_ofFrame wsX9_isPlayed := goodIn_r _ [16, 17, 3, 8, 9, 10, 6, 11, 2, 12, 22, 23, 24, 25, 26, 27, 28, 29, 30, 31, 32, 33, 34, 35, 36, 37, 38, 39, 40, 41, 42, 43, 44, 45, 46, 47, 48, 49] (by decide +kernel) (by decide +kernel)
set_option maxRecDepth 20000 in
theorem gX9_ofFrame_X9_isPlayed : GoodIn wsX9_ofFrame (wsV RX9 147 RX9 yX9_isPlayed wsX9_isPlayed) := goodIn_app (goodIn_of _ (by decide +kernel)) ggX9_ofFrame_X9_isPlayed
set_option maxRecDepth 20000 in
theorem ggX9_ofFrame_X9_playedAt : GoodIn wsX9_ofFrame wsX9_playedAt := goodIn_r _ [21, 12, 17, 3, 22, 23, 24, 25, 26, 27, 28, 29, 30, 31, 32, 33, 34, 35, 36, 37, 38, 39, 40, 41, 42, 43, 44, 45, 46, 47, 48, 49] (by decide +kernel) (by decide +kernel)
set_option maxRecDepth 20000 in
theorem gX9_ofFrame_X9_playedAt : GoodIn wsX9_ofFrame (wsV RX9 151 RX9 yX9_playedAt wsX9_playedAt) := goodIn_app (goodIn_of _ (by decide +kernel)) ggX9_ofFrame_X9_playedAt
theorem dX9_ofFrame_0 : decode cX9_ofFrame 0 = .ok (.iload_n 1, 1) := by decide +kernel
theorem dX9_ofFrame_1 : decode cX9_ofFrame 1 = .ok (.iconst 0, 1) := by decide +kernel
theorem dX9_ofFrame_2 : decode cX9_ofFrame 2 = .ok (.sipush 299, 3) := by decide +kernel
theorem dX9_ofFrame_5 : decode cX9_ofFrame 5 = .ok (.invokestatic 54, 3) := by decide +kernel
theorem dX9_ofFrame_8 : decode cX9_ofFrame 8 = .ok (.ifCond .eq 14, 3) := by decide +kernel
theorem dX9_ofFrame_11 : decode cX9_ofFrame 11 = .ok (.aload_n 0, 1) := by decide +kernel
theorem dX9_ofFrame_12 : decode cX9_ofFrame 12 = .ok (.getfield 32, 3) := by decide +kernel
theorem dX9_ofFrame_15 : decode cX9_ofFrame 15 = .ok (.iload_n 1, 1) := by decide +kernel
theorem dX9_ofFrame_16 : decode cX9_ofFrame 16 = .ok (.iaload, 1) := by decide +kernel
theorem dX9_ofFrame_17 : decode cX9_ofFrame 17 = .ok (.bipush (-9), 2) := by decide +kernel
theorem dX9_ofFrame_19 : decode cX9_ofFrame 19 = .ok (.if_icmp .ne 5, 3) := by decide +kernel
theorem dX9_ofFrame_22 : decode cX9_ofFrame 22 = .ok (.iconst (-1), 1) := by decide +kernel
theorem dX9_ofFrame_23 : decode cX9_ofFrame 23 = .ok (.ireturn, 1) := by decide +kernel
theorem dX9_ofFrame_24 : decode cX9_ofFrame 24 = .ok (.aload_n 0, 1) := by decide +kernel
theorem dX9_ofFrame_25 : decode cX9_ofFrame 25 = .ok (.getfield 32, 3) := by decide +kernel
theorem dX9_ofFrame_28 : decode cX9_ofFrame 28 = .ok (.iload_n 1, 1) := by decide +kernel
theorem dX9_ofFrame_29 : decode cX9_ofFrame 29 = .ok (.iaload, 1) := by decide +kernel
theorem dX9_ofFrame_30 : decode cX9_ofFrame 30 = .ok (.istore_n 3, 1) := by decide +kernel
theorem dX9_ofFrame_31 : decode cX9_ofFrame 31 = .ok (.iload_n 2, 1) := by decide +kernel
theorem dX9_ofFrame_32 : decode cX9_ofFrame 32 = .ok (.tableswitch 81 0 4 #[36, 43, 53, 60, 79], 36) := by decide +kernel
theorem dX9_ofFrame_68 : decode cX9_ofFrame 68 = .ok (.aload_n 0, 1) := by decide +kernel
theorem dX9_ofFrame_69 : decode cX9_ofFrame 69 = .ok (.getfield 26, 3) := by decide +kernel
theorem dX9_ofFrame_72 : decode cX9_ofFrame 72 = .ok (.iload_n 3, 1) := by decide +kernel
theorem dX9_ofFrame_73 : decode cX9_ofFrame 73 = .ok (.iaload, 1) := by decide +kernel
theorem dX9_ofFrame_74 : decode cX9_ofFrame 74 = .ok (.ireturn, 1) := by decide +kernel
theorem dX9_ofFrame_75 : decode cX9_ofFrame 75 = .ok (.aload_n 0, 1) := by decide +kernel
theorem dX9_ofFrame_76 : decode cX9_ofFrame 76 = .ok (.iload_n 3, 1) := by decide +kernel
theorem dX9_ofFrame_77 : decode cX9_ofFrame 77 = .ok (.invokevirtual 103, 3) := by decide +kernel
theorem dX9_ofFrame_80 : decode cX9_ofFrame 80 = .ok (.sipush 10000, 3) := by decide +kernel
theorem dX9_ofFrame_83 : decode cX9_ofFrame 83 = .ok (.iadd, 1) := by decide +kernel
theorem dX9_ofFrame_84 : decode cX9_ofFrame 84 = .ok (.ireturn, 1) := by decide +kernel
theorem dX9_ofFrame_85 : decode cX9_ofFrame 85 = .ok (.aload_n 0, 1) := by decide +kernel
theorem dX9_ofFrame_86 : decode cX9_ofFrame 86 = .ok (.getfield 29, 3) := by decide +kernel
theorem dX9_ofFrame_89 : decode cX9_ofFrame 89 = .ok (.iload_n 3, 1) := by decide +kernel
theorem dX9_ofFrame_90 : decode cX9_ofFrame 90 = .ok (.iaload, 1) := by decide +kernel
theorem dX9_ofFrame_91 : decode cX9_ofFrame 91 = .ok (.ireturn, 1) := by decide +kernel
theorem dX9_ofFrame_92 : decode cX9_ofFrame 92 = .ok (.aload_n 0, 1) := by decide +kernel
theorem dX9_ofFrame_93 : decode cX9_ofFrame 93 = .ok (.iload_n 3, 1) := by decide +kernel
theorem dX9_ofFrame_94 : decode cX9_ofFrame 94 = .ok (.invokevirtual 147, 3) := by decide +kernel
theorem dX9_ofFrame_97 : decode cX9_ofFrame 97 = .ok (.ifCond .eq 11, 3) := by decide +kernel
theorem dX9_ofFrame_100 : decode cX9_ofFrame 100 = .ok (.aload_n 0, 1) := by decide +kernel
theorem dX9_ofFrame_101 : decode cX9_ofFrame 101 = .ok (.iload_n 3, 1) := by decide +kernel
theorem dX9_ofFrame_102 : decode cX9_ofFrame 102 = .ok (.invokevirtual 151, 3) := by decide +kernel
theorem dX9_ofFrame_105 : decode cX9_ofFrame 105 = .ok (.goto 5, 3) := by decide +kernel
theorem dX9_ofFrame_108 : decode cX9_ofFrame 108 = .ok (.bipush (-9), 2) := by decide +kernel
theorem dX9_ofFrame_110 : decode cX9_ofFrame 110 = .ok (.ireturn, 1) := by decide +kernel
theorem dX9_ofFrame_111 : decode cX9_ofFrame 111 = .ok (.iload_n 3, 1) := by decide +kernel
end
section
theorem dX9_ofFrame_112 : decode cX9_ofFrame 112 = .ok (.ireturn, 1) := by decide +kernel
theorem dX9_ofFrame_113 : decode cX9_ofFrame 113 = .ok (.bipush (-2), 2) := by decide +kernel
theorem dX9_ofFrame_115 : decode cX9_ofFrame 115 = .ok (.ireturn, 1) := by decide +kernel
set_option maxRecDepth 20000 in
theorem ggX9_counts_X9_isPlayed : GoodIn wsX9_counts wsX9_isPlayed := goodIn_r _ [12, 13, 6, 14, 15, 16, 11, 17, 18, 7, 19, 20, 21, 22, 23, 24, 25, 26, 27, 28, 29, 30, 31, 32, 33, 34, 35, 36, 37, 38, 39, 40, 41, 42, 43, 44, 45, 46] (by decide +kernel) (by decide +kernel)
set_option maxRecDepth 20000 in
theorem gX9_counts_X9_isPlayed : GoodIn wsX9_counts (wsV RX9 147 RX9 yX9_isPlayed wsX9_isPlayed) := goodIn_app (goodIn_of _ (by decide +kernel)) ggX9_counts_X9_isPlayed
theorem dX9_counts_0 : decode cX9_counts 0 = .ok (.aload_n 0, 1) := by decide +kernel
theorem dX9_counts_1 : decode cX9_counts 1 = .ok (.iconst 0, 1) := by decide +kernel
theorem dX9_counts_2 : decode cX9_counts 2 = .ok (.putfield 154, 3) := by decide +kernel
theorem dX9_counts_5 : decode cX9_counts 5 = .ok (.aload_n 0, 1) := by decide +kernel
theorem dX9_counts_6 : decode cX9_counts 6 = .ok (.iconst 0, 1) := by decide +kernel
theorem dX9_counts_7 : decode cX9_counts 7 = .ok (.putfield 157, 3) := by decide +kernel
theorem dX9_counts_10 : decode cX9_counts 10 = .ok (.aload_n 0, 1) := by decide +kernel
theorem dX9_counts_11 : decode cX9_counts 11 = .ok (.aload_n 0, 1) := by decide +kernel
theorem dX9_counts_12 : decode cX9_counts 12 = .ok (.getfield 35, 3) := by decide +kernel
theorem dX9_counts_15 : decode cX9_counts 15 = .ok (.iload_n 1, 1) := by decide +kernel
theorem dX9_counts_16 : decode cX9_counts 16 = .ok (.iaload, 1) := by decide +kernel
theorem dX9_counts_17 : decode cX9_counts 17 = .ok (.putfield 160, 3) := by decide +kernel
theorem dX9_counts_20 : decode cX9_counts 20 = .ok (.iconst 0, 1) := by decide +kernel
theorem dX9_counts_21 : decode cX9_counts 21 = .ok (.istore_n 2, 1) := by decide +kernel
theorem dX9_counts_22 : decode cX9_counts 22 = .ok (.iload_n 2, 1) := by decide +kernel
theorem dX9_counts_23 : decode cX9_counts 23 = .ok (.aload_n 0, 1) := by decide +kernel
theorem dX9_counts_24 : decode cX9_counts 24 = .ok (.getfield 78, 3) := by decide +kernel
theorem dX9_counts_27 : decode cX9_counts 27 = .ok (.if_icmp .ge 81, 3) := by decide +kernel
theorem dX9_counts_30 : decode cX9_counts 30 = .ok (.aload_n 0, 1) := by decide +kernel
theorem dX9_counts_31 : decode cX9_counts 31 = .ok (.getfield 29, 3) := by decide +kernel
theorem dX9_counts_34 : decode cX9_counts 34 = .ok (.iload_n 2, 1) := by decide +kernel
theorem dX9_counts_35 : decode cX9_counts 35 = .ok (.iaload, 1) := by decide +kernel
theorem dX9_counts_36 : decode cX9_counts 36 = .ok (.iload_n 1, 1) := by decide +kernel
theorem dX9_counts_37 : decode cX9_counts 37 = .ok (.if_icmp .ne 65, 3) := by decide +kernel
theorem dX9_counts_40 : decode cX9_counts 40 = .ok (.aload_n 0, 1) := by decide +kernel
theorem dX9_counts_41 : decode cX9_counts 41 = .ok (.dup, 1) := by decide +kernel
theorem dX9_counts_42 : decode cX9_counts 42 = .ok (.getfield 154, 3) := by decide +kernel
theorem dX9_counts_45 : decode cX9_counts 45 = .ok (.iconst 1, 1) := by decide +kernel
theorem dX9_counts_46 : decode cX9_counts 46 = .ok (.iadd, 1) := by decide +kernel
theorem dX9_counts_47 : decode cX9_counts 47 = .ok (.putfield 154, 3) := by decide +kernel
theorem dX9_counts_50 : decode cX9_counts 50 = .ok (.aload_n 0, 1) := by decide +kernel
theorem dX9_counts_51 : decode cX9_counts 51 = .ok (.dup, 1) := by decide +kernel
theorem dX9_counts_52 : decode cX9_counts 52 = .ok (.getfield 157, 3) := by decide +kernel
theorem dX9_counts_55 : decode cX9_counts 55 = .ok (.aload_n 0, 1) := by decide +kernel
theorem dX9_counts_56 : decode cX9_counts 56 = .ok (.iload_n 2, 1) := by decide +kernel
theorem dX9_counts_57 : decode cX9_counts 57 = .ok (.invokevirtual 147, 3) := by decide +kernel
theorem dX9_counts_60 : decode cX9_counts 60 = .ok (.ifCond .eq 7, 3) := by decide +kernel
theorem dX9_counts_63 : decode cX9_counts 63 = .ok (.iconst 1, 1) := by decide +kernel
theorem dX9_counts_64 : decode cX9_counts 64 = .ok (.goto 4, 3) := by decide +kernel
theorem dX9_counts_67 : decode cX9_counts 67 = .ok (.iconst 0, 1) := by decide +kernel
theorem dX9_counts_68 : decode cX9_counts 68 = .ok (.iadd, 1) := by decide +kernel
theorem dX9_counts_69 : decode cX9_counts 69 = .ok (.putfield 157, 3) := by decide +kernel
theorem dX9_counts_72 : decode cX9_counts 72 = .ok (.aload_n 0, 1) := by decide +kernel
theorem dX9_counts_73 : decode cX9_counts 73 = .ok (.aload_n 0, 1) := by decide +kernel
theorem dX9_counts_74 : decode cX9_counts 74 = .ok (.getfield 23, 3) := by decide +kernel
theorem dX9_counts_77 : decode cX9_counts 77 = .ok (.iload_n 2, 1) := by decide +kernel
theorem dX9_counts_78 : decode cX9_counts 78 = .ok (.iaload, 1) := by decide +kernel
theorem dX9_counts_79 : decode cX9_counts 79 = .ok (.aload_n 0, 1) := by decide +kernel
theorem dX9_counts_80 : decode cX9_counts 80 = .ok (.getfield 160, 3) := by decide +kernel
theorem dX9_counts_83 : decode cX9_counts 83 = .ok (.if_icmp .le 12, 3) := by decide +kernel
theorem dX9_counts_86 : decode cX9_counts 86 = .ok (.aload_n 0, 1) := by decide +kernel
theorem dX9_counts_87 : decode cX9_counts 87 = .ok (.getfield 23, 3) := by decide +kernel
theorem dX9_counts_90 : decode cX9_counts 90 = .ok (.iload_n 2, 1) := by decide +kernel
theorem dX9_counts_91 : decode cX9_counts 91 = .ok (.iaload, 1) := by decide +kernel
theorem dX9_counts_92 : decode cX9_counts 92 = .ok (.goto 7, 3) := by decide +kernel
theorem dX9_counts_95 : decode cX9_counts 95 = .ok (.aload_n 0, 1) := by decide +kernel
theorem dX9_counts_96 : decode cX9_counts 96 = .ok (.getfield 160, 3) := by decide +kernel
theorem dX9_counts_99 : decode cX9_counts 99 = .ok (.putfield 160, 3) := by decide +kernel
theorem dX9_counts_102 : decode cX9_counts 102 = .ok (.iinc 2 1, 3) := by decide +kernel
theorem dX9_counts_105 : decode cX9_counts 105 = .ok (.goto (-83), 3) := by decide +kernel
theorem dX9_counts_108 : decode cX9_counts 108 = .ok (.return_, 1) := by decide +kernel
set_option maxRecDepth 20000 in
theorem ggX9_missing_X9_counts : GoodIn wsX9_missing wsX9_counts := goodIn_r _ [8, 3, 9, 2, 1, 10, 11, 12, 13, 14, 15, 7, 16, 17, 18, 19, 20, 21, 22, 23, 24, 25, 26, 27, 28, 29, 30, 31, 32, 33, 34, 35, 36, 37, 38, 39, 40, 41, 42, 43, 44, 45, 46, 47, 48, 49, 50] (by decide +kernel) (by decide +kernel)
set_option maxRecDepth 20000 in
theorem gX9_missing_X9_counts : GoodIn wsX9_missing (wsV RX9 163 RX9 yX9_counts wsX9_counts) := goodIn_app (goodIn_of _ (by decide +kernel)) ggX9_missing_X9_counts
theorem dX9_missing_0 : decode cX9_missing 0 = .ok (.aload_n 0, 1) := by decide +kernel
theorem dX9_missing_1 : decode cX9_missing 1 = .ok (.iload_n 1, 1) := by decide +kernel
theorem dX9_missing_2 : decode cX9_missing 2 = .ok (.invokevirtual 163, 3) := by decide +kernel
theorem dX9_missing_5 : decode cX9_missing 5 = .ok (.aload_n 0, 1) := by decide +kernel
theorem dX9_missing_6 : decode cX9_missing 6 = .ok (.getfield 160, 3) := by decide +kernel
theorem dX9_missing_9 : decode cX9_missing 9 = .ok (.aload_n 0, 1) := by decide +kernel
theorem dX9_missing_10 : decode cX9_missing 10 = .ok (.getfield 35, 3) := by decide +kernel
theorem dX9_missing_13 : decode cX9_missing 13 = .ok (.iload_n 1, 1) := by decide +kernel
theorem dX9_missing_14 : decode cX9_missing 14 = .ok (.iaload, 1) := by decide +kernel
theorem dX9_missing_15 : decode cX9_missing 15 = .ok (.isub, 1) := by decide +kernel
theorem dX9_missing_16 : decode cX9_missing 16 = .ok (.iconst 1, 1) := by decide +kernel
theorem dX9_missing_17 : decode cX9_missing 17 = .ok (.iadd, 1) := by decide +kernel
theorem dX9_missing_18 : decode cX9_missing 18 = .ok (.aload_n 0, 1) := by decide +kernel
theorem dX9_missing_19 : decode cX9_missing 19 = .ok (.getfield 154, 3) := by decide +kernel
theorem dX9_missing_22 : decode cX9_missing 22 = .ok (.isub, 1) := by decide +kernel
theorem dX9_missing_23 : decode cX9_missing 23 = .ok (.ireturn, 1) := by decide +kernel
set_option maxRecDepth 20000 in
theorem ggX9_isSpurt_X9_within : GoodIn wsX9_isSpurt wsX9_within := goodIn_r _ [5] (by decide +kernel) (by decide +kernel)
set_option maxRecDepth 20000 in
theorem gX9_isSpurt_X9_within : GoodIn wsX9_isSpurt (va_wsS RX9 54 yX9_within wsX9_within) := goodIn_app (goodIn_of _ (by decide +kernel)) ggX9_isSpurt_X9_within
theorem dX9_isSpurt_0 : decode cX9_isSpurt 0 = .ok (.iload_n 1, 1) := by decide +kernel
theorem dX9_isSpurt_1 : decode cX9_isSpurt 1 = .ok (.iconst 0, 1) := by decide +kernel
theorem dX9_isSpurt_2 : decode cX9_isSpurt 2 = .ok (.aload_n 0, 1) := by decide +kernel
theorem dX9_isSpurt_3 : decode cX9_isSpurt 3 = .ok (.getfield 75, 3) := by decide +kernel
theorem dX9_isSpurt_6 : decode cX9_isSpurt 6 = .ok (.iconst 1, 1) := by decide +kernel
theorem dX9_isSpurt_7 : decode cX9_isSpurt 7 = .ok (.isub, 1) := by decide +kernel
theorem dX9_isSpurt_8 : decode cX9_isSpurt 8 = .ok (.invokestatic 54, 3) := by decide +kernel
theorem dX9_isSpurt_11 : decode cX9_isSpurt 11 = .ok (.ireturn, 1) := by decide +kernel
set_option maxRecDepth 20000 in
theorem ggX9_ofSpurt_X9_isSpurt : GoodIn wsX9_ofSpurt wsX9_isSpurt := goodIn_r _ [12, 13, 14, 15, 11, 16, 37, 38, 39, 40, 41, 42, 43, 44, 45, 46, 47, 48, 49, 50, 51, 52, 53, 54, 55, 56, 57, 58, 59, 60, 61, 62, 63, 64] (by decide +kernel) (by decide +kernel)
set_option maxRecDepth 20000 in
theorem gX9_ofSpurt_X9_isSpurt : GoodIn wsX9_ofSpurt (wsV RX9 166 RX9 yX9_isSpurt wsX9_isSpurt) := goodIn_app (goodIn_of _ (by decide +kernel)) ggX9_ofSpurt_X9_isSpurt
set_option maxRecDepth 20000 in
theorem ggX9_ofSpurt_X9_counts : GoodIn wsX9_ofSpurt wsX9_counts := goodIn_r _ [20, 4, 5, 1, 6, 21, 22, 23, 24, 25, 26, 11, 27, 3, 28, 29, 30, 31, 32, 37, 38, 39, 40, 41, 42, 43, 44, 45, 46, 47, 48, 49, 50, 51, 52, 53, 54, 55, 56, 57, 58, 59, 60, 61, 62, 63, 64] (by decide +kernel) (by decide +kernel)
set_option maxRecDepth 20000 in
theorem gX9_ofSpurt_X9_counts : GoodIn wsX9_ofSpurt (wsV RX9 163 RX9 yX9_counts wsX9_counts) := goodIn_app (goodIn_of _ (by decide +kernel)) ggX9_ofSpurt_X9_counts
set_option maxRecDepth 20000 in
theorem ggX9_ofSpurt_X9_missing : GoodIn wsX9_ofSpurt wsX9_missing := goodIn_r _ [36, 6, 1, 4, 17, 18, 19, 11, 20, 5, 21, 22, 23, 24, 25, 26, 27, 3, 28, 29, 30, 31, 32, 37, 38, 39, 40, 41, 42, 43, 44, 45, 46, 47, 48, 49, 50, 51, 52, 53, 54, 55, 56, 57, 58, 59, 60, 61, 62, 63, 64] (by decide +kernel) (by decide +kernel)
set_option maxRecDepth 20000 in
theorem gX9_ofSpurt_X9_missing : GoodIn wsX9_ofSpurt (wsV RX9 169 RX9 yX9_missing wsX9_missing) := goodIn_app (goodIn_of _ (by decide +kernel)) ggX9_ofSpurt_X9_missing
theorem dX9_ofSpurt_0 : decode cX9_ofSpurt 0 = .ok (.aload_n 0, 1) := by decide +kernel
theorem dX9_ofSpurt_1 : decode cX9_ofSpurt 1 = .ok (.iload_n 1, 1) := by decide +kernel
theorem dX9_ofSpurt_2 : decode cX9_ofSpurt 2 = .ok (.invokevirtual 166, 3) := by decide +kernel
theorem dX9_ofSpurt_5 : decode cX9_ofSpurt 5 = .ok (.ifCond .ne 5, 3) := by decide +kernel
theorem dX9_ofSpurt_8 : decode cX9_ofSpurt 8 = .ok (.iconst (-1), 1) := by decide +kernel
theorem dX9_ofSpurt_9 : decode cX9_ofSpurt 9 = .ok (.ireturn, 1) := by decide +kernel
theorem dX9_ofSpurt_10 : decode cX9_ofSpurt 10 = .ok (.aload_n 0, 1) := by decide +kernel
theorem dX9_ofSpurt_11 : decode cX9_ofSpurt 11 = .ok (.iload_n 1, 1) := by decide +kernel
theorem dX9_ofSpurt_12 : decode cX9_ofSpurt 12 = .ok (.invokevirtual 163, 3) := by decide +kernel
theorem dX9_ofSpurt_15 : decode cX9_ofSpurt 15 = .ok (.iload_n 2, 1) := by decide +kernel
theorem dX9_ofSpurt_16 : decode cX9_ofSpurt 16 = .ok (.tableswitch 115 0 8 #[52, 59, 66, 77, 82, 87, 97, 103, 108], 52) := by decide +kernel
theorem dX9_ofSpurt_68 : decode cX9_ofSpurt 68 = .ok (.aload_n 0, 1) := by decide +kernel
theorem dX9_ofSpurt_69 : decode cX9_ofSpurt 69 = .ok (.getfield 35, 3) := by decide +kernel
theorem dX9_ofSpurt_72 : decode cX9_ofSpurt 72 = .ok (.iload_n 1, 1) := by decide +kernel
theorem dX9_ofSpurt_73 : decode cX9_ofSpurt 73 = .ok (.iaload, 1) := by decide +kernel
theorem dX9_ofSpurt_74 : decode cX9_ofSpurt 74 = .ok (.ireturn, 1) := by decide +kernel
theorem dX9_ofSpurt_75 : decode cX9_ofSpurt 75 = .ok (.aload_n 0, 1) := by decide +kernel
theorem dX9_ofSpurt_76 : decode cX9_ofSpurt 76 = .ok (.getfield 38, 3) := by decide +kernel
theorem dX9_ofSpurt_79 : decode cX9_ofSpurt 79 = .ok (.iload_n 1, 1) := by decide +kernel
theorem dX9_ofSpurt_80 : decode cX9_ofSpurt 80 = .ok (.iaload, 1) := by decide +kernel
theorem dX9_ofSpurt_81 : decode cX9_ofSpurt 81 = .ok (.ireturn, 1) := by decide +kernel
theorem dX9_ofSpurt_82 : decode cX9_ofSpurt 82 = .ok (.aload_n 0, 1) := by decide +kernel
theorem dX9_ofSpurt_83 : decode cX9_ofSpurt 83 = .ok (.getfield 41, 3) := by decide +kernel
theorem dX9_ofSpurt_86 : decode cX9_ofSpurt 86 = .ok (.iload_n 1, 1) := by decide +kernel
theorem dX9_ofSpurt_87 : decode cX9_ofSpurt 87 = .ok (.iaload, 1) := by decide +kernel
theorem dX9_ofSpurt_88 : decode cX9_ofSpurt 88 = .ok (.sipush 10000, 3) := by decide +kernel
theorem dX9_ofSpurt_91 : decode cX9_ofSpurt 91 = .ok (.iadd, 1) := by decide +kernel
theorem dX9_ofSpurt_92 : decode cX9_ofSpurt 92 = .ok (.ireturn, 1) := by decide +kernel
theorem dX9_ofSpurt_93 : decode cX9_ofSpurt 93 = .ok (.aload_n 0, 1) := by decide +kernel
theorem dX9_ofSpurt_94 : decode cX9_ofSpurt 94 = .ok (.getfield 154, 3) := by decide +kernel
theorem dX9_ofSpurt_97 : decode cX9_ofSpurt 97 = .ok (.ireturn, 1) := by decide +kernel
theorem dX9_ofSpurt_98 : decode cX9_ofSpurt 98 = .ok (.aload_n 0, 1) := by decide +kernel
theorem dX9_ofSpurt_99 : decode cX9_ofSpurt 99 = .ok (.getfield 157, 3) := by decide +kernel
theorem dX9_ofSpurt_102 : decode cX9_ofSpurt 102 = .ok (.ireturn, 1) := by decide +kernel
theorem dX9_ofSpurt_103 : decode cX9_ofSpurt 103 = .ok (.aload_n 0, 1) := by decide +kernel
theorem dX9_ofSpurt_104 : decode cX9_ofSpurt 104 = .ok (.getfield 154, 3) := by decide +kernel
theorem dX9_ofSpurt_107 : decode cX9_ofSpurt 107 = .ok (.aload_n 0, 1) := by decide +kernel
theorem dX9_ofSpurt_108 : decode cX9_ofSpurt 108 = .ok (.getfield 157, 3) := by decide +kernel
theorem dX9_ofSpurt_111 : decode cX9_ofSpurt 111 = .ok (.isub, 1) := by decide +kernel
theorem dX9_ofSpurt_112 : decode cX9_ofSpurt 112 = .ok (.ireturn, 1) := by decide +kernel
theorem dX9_ofSpurt_113 : decode cX9_ofSpurt 113 = .ok (.aload_n 0, 1) := by decide +kernel
theorem dX9_ofSpurt_114 : decode cX9_ofSpurt 114 = .ok (.iload_n 1, 1) := by decide +kernel
theorem dX9_ofSpurt_115 : decode cX9_ofSpurt 115 = .ok (.invokevirtual 169, 3) := by decide +kernel
theorem dX9_ofSpurt_118 : decode cX9_ofSpurt 118 = .ok (.ireturn, 1) := by decide +kernel
theorem dX9_ofSpurt_119 : decode cX9_ofSpurt 119 = .ok (.aload_n 0, 1) := by decide +kernel
theorem dX9_ofSpurt_120 : decode cX9_ofSpurt 120 = .ok (.getfield 160, 3) := by decide +kernel
theorem dX9_ofSpurt_123 : decode cX9_ofSpurt 123 = .ok (.ireturn, 1) := by decide +kernel
theorem dX9_ofSpurt_124 : decode cX9_ofSpurt 124 = .ok (.aload_n 0, 1) := by decide +kernel
theorem dX9_ofSpurt_125 : decode cX9_ofSpurt 125 = .ok (.getfield 44, 3) := by decide +kernel
theorem dX9_ofSpurt_128 : decode cX9_ofSpurt 128 = .ok (.iload_n 1, 1) := by decide +kernel
theorem dX9_ofSpurt_129 : decode cX9_ofSpurt 129 = .ok (.iaload, 1) := by decide +kernel
theorem dX9_ofSpurt_130 : decode cX9_ofSpurt 130 = .ok (.ireturn, 1) := by decide +kernel
theorem dX9_ofSpurt_131 : decode cX9_ofSpurt 131 = .ok (.bipush (-2), 2) := by decide +kernel
theorem dX9_ofSpurt_133 : decode cX9_ofSpurt 133 = .ok (.ireturn, 1) := by decide +kernel
theorem dX9_inOrder_0 : decode cX9_inOrder 0 = .ok (.iconst 0, 1) := by decide +kernel
theorem dX9_inOrder_1 : decode cX9_inOrder 1 = .ok (.istore_n 2, 1) := by decide +kernel
theorem dX9_inOrder_2 : decode cX9_inOrder 2 = .ok (.iload_n 2, 1) := by decide +kernel
theorem dX9_inOrder_3 : decode cX9_inOrder 3 = .ok (.aload_n 0, 1) := by decide +kernel
theorem dX9_inOrder_4 : decode cX9_inOrder 4 = .ok (.getfield 75, 3) := by decide +kernel
theorem dX9_inOrder_7 : decode cX9_inOrder 7 = .ok (.if_icmp .ge 60, 3) := by decide +kernel
theorem dX9_inOrder_10 : decode cX9_inOrder 10 = .ok (.iconst 0, 1) := by decide +kernel
theorem dX9_inOrder_11 : decode cX9_inOrder 11 = .ok (.istore_n 3, 1) := by decide +kernel
theorem dX9_inOrder_12 : decode cX9_inOrder 12 = .ok (.iconst 0, 1) := by decide +kernel
theorem dX9_inOrder_13 : decode cX9_inOrder 13 = .ok (.istore 4, 2) := by decide +kernel
theorem dX9_inOrder_15 : decode cX9_inOrder 15 = .ok (.iload 4, 2) := by decide +kernel
theorem dX9_inOrder_17 : decode cX9_inOrder 17 = .ok (.aload_n 0, 1) := by decide +kernel
theorem dX9_inOrder_18 : decode cX9_inOrder 18 = .ok (.getfield 75, 3) := by decide +kernel
theorem dX9_inOrder_21 : decode cX9_inOrder 21 = .ok (.if_icmp .ge 33, 3) := by decide +kernel
theorem dX9_inOrder_24 : decode cX9_inOrder 24 = .ok (.iload_n 3, 1) := by decide +kernel
theorem dX9_inOrder_25 : decode cX9_inOrder 25 = .ok (.aload_n 0, 1) := by decide +kernel
theorem dX9_inOrder_26 : decode cX9_inOrder 26 = .ok (.getfield 35, 3) := by decide +kernel
theorem dX9_inOrder_29 : decode cX9_inOrder 29 = .ok (.iload 4, 2) := by decide +kernel
theorem dX9_inOrder_31 : decode cX9_inOrder 31 = .ok (.iaload, 1) := by decide +kernel
theorem dX9_inOrder_32 : decode cX9_inOrder 32 = .ok (.aload_n 0, 1) := by decide +kernel
theorem dX9_inOrder_33 : decode cX9_inOrder 33 = .ok (.getfield 35, 3) := by decide +kernel
theorem dX9_inOrder_36 : decode cX9_inOrder 36 = .ok (.iload_n 2, 1) := by decide +kernel
theorem dX9_inOrder_37 : decode cX9_inOrder 37 = .ok (.iaload, 1) := by decide +kernel
theorem dX9_inOrder_38 : decode cX9_inOrder 38 = .ok (.if_icmp .ge 7, 3) := by decide +kernel
theorem dX9_inOrder_41 : decode cX9_inOrder 41 = .ok (.iconst 1, 1) := by decide +kernel
theorem dX9_inOrder_42 : decode cX9_inOrder 42 = .ok (.goto 4, 3) := by decide +kernel
theorem dX9_inOrder_45 : decode cX9_inOrder 45 = .ok (.iconst 0, 1) := by decide +kernel
theorem dX9_inOrder_46 : decode cX9_inOrder 46 = .ok (.iadd, 1) := by decide +kernel
theorem dX9_inOrder_47 : decode cX9_inOrder 47 = .ok (.istore_n 3, 1) := by decide +kernel
theorem dX9_inOrder_48 : decode cX9_inOrder 48 = .ok (.iinc 4 1, 3) := by decide +kernel
theorem dX9_inOrder_51 : decode cX9_inOrder 51 = .ok (.goto (-36), 3) := by decide +kernel
theorem dX9_inOrder_54 : decode cX9_inOrder 54 = .ok (.iload_n 3, 1) := by decide +kernel
theorem dX9_inOrder_55 : decode cX9_inOrder 55 = .ok (.iload_n 1, 1) := by decide +kernel
theorem dX9_inOrder_56 : decode cX9_inOrder 56 = .ok (.if_icmp .ne 5, 3) := by decide +kernel
theorem dX9_inOrder_59 : decode cX9_inOrder 59 = .ok (.iload_n 2, 1) := by decide +kernel
theorem dX9_inOrder_60 : decode cX9_inOrder 60 = .ok (.ireturn, 1) := by decide +kernel
theorem dX9_inOrder_61 : decode cX9_inOrder 61 = .ok (.iinc 2 1, 3) := by decide +kernel
theorem dX9_inOrder_64 : decode cX9_inOrder 64 = .ok (.goto (-62), 3) := by decide +kernel
theorem dX9_inOrder_67 : decode cX9_inOrder 67 = .ok (.iconst (-1), 1) := by decide +kernel
theorem dX9_inOrder_68 : decode cX9_inOrder 68 = .ok (.ireturn, 1) := by decide +kernel
set_option maxRecDepth 20000 in
theorem ggX9_wish_X9_within : GoodIn wsX9_wish wsX9_within := goodIn_r _ [5] (by decide +kernel) (by decide +kernel)
set_option maxRecDepth 20000 in
theorem gX9_wish_X9_within : GoodIn wsX9_wish (va_wsS RX9 54 yX9_within wsX9_within) := goodIn_app (goodIn_of _ (by decide +kernel)) ggX9_wish_X9_within
set_option maxRecDepth 20000 in
theorem ggX9_wish_X9_wishFor : GoodIn wsX9_wish wsX9_wishFor := goodIn_r _ [9, 10, 1, 11, 12, 13, 14, 15, 16, 17, 18, 19, 4, 20, 21, 22, 23, 24, 25, 26, 27, 28, 29, 30, 31, 32, 33, 34, 35, 36, 37, 38, 39, 40, 41, 42, 43, 44, 45, 46, 47, 48, 49, 50, 51, 52, 53, 54, 55, 56, 57, 58, 59, 60, 61, 62, 63, 64, 65, 66, 67, 68, 69, 70, 71, 72, 73, 74, 75, 76] (by decide +kernel) (by decide +kernel)
set_option maxRecDepth 20000 in
theorem gX9_wish_X9_wishFor : GoodIn wsX9_wish (wsV RX9 140 RX9 yX9_wishFor wsX9_wishFor) := goodIn_app (goodIn_of _ (by decide +kernel)) ggX9_wish_X9_wishFor
theorem dX9_wish_0 : decode cX9_wish 0 = .ok (.iload_n 1, 1) := by decide +kernel
theorem dX9_wish_1 : decode cX9_wish 1 = .ok (.iconst 0, 1) := by decide +kernel
theorem dX9_wish_2 : decode cX9_wish 2 = .ok (.sipush 299, 3) := by decide +kernel
theorem dX9_wish_5 : decode cX9_wish 5 = .ok (.invokestatic 54, 3) := by decide +kernel
theorem dX9_wish_8 : decode cX9_wish 8 = .ok (.ifCond .ne 6, 3) := by decide +kernel
theorem dX9_wish_11 : decode cX9_wish 11 = .ok (.bipush (-2), 2) := by decide +kernel
theorem dX9_wish_13 : decode cX9_wish 13 = .ok (.ireturn, 1) := by decide +kernel
theorem dX9_wish_14 : decode cX9_wish 14 = .ok (.aload_n 0, 1) := by decide +kernel
theorem dX9_wish_15 : decode cX9_wish 15 = .ok (.getfield 78, 3) := by decide +kernel
theorem dX9_wish_18 : decode cX9_wish 18 = .ok (.ifCond .ne 8, 3) := by decide +kernel
theorem dX9_wish_21 : decode cX9_wish 21 = .ok (.bipush (-3), 2) := by decide +kernel
theorem dX9_wish_23 : decode cX9_wish 23 = .ok (.goto 12, 3) := by decide +kernel
theorem dX9_wish_26 : decode cX9_wish 26 = .ok (.aload_n 0, 1) := by decide +kernel
theorem dX9_wish_27 : decode cX9_wish 27 = .ok (.iload_n 1, 1) := by decide +kernel
theorem dX9_wish_28 : decode cX9_wish 28 = .ok (.invokevirtual 140, 3) := by decide +kernel
theorem dX9_wish_31 : decode cX9_wish 31 = .ok (.sipush 10000, 3) := by decide +kernel
theorem dX9_wish_34 : decode cX9_wish 34 = .ok (.iadd, 1) := by decide +kernel
theorem dX9_wish_35 : decode cX9_wish 35 = .ok (.ireturn, 1) := by decide +kernel
set_option maxRecDepth 20000 in
theorem ggX9_spike_X9_within : GoodIn wsX9_spike wsX9_within := goodIn_r _ [6] (by decide +kernel) (by decide +kernel)
set_option maxRecDepth 20000 in
theorem gX9_spike_X9_within : GoodIn wsX9_spike (va_wsS RX9 54 yX9_within wsX9_within) := goodIn_app (goodIn_of _ (by decide +kernel)) ggX9_spike_X9_within
theorem dX9_spike_0 : decode cX9_spike 0 = .ok (.iload_n 1, 1) := by decide +kernel
theorem dX9_spike_1 : decode cX9_spike 1 = .ok (.iconst 0, 1) := by decide +kernel
theorem dX9_spike_2 : decode cX9_spike 2 = .ok (.iconst 1, 1) := by decide +kernel
theorem dX9_spike_3 : decode cX9_spike 3 = .ok (.invokestatic 54, 3) := by decide +kernel
theorem dX9_spike_6 : decode cX9_spike 6 = .ok (.ifCond .ne 6, 3) := by decide +kernel
theorem dX9_spike_9 : decode cX9_spike 9 = .ok (.bipush (-2), 2) := by decide +kernel
theorem dX9_spike_11 : decode cX9_spike 11 = .ok (.ireturn, 1) := by decide +kernel
theorem dX9_spike_12 : decode cX9_spike 12 = .ok (.iload_n 1, 1) := by decide +kernel
theorem dX9_spike_13 : decode cX9_spike 13 = .ok (.ifCond .ne 18, 3) := by decide +kernel
theorem dX9_spike_16 : decode cX9_spike 16 = .ok (.aload_n 0, 1) := by decide +kernel
theorem dX9_spike_17 : decode cX9_spike 17 = .ok (.getfield 99, 3) := by decide +kernel
theorem dX9_spike_20 : decode cX9_spike 20 = .ok (.ifCond .eq 7, 3) := by decide +kernel
theorem dX9_spike_23 : decode cX9_spike 23 = .ok (.iconst 1, 1) := by decide +kernel
theorem dX9_spike_24 : decode cX9_spike 24 = .ok (.goto 27, 3) := by decide +kernel
theorem dX9_spike_27 : decode cX9_spike 27 = .ok (.iconst 0, 1) := by decide +kernel
theorem dX9_spike_28 : decode cX9_spike 28 = .ok (.goto 23, 3) := by decide +kernel
theorem dX9_spike_31 : decode cX9_spike 31 = .ok (.aload_n 0, 1) := by decide +kernel
theorem dX9_spike_32 : decode cX9_spike 32 = .ok (.getfield 99, 3) := by decide +kernel
theorem dX9_spike_35 : decode cX9_spike 35 = .ok (.ifCond .eq 14, 3) := by decide +kernel
theorem dX9_spike_38 : decode cX9_spike 38 = .ok (.aload_n 0, 1) := by decide +kernel
theorem dX9_spike_39 : decode cX9_spike 39 = .ok (.getfield 106, 3) := by decide +kernel
theorem dX9_spike_42 : decode cX9_spike 42 = .ok (.sipush 10000, 3) := by decide +kernel
theorem dX9_spike_45 : decode cX9_spike 45 = .ok (.iadd, 1) := by decide +kernel
theorem dX9_spike_46 : decode cX9_spike 46 = .ok (.goto 5, 3) := by decide +kernel
theorem dX9_spike_49 : decode cX9_spike 49 = .ok (.bipush (-9), 2) := by decide +kernel
theorem dX9_spike_51 : decode cX9_spike 51 = .ok (.ireturn, 1) := by decide +kernel
set_option maxRecDepth 20000 in
theorem ggX9_late_X9_within : GoodIn wsX9_late wsX9_within := goodIn_r _ [6] (by decide +kernel) (by decide +kernel)
set_option maxRecDepth 20000 in
theorem gX9_late_X9_within : GoodIn wsX9_late (va_wsS RX9 54 yX9_within wsX9_within) := goodIn_app (goodIn_of _ (by decide +kernel)) ggX9_late_X9_within
set_option maxRecDepth 20000 in
theorem ggX9_late_X9_oldest : GoodIn wsX9_late wsX9_oldest := goodIn_r _ [10, 2, 17, 18, 19, 20, 21, 22, 23, 24, 25, 26, 27, 28, 29, 30, 31, 32, 33, 34, 35, 36, 37, 38, 39, 40, 41, 42, 43, 44] (by decide +kernel) (by decide +kernel)
set_option maxRecDepth 20000 in
theorem gX9_late_X9_oldest : GoodIn wsX9_late (wsV RX9 112 RX9 yX9_oldest wsX9_oldest) := goodIn_app (goodIn_of _ (by decide +kernel)) ggX9_late_X9_oldest
set_option maxRecDepth 20000 in
theorem ggX9_late_X9_delay : GoodIn wsX9_late wsX9_delay := goodIn_r _ [14, 15, 16, 17, 18, 19, 20, 21, 22, 23, 24, 25, 26, 27, 28, 29, 30, 31, 32, 33, 34, 35, 36, 37, 38, 39, 40, 41, 42, 43, 44] (by decide +kernel) (by decide +kernel)
set_option maxRecDepth 20000 in
theorem gX9_late_X9_delay : GoodIn wsX9_late (wsV RX9 103 RX9 yX9_delay wsX9_delay) := goodIn_app (goodIn_of _ (by decide +kernel)) ggX9_late_X9_delay
theorem dX9_late_0 : decode cX9_late 0 = .ok (.iload_n 1, 1) := by decide +kernel
theorem dX9_late_1 : decode cX9_late 1 = .ok (.sipush (-10000), 3) := by decide +kernel
theorem dX9_late_4 : decode cX9_late 4 = .ok (.ldc 172, 2) := by decide +kernel
theorem dX9_late_6 : decode cX9_late 6 = .ok (.invokestatic 54, 3) := by decide +kernel
theorem dX9_late_9 : decode cX9_late 9 = .ok (.ifCond .ne 6, 3) := by decide +kernel
theorem dX9_late_12 : decode cX9_late 12 = .ok (.bipush (-2), 2) := by decide +kernel
theorem dX9_late_14 : decode cX9_late 14 = .ok (.ireturn, 1) := by decide +kernel
theorem dX9_late_15 : decode cX9_late 15 = .ok (.iconst 0, 1) := by decide +kernel
theorem dX9_late_16 : decode cX9_late 16 = .ok (.istore_n 2, 1) := by decide +kernel
theorem dX9_late_17 : decode cX9_late 17 = .ok (.aload_n 0, 1) := by decide +kernel
theorem dX9_late_18 : decode cX9_late 18 = .ok (.invokevirtual 112, 3) := by decide +kernel
theorem dX9_late_21 : decode cX9_late 21 = .ok (.istore_n 3, 1) := by decide +kernel
theorem dX9_late_22 : decode cX9_late 22 = .ok (.iload_n 3, 1) := by decide +kernel
theorem dX9_late_23 : decode cX9_late 23 = .ok (.aload_n 0, 1) := by decide +kernel
theorem dX9_late_24 : decode cX9_late 24 = .ok (.getfield 78, 3) := by decide +kernel
theorem dX9_late_27 : decode cX9_late 27 = .ok (.if_icmp .ge 26, 3) := by decide +kernel
theorem dX9_late_30 : decode cX9_late 30 = .ok (.iload_n 2, 1) := by decide +kernel
theorem dX9_late_31 : decode cX9_late 31 = .ok (.aload_n 0, 1) := by decide +kernel
theorem dX9_late_32 : decode cX9_late 32 = .ok (.iload_n 3, 1) := by decide +kernel
theorem dX9_late_33 : decode cX9_late 33 = .ok (.invokevirtual 103, 3) := by decide +kernel
theorem dX9_late_36 : decode cX9_late 36 = .ok (.iload_n 1, 1) := by decide +kernel
theorem dX9_late_37 : decode cX9_late 37 = .ok (.if_icmp .le 7, 3) := by decide +kernel
theorem dX9_late_40 : decode cX9_late 40 = .ok (.iconst 1, 1) := by decide +kernel
theorem dX9_late_41 : decode cX9_late 41 = .ok (.goto 4, 3) := by decide +kernel
theorem dX9_late_44 : decode cX9_late 44 = .ok (.iconst 0, 1) := by decide +kernel
theorem dX9_late_45 : decode cX9_late 45 = .ok (.iadd, 1) := by decide +kernel
theorem dX9_late_46 : decode cX9_late 46 = .ok (.istore_n 2, 1) := by decide +kernel
theorem dX9_late_47 : decode cX9_late 47 = .ok (.iinc 3 1, 3) := by decide +kernel
theorem dX9_late_50 : decode cX9_late 50 = .ok (.goto (-28), 3) := by decide +kernel
theorem dX9_late_53 : decode cX9_late 53 = .ok (.iload_n 2, 1) := by decide +kernel
theorem dX9_late_54 : decode cX9_late 54 = .ok (.ireturn, 1) := by decide +kernel
set_option maxRecDepth 20000 in
theorem ggX9_history_X9_within : GoodIn wsX9_history wsX9_within := goodIn_r _ [5] (by decide +kernel) (by decide +kernel)
set_option maxRecDepth 20000 in
theorem gX9_history_X9_within : GoodIn wsX9_history (va_wsS RX9 54 yX9_within wsX9_within) := goodIn_app (goodIn_of _ (by decide +kernel)) ggX9_history_X9_within
set_option maxRecDepth 20000 in
theorem ggX9_history_X9_delay : GoodIn wsX9_history wsX9_delay := goodIn_r _ [9, 10, 11, 12, 13, 14, 15, 16, 17, 18, 19, 20, 21, 22, 23, 24, 25, 26, 27, 28, 29, 30, 31, 32, 33, 34, 35, 36, 37, 38, 39] (by decide +kernel) (by decide +kernel)
set_option maxRecDepth 20000 in
theorem gX9_history_X9_delay : GoodIn wsX9_history (wsV RX9 103 RX9 yX9_delay wsX9_delay) := goodIn_app (goodIn_of _ (by decide +kernel)) ggX9_history_X9_delay
theorem dX9_history_0 : decode cX9_history 0 = .ok (.iload_n 1, 1) := by decide +kernel
theorem dX9_history_1 : decode cX9_history 1 = .ok (.iconst 0, 1) := by decide +kernel
theorem dX9_history_2 : decode cX9_history 2 = .ok (.bipush 31, 2) := by decide +kernel
theorem dX9_history_4 : decode cX9_history 4 = .ok (.invokestatic 54, 3) := by decide +kernel
theorem dX9_history_7 : decode cX9_history 7 = .ok (.ifCond .ne 6, 3) := by decide +kernel
theorem dX9_history_10 : decode cX9_history 10 = .ok (.bipush (-2), 2) := by decide +kernel
theorem dX9_history_12 : decode cX9_history 12 = .ok (.ireturn, 1) := by decide +kernel
theorem dX9_history_13 : decode cX9_history 13 = .ok (.iload_n 1, 1) := by decide +kernel
theorem dX9_history_14 : decode cX9_history 14 = .ok (.aload_n 0, 1) := by decide +kernel
theorem dX9_history_15 : decode cX9_history 15 = .ok (.getfield 78, 3) := by decide +kernel
theorem dX9_history_18 : decode cX9_history 18 = .ok (.if_icmp .ge 22, 3) := by decide +kernel
theorem dX9_history_21 : decode cX9_history 21 = .ok (.aload_n 0, 1) := by decide +kernel
theorem dX9_history_22 : decode cX9_history 22 = .ok (.aload_n 0, 1) := by decide +kernel
theorem dX9_history_23 : decode cX9_history 23 = .ok (.getfield 78, 3) := by decide +kernel
theorem dX9_history_26 : decode cX9_history 26 = .ok (.iconst 1, 1) := by decide +kernel
theorem dX9_history_27 : decode cX9_history 27 = .ok (.isub, 1) := by decide +kernel
theorem dX9_history_28 : decode cX9_history 28 = .ok (.iload_n 1, 1) := by decide +kernel
theorem dX9_history_29 : decode cX9_history 29 = .ok (.isub, 1) := by decide +kernel
theorem dX9_history_30 : decode cX9_history 30 = .ok (.invokevirtual 103, 3) := by decide +kernel
theorem dX9_history_33 : decode cX9_history 33 = .ok (.sipush 10000, 3) := by decide +kernel
theorem dX9_history_36 : decode cX9_history 36 = .ok (.iadd, 1) := by decide +kernel
theorem dX9_history_37 : decode cX9_history 37 = .ok (.goto 5, 3) := by decide +kernel
theorem dX9_history_40 : decode cX9_history 40 = .ok (.bipush (-9), 2) := by decide +kernel
theorem dX9_history_42 : decode cX9_history 42 = .ok (.ireturn, 1) := by decide +kernel
set_option maxRecDepth 20000 in
theorem ggX9_loss_X9_within : GoodIn wsX9_loss wsX9_within := goodIn_r _ [6] (by decide +kernel) (by decide +kernel)
set_option maxRecDepth 20000 in
theorem gX9_loss_X9_within : GoodIn wsX9_loss (va_wsS RX9 54 yX9_within wsX9_within) := goodIn_app (goodIn_of _ (by decide +kernel)) ggX9_loss_X9_within
set_option maxRecDepth 20000 in
theorem ggX9_loss_X9_delay : GoodIn wsX9_loss wsX9_delay := goodIn_r _ [10, 11, 12, 13, 14, 15, 16, 17, 18, 19, 20, 21, 22, 23, 24, 25, 26, 27, 28, 29, 30, 31, 32, 33, 34, 35, 36, 37, 38, 39, 40] (by decide +kernel) (by decide +kernel)
set_option maxRecDepth 20000 in
theorem gX9_loss_X9_delay : GoodIn wsX9_loss (wsV RX9 103 RX9 yX9_delay wsX9_delay) := goodIn_app (goodIn_of _ (by decide +kernel)) ggX9_loss_X9_delay
theorem dX9_loss_0 : decode cX9_loss 0 = .ok (.iload_n 1, 1) := by decide +kernel
theorem dX9_loss_1 : decode cX9_loss 1 = .ok (.sipush (-10000), 3) := by decide +kernel
theorem dX9_loss_4 : decode cX9_loss 4 = .ok (.ldc 172, 2) := by decide +kernel
theorem dX9_loss_6 : decode cX9_loss 6 = .ok (.invokestatic 54, 3) := by decide +kernel
theorem dX9_loss_9 : decode cX9_loss 9 = .ok (.ifCond .ne 6, 3) := by decide +kernel
theorem dX9_loss_12 : decode cX9_loss 12 = .ok (.bipush (-2), 2) := by decide +kernel
theorem dX9_loss_14 : decode cX9_loss 14 = .ok (.ireturn, 1) := by decide +kernel
theorem dX9_loss_15 : decode cX9_loss 15 = .ok (.iconst 0, 1) := by decide +kernel
theorem dX9_loss_16 : decode cX9_loss 16 = .ok (.istore_n 2, 1) := by decide +kernel
theorem dX9_loss_17 : decode cX9_loss 17 = .ok (.iconst 0, 1) := by decide +kernel
theorem dX9_loss_18 : decode cX9_loss 18 = .ok (.istore_n 3, 1) := by decide +kernel
theorem dX9_loss_19 : decode cX9_loss 19 = .ok (.iload_n 3, 1) := by decide +kernel
theorem dX9_loss_20 : decode cX9_loss 20 = .ok (.aload_n 0, 1) := by decide +kernel
theorem dX9_loss_21 : decode cX9_loss 21 = .ok (.getfield 78, 3) := by decide +kernel
theorem dX9_loss_24 : decode cX9_loss 24 = .ok (.if_icmp .ge 26, 3) := by decide +kernel
theorem dX9_loss_27 : decode cX9_loss 27 = .ok (.iload_n 2, 1) := by decide +kernel
theorem dX9_loss_28 : decode cX9_loss 28 = .ok (.aload_n 0, 1) := by decide +kernel
theorem dX9_loss_29 : decode cX9_loss 29 = .ok (.iload_n 3, 1) := by decide +kernel
theorem dX9_loss_30 : decode cX9_loss 30 = .ok (.invokevirtual 103, 3) := by decide +kernel
theorem dX9_loss_33 : decode cX9_loss 33 = .ok (.iload_n 1, 1) := by decide +kernel
theorem dX9_loss_34 : decode cX9_loss 34 = .ok (.if_icmp .le 7, 3) := by decide +kernel
theorem dX9_loss_37 : decode cX9_loss 37 = .ok (.iconst 1, 1) := by decide +kernel
theorem dX9_loss_38 : decode cX9_loss 38 = .ok (.goto 4, 3) := by decide +kernel
theorem dX9_loss_41 : decode cX9_loss 41 = .ok (.iconst 0, 1) := by decide +kernel
theorem dX9_loss_42 : decode cX9_loss 42 = .ok (.iadd, 1) := by decide +kernel
theorem dX9_loss_43 : decode cX9_loss 43 = .ok (.istore_n 2, 1) := by decide +kernel
theorem dX9_loss_44 : decode cX9_loss 44 = .ok (.iinc 3 1, 3) := by decide +kernel
theorem dX9_loss_47 : decode cX9_loss 47 = .ok (.goto (-28), 3) := by decide +kernel
theorem dX9_loss_50 : decode cX9_loss 50 = .ok (.iload_n 2, 1) := by decide +kernel
theorem dX9_loss_51 : decode cX9_loss 51 = .ok (.ireturn, 1) := by decide +kernel
set_option maxRecDepth 20000 in
theorem ggX9_isUnder_X9_delay : GoodIn wsX9_isUnder wsX9_delay := goodIn_r _ [7, 8, 1, 9, 10, 11, 12, 13, 14, 15, 16, 17, 18, 19, 20, 21, 22, 23, 24, 25, 26, 27, 28, 29, 30, 31, 32, 33, 34, 35, 36] (by decide +kernel) (by decide +kernel)
set_option maxRecDepth 20000 in
theorem gX9_isUnder_X9_delay : GoodIn wsX9_isUnder (wsV RX9 103 RX9 yX9_delay wsX9_delay) := goodIn_app (goodIn_of _ (by decide +kernel)) ggX9_isUnder_X9_delay
theorem dX9_isUnder_0 : decode cX9_isUnder 0 = .ok (.aload_n 0, 1) := by decide +kernel
theorem dX9_isUnder_1 : decode cX9_isUnder 1 = .ok (.iload_n 2, 1) := by decide +kernel
theorem dX9_isUnder_2 : decode cX9_isUnder 2 = .ok (.invokevirtual 103, 3) := by decide +kernel
theorem dX9_isUnder_5 : decode cX9_isUnder 5 = .ok (.aload_n 0, 1) := by decide +kernel
theorem dX9_isUnder_6 : decode cX9_isUnder 6 = .ok (.iload_n 1, 1) := by decide +kernel
theorem dX9_isUnder_7 : decode cX9_isUnder 7 = .ok (.invokevirtual 103, 3) := by decide +kernel
theorem dX9_isUnder_10 : decode cX9_isUnder 10 = .ok (.isub, 1) := by decide +kernel
theorem dX9_isUnder_11 : decode cX9_isUnder 11 = .ok (.i2l, 1) := by decide +kernel
theorem dX9_isUnder_12 : decode cX9_isUnder 12 = .ok (.lstore_n 3, 1) := by decide +kernel
theorem dX9_isUnder_13 : decode cX9_isUnder 13 = .ok (.aload_n 0, 1) := by decide +kernel
theorem dX9_isUnder_14 : decode cX9_isUnder 14 = .ok (.getfield 23, 3) := by decide +kernel
theorem dX9_isUnder_17 : decode cX9_isUnder 17 = .ok (.iload_n 2, 1) := by decide +kernel
theorem dX9_isUnder_18 : decode cX9_isUnder 18 = .ok (.iaload, 1) := by decide +kernel
theorem dX9_isUnder_19 : decode cX9_isUnder 19 = .ok (.aload_n 0, 1) := by decide +kernel
theorem dX9_isUnder_20 : decode cX9_isUnder 20 = .ok (.getfield 23, 3) := by decide +kernel
theorem dX9_isUnder_23 : decode cX9_isUnder 23 = .ok (.iload_n 1, 1) := by decide +kernel
theorem dX9_isUnder_24 : decode cX9_isUnder 24 = .ok (.iaload, 1) := by decide +kernel
theorem dX9_isUnder_25 : decode cX9_isUnder 25 = .ok (.isub, 1) := by decide +kernel
theorem dX9_isUnder_26 : decode cX9_isUnder 26 = .ok (.i2l, 1) := by decide +kernel
theorem dX9_isUnder_27 : decode cX9_isUnder 27 = .ok (.lstore 5, 2) := by decide +kernel
theorem dX9_isUnder_29 : decode cX9_isUnder 29 = .ok (.iconst 0, 1) := by decide +kernel
theorem dX9_isUnder_30 : decode cX9_isUnder 30 = .ok (.istore 7, 2) := by decide +kernel
theorem dX9_isUnder_32 : decode cX9_isUnder 32 = .ok (.iload 7, 2) := by decide +kernel
theorem dX9_isUnder_34 : decode cX9_isUnder 34 = .ok (.aload_n 0, 1) := by decide +kernel
theorem dX9_isUnder_35 : decode cX9_isUnder 35 = .ok (.getfield 78, 3) := by decide +kernel
theorem dX9_isUnder_38 : decode cX9_isUnder 38 = .ok (.if_icmp .ge 48, 3) := by decide +kernel
theorem dX9_isUnder_41 : decode cX9_isUnder 41 = .ok (.aload_n 0, 1) := by decide +kernel
theorem dX9_isUnder_42 : decode cX9_isUnder 42 = .ok (.iload 7, 2) := by decide +kernel
theorem dX9_isUnder_44 : decode cX9_isUnder 44 = .ok (.invokevirtual 103, 3) := by decide +kernel
theorem dX9_isUnder_47 : decode cX9_isUnder 47 = .ok (.aload_n 0, 1) := by decide +kernel
theorem dX9_isUnder_48 : decode cX9_isUnder 48 = .ok (.iload_n 1, 1) := by decide +kernel
theorem dX9_isUnder_49 : decode cX9_isUnder 49 = .ok (.invokevirtual 103, 3) := by decide +kernel
theorem dX9_isUnder_52 : decode cX9_isUnder 52 = .ok (.isub, 1) := by decide +kernel
theorem dX9_isUnder_53 : decode cX9_isUnder 53 = .ok (.i2l, 1) := by decide +kernel
theorem dX9_isUnder_54 : decode cX9_isUnder 54 = .ok (.lload 5, 2) := by decide +kernel
theorem dX9_isUnder_56 : decode cX9_isUnder 56 = .ok (.lmul, 1) := by decide +kernel
theorem dX9_isUnder_57 : decode cX9_isUnder 57 = .ok (.lload_n 3, 1) := by decide +kernel
theorem dX9_isUnder_58 : decode cX9_isUnder 58 = .ok (.aload_n 0, 1) := by decide +kernel
theorem dX9_isUnder_59 : decode cX9_isUnder 59 = .ok (.getfield 23, 3) := by decide +kernel
theorem dX9_isUnder_62 : decode cX9_isUnder 62 = .ok (.iload 7, 2) := by decide +kernel
theorem dX9_isUnder_64 : decode cX9_isUnder 64 = .ok (.iaload, 1) := by decide +kernel
theorem dX9_isUnder_65 : decode cX9_isUnder 65 = .ok (.aload_n 0, 1) := by decide +kernel
theorem dX9_isUnder_66 : decode cX9_isUnder 66 = .ok (.getfield 23, 3) := by decide +kernel
theorem dX9_isUnder_69 : decode cX9_isUnder 69 = .ok (.iload_n 1, 1) := by decide +kernel
theorem dX9_isUnder_70 : decode cX9_isUnder 70 = .ok (.iaload, 1) := by decide +kernel
theorem dX9_isUnder_71 : decode cX9_isUnder 71 = .ok (.isub, 1) := by decide +kernel
theorem dX9_isUnder_72 : decode cX9_isUnder 72 = .ok (.i2l, 1) := by decide +kernel
theorem dX9_isUnder_73 : decode cX9_isUnder 73 = .ok (.lmul, 1) := by decide +kernel
theorem dX9_isUnder_74 : decode cX9_isUnder 74 = .ok (.lcmp, 1) := by decide +kernel
theorem dX9_isUnder_75 : decode cX9_isUnder 75 = .ok (.ifCond .ge 5, 3) := by decide +kernel
theorem dX9_isUnder_78 : decode cX9_isUnder 78 = .ok (.iconst 0, 1) := by decide +kernel
theorem dX9_isUnder_79 : decode cX9_isUnder 79 = .ok (.ireturn, 1) := by decide +kernel
theorem dX9_isUnder_80 : decode cX9_isUnder 80 = .ok (.iinc 7 1, 3) := by decide +kernel
theorem dX9_isUnder_83 : decode cX9_isUnder 83 = .ok (.goto (-51), 3) := by decide +kernel
theorem dX9_isUnder_86 : decode cX9_isUnder 86 = .ok (.iconst 1, 1) := by decide +kernel
theorem dX9_isUnder_87 : decode cX9_isUnder 87 = .ok (.ireturn, 1) := by decide +kernel
set_option maxRecDepth 20000 in
theorem ggX9_findDrift_X9_isUnder : GoodIn wsX9_findDrift wsX9_isUnder := goodIn_r _ [9, 4, 3, 10, 11, 12, 8, 13, 14, 15, 16, 17, 18, 19, 20, 21, 22, 23, 24, 25, 26, 27, 28, 29, 30, 31, 32, 33, 34, 35, 36, 37, 38, 39, 40, 41, 42] (by decide +kernel) (by decide +kernel)
set_option maxRecDepth 20000 in
theorem gX9_findDrift_X9_isUnder : GoodIn wsX9_findDrift (wsV RX9 173 RX9 yX9_isUnder wsX9_isUnder) := goodIn_app (goodIn_of _ (by decide +kernel)) ggX9_findDrift_X9_isUnder
set_option maxRecDepth 20000 in
theorem ggX9_findDrift_X9_delay : GoodIn wsX9_findDrift wsX9_delay := goodIn_r _ [13, 14, 4, 15, 16, 17, 18, 19, 20, 21, 22, 23, 24, 25, 26, 27, 28, 29, 30, 31, 32, 33, 34, 35, 36, 37, 38, 39, 40, 41, 42] (by decide +kernel) (by decide +kernel)
set_option maxRecDepth 20000 in
theorem gX9_findDrift_X9_delay : GoodIn wsX9_findDrift (wsV RX9 103 RX9 yX9_delay wsX9_delay) := goodIn_app (goodIn_of _ (by decide +kernel)) ggX9_findDrift_X9_delay
theorem dX9_findDrift_0 : decode cX9_findDrift 0 = .ok (.aload_n 0, 1) := by decide +kernel
theorem dX9_findDrift_1 : decode cX9_findDrift 1 = .ok (.lconst 0, 1) := by decide +kernel
theorem dX9_findDrift_2 : decode cX9_findDrift 2 = .ok (.putfield 122, 3) := by decide +kernel
theorem dX9_findDrift_5 : decode cX9_findDrift 5 = .ok (.aload_n 0, 1) := by decide +kernel
theorem dX9_findDrift_6 : decode cX9_findDrift 6 = .ok (.lconst 1, 1) := by decide +kernel
theorem dX9_findDrift_7 : decode cX9_findDrift 7 = .ok (.putfield 126, 3) := by decide +kernel
theorem dX9_findDrift_10 : decode cX9_findDrift 10 = .ok (.iconst 0, 1) := by decide +kernel
theorem dX9_findDrift_11 : decode cX9_findDrift 11 = .ok (.istore_n 1, 1) := by decide +kernel
theorem dX9_findDrift_12 : decode cX9_findDrift 12 = .ok (.sipush 300, 3) := by decide +kernel
theorem dX9_findDrift_15 : decode cX9_findDrift 15 = .ok (.istore_n 2, 1) := by decide +kernel
theorem dX9_findDrift_16 : decode cX9_findDrift 16 = .ok (.iconst 0, 1) := by decide +kernel
theorem dX9_findDrift_17 : decode cX9_findDrift 17 = .ok (.istore_n 3, 1) := by decide +kernel
theorem dX9_findDrift_18 : decode cX9_findDrift 18 = .ok (.iconst 0, 1) := by decide +kernel
theorem dX9_findDrift_19 : decode cX9_findDrift 19 = .ok (.istore 4, 2) := by decide +kernel
theorem dX9_findDrift_21 : decode cX9_findDrift 21 = .ok (.iload 4, 2) := by decide +kernel
theorem dX9_findDrift_23 : decode cX9_findDrift 23 = .ok (.aload_n 0, 1) := by decide +kernel
theorem dX9_findDrift_24 : decode cX9_findDrift 24 = .ok (.getfield 78, 3) := by decide +kernel
theorem dX9_findDrift_27 : decode cX9_findDrift 27 = .ok (.if_icmp .ge 55, 3) := by decide +kernel
theorem dX9_findDrift_30 : decode cX9_findDrift 30 = .ok (.aload_n 0, 1) := by decide +kernel
theorem dX9_findDrift_31 : decode cX9_findDrift 31 = .ok (.getfield 23, 3) := by decide +kernel
theorem dX9_findDrift_34 : decode cX9_findDrift 34 = .ok (.iload 4, 2) := by decide +kernel
theorem dX9_findDrift_36 : decode cX9_findDrift 36 = .ok (.iaload, 1) := by decide +kernel
theorem dX9_findDrift_37 : decode cX9_findDrift 37 = .ok (.iload_n 2, 1) := by decide +kernel
theorem dX9_findDrift_38 : decode cX9_findDrift 38 = .ok (.if_icmp .ge 13, 3) := by decide +kernel
theorem dX9_findDrift_41 : decode cX9_findDrift 41 = .ok (.aload_n 0, 1) := by decide +kernel
theorem dX9_findDrift_42 : decode cX9_findDrift 42 = .ok (.getfield 23, 3) := by decide +kernel
theorem dX9_findDrift_45 : decode cX9_findDrift 45 = .ok (.iload 4, 2) := by decide +kernel
theorem dX9_findDrift_47 : decode cX9_findDrift 47 = .ok (.iaload, 1) := by decide +kernel
theorem dX9_findDrift_48 : decode cX9_findDrift 48 = .ok (.goto 4, 3) := by decide +kernel
theorem dX9_findDrift_51 : decode cX9_findDrift 51 = .ok (.iload_n 2, 1) := by decide +kernel
theorem dX9_findDrift_52 : decode cX9_findDrift 52 = .ok (.istore_n 2, 1) := by decide +kernel
theorem dX9_findDrift_53 : decode cX9_findDrift 53 = .ok (.aload_n 0, 1) := by decide +kernel
theorem dX9_findDrift_54 : decode cX9_findDrift 54 = .ok (.getfield 23, 3) := by decide +kernel
theorem dX9_findDrift_57 : decode cX9_findDrift 57 = .ok (.iload 4, 2) := by decide +kernel
theorem dX9_findDrift_59 : decode cX9_findDrift 59 = .ok (.iaload, 1) := by decide +kernel
theorem dX9_findDrift_60 : decode cX9_findDrift 60 = .ok (.iload_n 3, 1) := by decide +kernel
theorem dX9_findDrift_61 : decode cX9_findDrift 61 = .ok (.if_icmp .le 13, 3) := by decide +kernel
theorem dX9_findDrift_64 : decode cX9_findDrift 64 = .ok (.aload_n 0, 1) := by decide +kernel
theorem dX9_findDrift_65 : decode cX9_findDrift 65 = .ok (.getfield 23, 3) := by decide +kernel
theorem dX9_findDrift_68 : decode cX9_findDrift 68 = .ok (.iload 4, 2) := by decide +kernel
theorem dX9_findDrift_70 : decode cX9_findDrift 70 = .ok (.iaload, 1) := by decide +kernel
theorem dX9_findDrift_71 : decode cX9_findDrift 71 = .ok (.goto 4, 3) := by decide +kernel
theorem dX9_findDrift_74 : decode cX9_findDrift 74 = .ok (.iload_n 3, 1) := by decide +kernel
theorem dX9_findDrift_75 : decode cX9_findDrift 75 = .ok (.istore_n 3, 1) := by decide +kernel
theorem dX9_findDrift_76 : decode cX9_findDrift 76 = .ok (.iinc 4 1, 3) := by decide +kernel
theorem dX9_findDrift_79 : decode cX9_findDrift 79 = .ok (.goto (-58), 3) := by decide +kernel
theorem dX9_findDrift_82 : decode cX9_findDrift 82 = .ok (.iconst 0, 1) := by decide +kernel
theorem dX9_findDrift_83 : decode cX9_findDrift 83 = .ok (.istore 4, 2) := by decide +kernel
theorem dX9_findDrift_85 : decode cX9_findDrift 85 = .ok (.iload 4, 2) := by decide +kernel
theorem dX9_findDrift_87 : decode cX9_findDrift 87 = .ok (.aload_n 0, 1) := by decide +kernel
theorem dX9_findDrift_88 : decode cX9_findDrift 88 = .ok (.getfield 78, 3) := by decide +kernel
theorem dX9_findDrift_91 : decode cX9_findDrift 91 = .ok (.if_icmp .ge 198, 3) := by decide +kernel
theorem dX9_findDrift_94 : decode cX9_findDrift 94 = .ok (.iconst 0, 1) := by decide +kernel
theorem dX9_findDrift_95 : decode cX9_findDrift 95 = .ok (.istore 5, 2) := by decide +kernel
theorem dX9_findDrift_97 : decode cX9_findDrift 97 = .ok (.iload 5, 2) := by decide +kernel
theorem dX9_findDrift_99 : decode cX9_findDrift 99 = .ok (.aload_n 0, 1) := by decide +kernel
theorem dX9_findDrift_100 : decode cX9_findDrift 100 = .ok (.getfield 78, 3) := by decide +kernel
theorem dX9_findDrift_103 : decode cX9_findDrift 103 = .ok (.if_icmp .ge 180, 3) := by decide +kernel
theorem dX9_findDrift_106 : decode cX9_findDrift 106 = .ok (.aload_n 0, 1) := by decide +kernel
theorem dX9_findDrift_107 : decode cX9_findDrift 107 = .ok (.getfield 23, 3) := by decide +kernel
theorem dX9_findDrift_110 : decode cX9_findDrift 110 = .ok (.iload 4, 2) := by decide +kernel
theorem dX9_findDrift_112 : decode cX9_findDrift 112 = .ok (.iaload, 1) := by decide +kernel
theorem dX9_findDrift_113 : decode cX9_findDrift 113 = .ok (.aload_n 0, 1) := by decide +kernel
theorem dX9_findDrift_114 : decode cX9_findDrift 114 = .ok (.getfield 23, 3) := by decide +kernel
theorem dX9_findDrift_117 : decode cX9_findDrift 117 = .ok (.iload 5, 2) := by decide +kernel
theorem dX9_findDrift_119 : decode cX9_findDrift 119 = .ok (.iaload, 1) := by decide +kernel
theorem dX9_findDrift_120 : decode cX9_findDrift 120 = .ok (.if_icmp .ge 37, 3) := by decide +kernel
theorem dX9_findDrift_123 : decode cX9_findDrift 123 = .ok (.iconst 2, 1) := by decide +kernel
theorem dX9_findDrift_124 : decode cX9_findDrift 124 = .ok (.aload_n 0, 1) := by decide +kernel
theorem dX9_findDrift_125 : decode cX9_findDrift 125 = .ok (.getfield 23, 3) := by decide +kernel
theorem dX9_findDrift_128 : decode cX9_findDrift 128 = .ok (.iload 4, 2) := by decide +kernel
theorem dX9_findDrift_130 : decode cX9_findDrift 130 = .ok (.iaload, 1) := by decide +kernel
theorem dX9_findDrift_131 : decode cX9_findDrift 131 = .ok (.imul, 1) := by decide +kernel
theorem dX9_findDrift_132 : decode cX9_findDrift 132 = .ok (.iload_n 2, 1) := by decide +kernel
theorem dX9_findDrift_133 : decode cX9_findDrift 133 = .ok (.iload_n 3, 1) := by decide +kernel
theorem dX9_findDrift_134 : decode cX9_findDrift 134 = .ok (.iadd, 1) := by decide +kernel
theorem dX9_findDrift_135 : decode cX9_findDrift 135 = .ok (.if_icmp .gt 22, 3) := by decide +kernel
theorem dX9_findDrift_138 : decode cX9_findDrift 138 = .ok (.iconst 2, 1) := by decide +kernel
theorem dX9_findDrift_139 : decode cX9_findDrift 139 = .ok (.aload_n 0, 1) := by decide +kernel
theorem dX9_findDrift_140 : decode cX9_findDrift 140 = .ok (.getfield 23, 3) := by decide +kernel
theorem dX9_findDrift_143 : decode cX9_findDrift 143 = .ok (.iload 5, 2) := by decide +kernel
theorem dX9_findDrift_145 : decode cX9_findDrift 145 = .ok (.iaload, 1) := by decide +kernel
theorem dX9_findDrift_146 : decode cX9_findDrift 146 = .ok (.imul, 1) := by decide +kernel
theorem dX9_findDrift_147 : decode cX9_findDrift 147 = .ok (.iload_n 2, 1) := by decide +kernel
theorem dX9_findDrift_148 : decode cX9_findDrift 148 = .ok (.iload_n 3, 1) := by decide +kernel
theorem dX9_findDrift_149 : decode cX9_findDrift 149 = .ok (.iadd, 1) := by decide +kernel
theorem dX9_findDrift_150 : decode cX9_findDrift 150 = .ok (.if_icmp .lt 7, 3) := by decide +kernel
theorem dX9_findDrift_153 : decode cX9_findDrift 153 = .ok (.iconst 1, 1) := by decide +kernel
theorem dX9_findDrift_154 : decode cX9_findDrift 154 = .ok (.goto 4, 3) := by decide +kernel
theorem dX9_findDrift_157 : decode cX9_findDrift 157 = .ok (.iconst 0, 1) := by decide +kernel
theorem dX9_findDrift_158 : decode cX9_findDrift 158 = .ok (.istore 6, 2) := by decide +kernel
theorem dX9_findDrift_160 : decode cX9_findDrift 160 = .ok (.iload 6, 2) := by decide +kernel
theorem dX9_findDrift_162 : decode cX9_findDrift 162 = .ok (.ifCond .eq 115, 3) := by decide +kernel
theorem dX9_findDrift_165 : decode cX9_findDrift 165 = .ok (.aload_n 0, 1) := by decide +kernel
theorem dX9_findDrift_166 : decode cX9_findDrift 166 = .ok (.iload 4, 2) := by decide +kernel
theorem dX9_findDrift_168 : decode cX9_findDrift 168 = .ok (.iload 5, 2) := by decide +kernel
theorem dX9_findDrift_170 : decode cX9_findDrift 170 = .ok (.invokevirtual 173, 3) := by decide +kernel
theorem dX9_findDrift_173 : decode cX9_findDrift 173 = .ok (.ifCond .eq 104, 3) := by decide +kernel
theorem dX9_findDrift_176 : decode cX9_findDrift 176 = .ok (.aload_n 0, 1) := by decide +kernel
theorem dX9_findDrift_177 : decode cX9_findDrift 177 = .ok (.iload 5, 2) := by decide +kernel
theorem dX9_findDrift_179 : decode cX9_findDrift 179 = .ok (.invokevirtual 103, 3) := by decide +kernel
theorem dX9_findDrift_182 : decode cX9_findDrift 182 = .ok (.aload_n 0, 1) := by decide +kernel
theorem dX9_findDrift_183 : decode cX9_findDrift 183 = .ok (.iload 4, 2) := by decide +kernel
theorem dX9_findDrift_185 : decode cX9_findDrift 185 = .ok (.invokevirtual 103, 3) := by decide +kernel
theorem dX9_findDrift_188 : decode cX9_findDrift 188 = .ok (.isub, 1) := by decide +kernel
theorem dX9_findDrift_189 : decode cX9_findDrift 189 = .ok (.i2l, 1) := by decide +kernel
theorem dX9_findDrift_190 : decode cX9_findDrift 190 = .ok (.lstore 7, 2) := by decide +kernel
theorem dX9_findDrift_192 : decode cX9_findDrift 192 = .ok (.aload_n 0, 1) := by decide +kernel
theorem dX9_findDrift_193 : decode cX9_findDrift 193 = .ok (.getfield 23, 3) := by decide +kernel
theorem dX9_findDrift_196 : decode cX9_findDrift 196 = .ok (.iload 5, 2) := by decide +kernel
theorem dX9_findDrift_198 : decode cX9_findDrift 198 = .ok (.iaload, 1) := by decide +kernel
theorem dX9_findDrift_199 : decode cX9_findDrift 199 = .ok (.aload_n 0, 1) := by decide +kernel
theorem dX9_findDrift_200 : decode cX9_findDrift 200 = .ok (.getfield 23, 3) := by decide +kernel
theorem dX9_findDrift_203 : decode cX9_findDrift 203 = .ok (.iload 4, 2) := by decide +kernel
theorem dX9_findDrift_205 : decode cX9_findDrift 205 = .ok (.iaload, 1) := by decide +kernel
theorem dX9_findDrift_206 : decode cX9_findDrift 206 = .ok (.isub, 1) := by decide +kernel
theorem dX9_findDrift_207 : decode cX9_findDrift 207 = .ok (.i2l, 1) := by decide +kernel
theorem dX9_findDrift_208 : decode cX9_findDrift 208 = .ok (.lstore 9, 2) := by decide +kernel
theorem dX9_findDrift_210 : decode cX9_findDrift 210 = .ok (.iload_n 1, 1) := by decide +kernel
theorem dX9_findDrift_211 : decode cX9_findDrift 211 = .ok (.ifCond .eq 21, 3) := by decide +kernel
theorem dX9_findDrift_214 : decode cX9_findDrift 214 = .ok (.lload 7, 2) := by decide +kernel
theorem dX9_findDrift_216 : decode cX9_findDrift 216 = .ok (.aload_n 0, 1) := by decide +kernel
theorem dX9_findDrift_217 : decode cX9_findDrift 217 = .ok (.getfield 126, 3) := by decide +kernel
theorem dX9_findDrift_220 : decode cX9_findDrift 220 = .ok (.lmul, 1) := by decide +kernel
theorem dX9_findDrift_221 : decode cX9_findDrift 221 = .ok (.aload_n 0, 1) := by decide +kernel
theorem dX9_findDrift_222 : decode cX9_findDrift 222 = .ok (.getfield 122, 3) := by decide +kernel
theorem dX9_findDrift_225 : decode cX9_findDrift 225 = .ok (.lload 9, 2) := by decide +kernel
theorem dX9_findDrift_227 : decode cX9_findDrift 227 = .ok (.lmul, 1) := by decide +kernel
theorem dX9_findDrift_228 : decode cX9_findDrift 228 = .ok (.lcmp, 1) := by decide +kernel
theorem dX9_findDrift_229 : decode cX9_findDrift 229 = .ok (.ifCond .ge 7, 3) := by decide +kernel
theorem dX9_findDrift_232 : decode cX9_findDrift 232 = .ok (.iconst 1, 1) := by decide +kernel
theorem dX9_findDrift_233 : decode cX9_findDrift 233 = .ok (.goto 4, 3) := by decide +kernel
theorem dX9_findDrift_236 : decode cX9_findDrift 236 = .ok (.iconst 0, 1) := by decide +kernel
theorem dX9_findDrift_237 : decode cX9_findDrift 237 = .ok (.istore 11, 2) := by decide +kernel
theorem dX9_findDrift_239 : decode cX9_findDrift 239 = .ok (.aload_n 0, 1) := by decide +kernel
theorem dX9_findDrift_240 : decode cX9_findDrift 240 = .ok (.iload 11, 2) := by decide +kernel
theorem dX9_findDrift_242 : decode cX9_findDrift 242 = .ok (.ifCond .eq 8, 3) := by decide +kernel
theorem dX9_findDrift_245 : decode cX9_findDrift 245 = .ok (.lload 7, 2) := by decide +kernel
theorem dX9_findDrift_247 : decode cX9_findDrift 247 = .ok (.goto 7, 3) := by decide +kernel
theorem dX9_findDrift_250 : decode cX9_findDrift 250 = .ok (.aload_n 0, 1) := by decide +kernel
theorem dX9_findDrift_251 : decode cX9_findDrift 251 = .ok (.getfield 122, 3) := by decide +kernel
theorem dX9_findDrift_254 : decode cX9_findDrift 254 = .ok (.putfield 122, 3) := by decide +kernel
theorem dX9_findDrift_257 : decode cX9_findDrift 257 = .ok (.aload_n 0, 1) := by decide +kernel
theorem dX9_findDrift_258 : decode cX9_findDrift 258 = .ok (.iload 11, 2) := by decide +kernel
theorem dX9_findDrift_260 : decode cX9_findDrift 260 = .ok (.ifCond .eq 8, 3) := by decide +kernel
theorem dX9_findDrift_263 : decode cX9_findDrift 263 = .ok (.lload 9, 2) := by decide +kernel
theorem dX9_findDrift_265 : decode cX9_findDrift 265 = .ok (.goto 7, 3) := by decide +kernel
theorem dX9_findDrift_268 : decode cX9_findDrift 268 = .ok (.aload_n 0, 1) := by decide +kernel
theorem dX9_findDrift_269 : decode cX9_findDrift 269 = .ok (.getfield 126, 3) := by decide +kernel
theorem dX9_findDrift_272 : decode cX9_findDrift 272 = .ok (.putfield 126, 3) := by decide +kernel
theorem dX9_findDrift_275 : decode cX9_findDrift 275 = .ok (.iconst 1, 1) := by decide +kernel
theorem dX9_findDrift_276 : decode cX9_findDrift 276 = .ok (.istore_n 1, 1) := by decide +kernel
theorem dX9_findDrift_277 : decode cX9_findDrift 277 = .ok (.iinc 5 1, 3) := by decide +kernel
theorem dX9_findDrift_280 : decode cX9_findDrift 280 = .ok (.goto (-183), 3) := by decide +kernel
theorem dX9_findDrift_283 : decode cX9_findDrift 283 = .ok (.iinc 4 1, 3) := by decide +kernel
theorem dX9_findDrift_286 : decode cX9_findDrift 286 = .ok (.goto (-201), 3) := by decide +kernel
theorem dX9_findDrift_289 : decode cX9_findDrift 289 = .ok (.aload_n 0, 1) := by decide +kernel
theorem dX9_findDrift_290 : decode cX9_findDrift 290 = .ok (.getfield 122, 3) := by decide +kernel
theorem dX9_findDrift_293 : decode cX9_findDrift 293 = .ok (.lconst 0, 1) := by decide +kernel
theorem dX9_findDrift_294 : decode cX9_findDrift 294 = .ok (.lcmp, 1) := by decide +kernel
theorem dX9_findDrift_295 : decode cX9_findDrift 295 = .ok (.ifCond .ge 11, 3) := by decide +kernel
theorem dX9_findDrift_298 : decode cX9_findDrift 298 = .ok (.aload_n 0, 1) := by decide +kernel
theorem dX9_findDrift_299 : decode cX9_findDrift 299 = .ok (.getfield 122, 3) := by decide +kernel
theorem dX9_findDrift_302 : decode cX9_findDrift 302 = .ok (.lneg, 1) := by decide +kernel
theorem dX9_findDrift_303 : decode cX9_findDrift 303 = .ok (.goto 7, 3) := by decide +kernel
theorem dX9_findDrift_306 : decode cX9_findDrift 306 = .ok (.aload_n 0, 1) := by decide +kernel
theorem dX9_findDrift_307 : decode cX9_findDrift 307 = .ok (.getfield 122, 3) := by decide +kernel
theorem dX9_findDrift_310 : decode cX9_findDrift 310 = .ok (.lstore 4, 2) := by decide +kernel
theorem dX9_findDrift_312 : decode cX9_findDrift 312 = .ok (.aload_n 0, 1) := by decide +kernel
theorem dX9_findDrift_313 : decode cX9_findDrift 313 = .ok (.getfield 126, 3) := by decide +kernel
theorem dX9_findDrift_316 : decode cX9_findDrift 316 = .ok (.lstore 6, 2) := by decide +kernel
theorem dX9_findDrift_318 : decode cX9_findDrift 318 = .ok (.lload 6, 2) := by decide +kernel
theorem dX9_findDrift_320 : decode cX9_findDrift 320 = .ok (.lconst 0, 1) := by decide +kernel
theorem dX9_findDrift_321 : decode cX9_findDrift 321 = .ok (.lcmp, 1) := by decide +kernel
theorem dX9_findDrift_322 : decode cX9_findDrift 322 = .ok (.ifCond .eq 21, 3) := by decide +kernel
theorem dX9_findDrift_325 : decode cX9_findDrift 325 = .ok (.lload 4, 2) := by decide +kernel
theorem dX9_findDrift_327 : decode cX9_findDrift 327 = .ok (.lload 6, 2) := by decide +kernel
theorem dX9_findDrift_329 : decode cX9_findDrift 329 = .ok (.lrem, 1) := by decide +kernel
theorem dX9_findDrift_330 : decode cX9_findDrift 330 = .ok (.lstore 8, 2) := by decide +kernel
theorem dX9_findDrift_332 : decode cX9_findDrift 332 = .ok (.lload 6, 2) := by decide +kernel
theorem dX9_findDrift_334 : decode cX9_findDrift 334 = .ok (.lstore 4, 2) := by decide +kernel
theorem dX9_findDrift_336 : decode cX9_findDrift 336 = .ok (.lload 8, 2) := by decide +kernel
theorem dX9_findDrift_338 : decode cX9_findDrift 338 = .ok (.lstore 6, 2) := by decide +kernel
theorem dX9_findDrift_340 : decode cX9_findDrift 340 = .ok (.goto (-22), 3) := by decide +kernel
theorem dX9_findDrift_343 : decode cX9_findDrift 343 = .ok (.aload_n 0, 1) := by decide +kernel
theorem dX9_findDrift_344 : decode cX9_findDrift 344 = .ok (.dup, 1) := by decide +kernel
theorem dX9_findDrift_345 : decode cX9_findDrift 345 = .ok (.getfield 122, 3) := by decide +kernel
theorem dX9_findDrift_348 : decode cX9_findDrift 348 = .ok (.lload 4, 2) := by decide +kernel
theorem dX9_findDrift_350 : decode cX9_findDrift 350 = .ok (.ldiv, 1) := by decide +kernel
theorem dX9_findDrift_351 : decode cX9_findDrift 351 = .ok (.putfield 122, 3) := by decide +kernel
theorem dX9_findDrift_354 : decode cX9_findDrift 354 = .ok (.aload_n 0, 1) := by decide +kernel
theorem dX9_findDrift_355 : decode cX9_findDrift 355 = .ok (.dup, 1) := by decide +kernel
theorem dX9_findDrift_356 : decode cX9_findDrift 356 = .ok (.getfield 126, 3) := by decide +kernel
theorem dX9_findDrift_359 : decode cX9_findDrift 359 = .ok (.lload 4, 2) := by decide +kernel
theorem dX9_findDrift_361 : decode cX9_findDrift 361 = .ok (.ldiv, 1) := by decide +kernel
theorem dX9_findDrift_362 : decode cX9_findDrift 362 = .ok (.putfield 126, 3) := by decide +kernel
theorem dX9_findDrift_365 : decode cX9_findDrift 365 = .ok (.return_, 1) := by decide +kernel
set_option maxRecDepth 20000 in
theorem ggX9_drift_X9_within : GoodIn wsX9_drift wsX9_within := goodIn_r _ [7] (by decide +kernel) (by decide +kernel)
set_option maxRecDepth 20000 in
theorem gX9_drift_X9_within : GoodIn wsX9_drift (va_wsS RX9 54 yX9_within wsX9_within) := goodIn_app (goodIn_of _ (by decide +kernel)) ggX9_drift_X9_within
set_option maxRecDepth 20000 in
theorem ggX9_drift_X9_findDrift : GoodIn wsX9_drift wsX9_findDrift := goodIn_r _ [11, 2, 3, 12, 13, 14, 15, 16, 6, 17, 18, 19, 20, 21, 22, 23, 24, 25, 26, 27, 28, 29, 30, 31, 32, 33, 34, 35, 36, 37, 38, 39, 40, 41, 42, 43, 44, 45, 46, 47, 48, 49, 50] (by decide +kernel) (by decide +kernel)
set_option maxRecDepth 20000 in
theorem gX9_drift_X9_findDrift : GoodIn wsX9_drift (wsV RX9 119 RX9 yX9_findDrift wsX9_findDrift) := goodIn_app (goodIn_of _ (by decide +kernel)) ggX9_drift_X9_findDrift
theorem dX9_drift_0 : decode cX9_drift 0 = .ok (.iload_n 1, 1) := by decide +kernel
theorem dX9_drift_1 : decode cX9_drift 1 = .ok (.iconst 0, 1) := by decide +kernel
theorem dX9_drift_2 : decode cX9_drift 2 = .ok (.iconst 1, 1) := by decide +kernel
theorem dX9_drift_3 : decode cX9_drift 3 = .ok (.invokestatic 54, 3) := by decide +kernel
theorem dX9_drift_6 : decode cX9_drift 6 = .ok (.ifCond .ne 7, 3) := by decide +kernel
theorem dX9_drift_9 : decode cX9_drift 9 = .ok (.ldc2_w 177, 3) := by decide +kernel
theorem dX9_drift_12 : decode cX9_drift 12 = .ok (.lreturn, 1) := by decide +kernel
theorem dX9_drift_13 : decode cX9_drift 13 = .ok (.aload_n 0, 1) := by decide +kernel
theorem dX9_drift_14 : decode cX9_drift 14 = .ok (.invokevirtual 119, 3) := by decide +kernel
theorem dX9_drift_17 : decode cX9_drift 17 = .ok (.iload_n 1, 1) := by decide +kernel
theorem dX9_drift_18 : decode cX9_drift 18 = .ok (.ifCond .ne 10, 3) := by decide +kernel
theorem dX9_drift_21 : decode cX9_drift 21 = .ok (.aload_n 0, 1) := by decide +kernel
theorem dX9_drift_22 : decode cX9_drift 22 = .ok (.getfield 122, 3) := by decide +kernel
theorem dX9_drift_25 : decode cX9_drift 25 = .ok (.goto 7, 3) := by decide +kernel
theorem dX9_drift_28 : decode cX9_drift 28 = .ok (.aload_n 0, 1) := by decide +kernel
theorem dX9_drift_29 : decode cX9_drift 29 = .ok (.getfield 126, 3) := by decide +kernel
theorem dX9_drift_32 : decode cX9_drift 32 = .ok (.lreturn, 1) := by decide +kernel
set_option maxRecDepth 20000 in
theorem ggX9_waiting_X9_within : GoodIn wsX9_waiting wsX9_within := goodIn_r _ [7] (by decide +kernel) (by decide +kernel)
set_option maxRecDepth 20000 in
theorem gX9_waiting_X9_within : GoodIn wsX9_waiting (va_wsS RX9 54 yX9_within wsX9_within) := goodIn_app (goodIn_of _ (by decide +kernel)) ggX9_waiting_X9_within
set_option maxRecDepth 20000 in
theorem ggX9_waiting_X9_isPlayed : GoodIn wsX9_waiting wsX9_isPlayed := goodIn_r _ [11, 12, 13, 14, 15, 16, 6, 17, 3, 18, 23, 24, 25, 26, 27, 28, 29, 30, 31, 32, 33, 34, 35, 36, 37, 38, 39, 40, 41, 42, 43, 44, 45, 46, 47, 48, 49, 50] (by decide +kernel) (by decide +kernel)
set_option maxRecDepth 20000 in
theorem gX9_waiting_X9_isPlayed : GoodIn wsX9_waiting (wsV RX9 147 RX9 yX9_isPlayed wsX9_isPlayed) := goodIn_app (goodIn_of _ (by decide +kernel)) ggX9_waiting_X9_isPlayed
set_option maxRecDepth 20000 in
theorem ggX9_waiting_X9_playedAt : GoodIn wsX9_waiting wsX9_playedAt := goodIn_r _ [22, 18, 12, 13, 23, 24, 25, 26, 27, 28, 29, 30, 31, 32, 33, 34, 35, 36, 37, 38, 39, 40, 41, 42, 43, 44, 45, 46, 47, 48, 49, 50] (by decide +kernel) (by decide +kernel)
set_option maxRecDepth 20000 in
theorem gX9_waiting_X9_playedAt : GoodIn wsX9_waiting (wsV RX9 151 RX9 yX9_playedAt wsX9_playedAt) := goodIn_app (goodIn_of _ (by decide +kernel)) ggX9_waiting_X9_playedAt
theorem dX9_waiting_0 : decode cX9_waiting 0 = .ok (.iload_n 1, 1) := by decide +kernel
theorem dX9_waiting_1 : decode cX9_waiting 1 = .ok (.iconst 0, 1) := by decide +kernel
theorem dX9_waiting_2 : decode cX9_waiting 2 = .ok (.ldc 179, 2) := by decide +kernel
theorem dX9_waiting_4 : decode cX9_waiting 4 = .ok (.invokestatic 54, 3) := by decide +kernel
theorem dX9_waiting_7 : decode cX9_waiting 7 = .ok (.ifCond .ne 6, 3) := by decide +kernel
theorem dX9_waiting_10 : decode cX9_waiting 10 = .ok (.bipush (-2), 2) := by decide +kernel
theorem dX9_waiting_12 : decode cX9_waiting 12 = .ok (.ireturn, 1) := by decide +kernel
theorem dX9_waiting_13 : decode cX9_waiting 13 = .ok (.iconst 0, 1) := by decide +kernel
theorem dX9_waiting_14 : decode cX9_waiting 14 = .ok (.istore_n 2, 1) := by decide +kernel
theorem dX9_waiting_15 : decode cX9_waiting 15 = .ok (.iconst 0, 1) := by decide +kernel
theorem dX9_waiting_16 : decode cX9_waiting 16 = .ok (.istore_n 3, 1) := by decide +kernel
theorem dX9_waiting_17 : decode cX9_waiting 17 = .ok (.iload_n 3, 1) := by decide +kernel
theorem dX9_waiting_18 : decode cX9_waiting 18 = .ok (.aload_n 0, 1) := by decide +kernel
theorem dX9_waiting_19 : decode cX9_waiting 19 = .ok (.getfield 78, 3) := by decide +kernel
theorem dX9_waiting_22 : decode cX9_waiting 22 = .ok (.if_icmp .ge 44, 3) := by decide +kernel
theorem dX9_waiting_25 : decode cX9_waiting 25 = .ok (.iload_n 2, 1) := by decide +kernel
theorem dX9_waiting_26 : decode cX9_waiting 26 = .ok (.aload_n 0, 1) := by decide +kernel
theorem dX9_waiting_27 : decode cX9_waiting 27 = .ok (.getfield 26, 3) := by decide +kernel
theorem dX9_waiting_30 : decode cX9_waiting 30 = .ok (.iload_n 3, 1) := by decide +kernel
theorem dX9_waiting_31 : decode cX9_waiting 31 = .ok (.iaload, 1) := by decide +kernel
theorem dX9_waiting_32 : decode cX9_waiting 32 = .ok (.iload_n 1, 1) := by decide +kernel
theorem dX9_waiting_33 : decode cX9_waiting 33 = .ok (.if_icmp .gt 24, 3) := by decide +kernel
theorem dX9_waiting_36 : decode cX9_waiting 36 = .ok (.aload_n 0, 1) := by decide +kernel
theorem dX9_waiting_37 : decode cX9_waiting 37 = .ok (.iload_n 3, 1) := by decide +kernel
theorem dX9_waiting_38 : decode cX9_waiting 38 = .ok (.invokevirtual 147, 3) := by decide +kernel
theorem dX9_waiting_41 : decode cX9_waiting 41 = .ok (.ifCond .eq 16, 3) := by decide +kernel
theorem dX9_waiting_44 : decode cX9_waiting 44 = .ok (.aload_n 0, 1) := by decide +kernel
theorem dX9_waiting_45 : decode cX9_waiting 45 = .ok (.iload_n 3, 1) := by decide +kernel
theorem dX9_waiting_46 : decode cX9_waiting 46 = .ok (.invokevirtual 151, 3) := by decide +kernel
theorem dX9_waiting_49 : decode cX9_waiting 49 = .ok (.iload_n 1, 1) := by decide +kernel
theorem dX9_waiting_50 : decode cX9_waiting 50 = .ok (.if_icmp .le 7, 3) := by decide +kernel
theorem dX9_waiting_53 : decode cX9_waiting 53 = .ok (.iconst 1, 1) := by decide +kernel
theorem dX9_waiting_54 : decode cX9_waiting 54 = .ok (.goto 4, 3) := by decide +kernel
theorem dX9_waiting_57 : decode cX9_waiting 57 = .ok (.iconst 0, 1) := by decide +kernel
theorem dX9_waiting_58 : decode cX9_waiting 58 = .ok (.iadd, 1) := by decide +kernel
theorem dX9_waiting_59 : decode cX9_waiting 59 = .ok (.istore_n 2, 1) := by decide +kernel
theorem dX9_waiting_60 : decode cX9_waiting 60 = .ok (.iinc 3 1, 3) := by decide +kernel
theorem dX9_waiting_63 : decode cX9_waiting 63 = .ok (.goto (-46), 3) := by decide +kernel
theorem dX9_waiting_66 : decode cX9_waiting 66 = .ok (.iload_n 2, 1) := by decide +kernel
theorem dX9_waiting_67 : decode cX9_waiting 67 = .ok (.ireturn, 1) := by decide +kernel
set_option maxRecDepth 20000 in
theorem ggX9_playing_X9_within : GoodIn wsX9_playing wsX9_within := goodIn_r _ [7] (by decide +kernel) (by decide +kernel)
set_option maxRecDepth 20000 in
theorem gX9_playing_X9_within : GoodIn wsX9_playing (va_wsS RX9 54 yX9_within wsX9_within) := goodIn_app (goodIn_of _ (by decide +kernel)) ggX9_playing_X9_within
set_option maxRecDepth 20000 in
theorem ggX9_playing_X9_isPlayed : GoodIn wsX9_playing wsX9_isPlayed := goodIn_r _ [11, 12, 13, 14, 15, 16, 6, 17, 18, 3, 23, 24, 25, 26, 27, 28, 29, 30, 31, 32, 33, 34, 35, 36, 37, 38, 39, 40, 41, 42, 43, 44, 45, 46, 47, 48, 49, 50] (by decide +kernel) (by decide +kernel)
set_option maxRecDepth 20000 in
theorem gX9_playing_X9_isPlayed : GoodIn wsX9_playing (wsV RX9 147 RX9 yX9_isPlayed wsX9_isPlayed) := goodIn_app (goodIn_of _ (by decide +kernel)) ggX9_playing_X9_isPlayed
set_option maxRecDepth 20000 in
theorem ggX9_playing_X9_playedAt : GoodIn wsX9_playing wsX9_playedAt := goodIn_r _ [22, 3, 12, 13, 23, 24, 25, 26, 27, 28, 29, 30, 31, 32, 33, 34, 35, 36, 37, 38, 39, 40, 41, 42, 43, 44, 45, 46, 47, 48, 49, 50] (by decide +kernel) (by decide +kernel)
set_option maxRecDepth 20000 in
theorem gX9_playing_X9_playedAt : GoodIn wsX9_playing (wsV RX9 151 RX9 yX9_playedAt wsX9_playedAt) := goodIn_app (goodIn_of _ (by decide +kernel)) ggX9_playing_X9_playedAt
theorem dX9_playing_0 : decode cX9_playing 0 = .ok (.iload_n 1, 1) := by decide +kernel
theorem dX9_playing_1 : decode cX9_playing 1 = .ok (.iconst 0, 1) := by decide +kernel
theorem dX9_playing_2 : decode cX9_playing 2 = .ok (.ldc 179, 2) := by decide +kernel
theorem dX9_playing_4 : decode cX9_playing 4 = .ok (.invokestatic 54, 3) := by decide +kernel
theorem dX9_playing_7 : decode cX9_playing 7 = .ok (.ifCond .ne 6, 3) := by decide +kernel
theorem dX9_playing_10 : decode cX9_playing 10 = .ok (.bipush (-2), 2) := by decide +kernel
theorem dX9_playing_12 : decode cX9_playing 12 = .ok (.ireturn, 1) := by decide +kernel
theorem dX9_playing_13 : decode cX9_playing 13 = .ok (.iconst 0, 1) := by decide +kernel
theorem dX9_playing_14 : decode cX9_playing 14 = .ok (.istore_n 2, 1) := by decide +kernel
theorem dX9_playing_15 : decode cX9_playing 15 = .ok (.iload_n 2, 1) := by decide +kernel
theorem dX9_playing_16 : decode cX9_playing 16 = .ok (.aload_n 0, 1) := by decide +kernel
theorem dX9_playing_17 : decode cX9_playing 17 = .ok (.getfield 78, 3) := by decide +kernel
theorem dX9_playing_20 : decode cX9_playing 20 = .ok (.if_icmp .ge 45, 3) := by decide +kernel
theorem dX9_playing_23 : decode cX9_playing 23 = .ok (.aload_n 0, 1) := by decide +kernel
theorem dX9_playing_24 : decode cX9_playing 24 = .ok (.iload_n 2, 1) := by decide +kernel
theorem dX9_playing_25 : decode cX9_playing 25 = .ok (.invokevirtual 147, 3) := by decide +kernel
theorem dX9_playing_28 : decode cX9_playing 28 = .ok (.ifCond .eq 31, 3) := by decide +kernel
theorem dX9_playing_31 : decode cX9_playing 31 = .ok (.aload_n 0, 1) := by decide +kernel
theorem dX9_playing_32 : decode cX9_playing 32 = .ok (.iload_n 2, 1) := by decide +kernel
theorem dX9_playing_33 : decode cX9_playing 33 = .ok (.invokevirtual 151, 3) := by decide +kernel
theorem dX9_playing_36 : decode cX9_playing 36 = .ok (.iload_n 1, 1) := by decide +kernel
theorem dX9_playing_37 : decode cX9_playing 37 = .ok (.if_icmp .gt 22, 3) := by decide +kernel
theorem dX9_playing_40 : decode cX9_playing 40 = .ok (.aload_n 0, 1) := by decide +kernel
theorem dX9_playing_41 : decode cX9_playing 41 = .ok (.iload_n 2, 1) := by decide +kernel
theorem dX9_playing_42 : decode cX9_playing 42 = .ok (.invokevirtual 151, 3) := by decide +kernel
theorem dX9_playing_45 : decode cX9_playing 45 = .ok (.iload_n 1, 1) := by decide +kernel
theorem dX9_playing_46 : decode cX9_playing 46 = .ok (.bipush 20, 2) := by decide +kernel
theorem dX9_playing_48 : decode cX9_playing 48 = .ok (.isub, 1) := by decide +kernel
theorem dX9_playing_49 : decode cX9_playing 49 = .ok (.if_icmp .le 10, 3) := by decide +kernel
theorem dX9_playing_52 : decode cX9_playing 52 = .ok (.aload_n 0, 1) := by decide +kernel
theorem dX9_playing_53 : decode cX9_playing 53 = .ok (.getfield 23, 3) := by decide +kernel
theorem dX9_playing_56 : decode cX9_playing 56 = .ok (.iload_n 2, 1) := by decide +kernel
theorem dX9_playing_57 : decode cX9_playing 57 = .ok (.iaload, 1) := by decide +kernel
theorem dX9_playing_58 : decode cX9_playing 58 = .ok (.ireturn, 1) := by decide +kernel
theorem dX9_playing_59 : decode cX9_playing 59 = .ok (.iinc 2 1, 3) := by decide +kernel
theorem dX9_playing_62 : decode cX9_playing 62 = .ok (.goto (-47), 3) := by decide +kernel
theorem dX9_playing_65 : decode cX9_playing 65 = .ok (.bipush (-9), 2) := by decide +kernel
theorem dX9_playing_67 : decode cX9_playing 67 = .ok (.ireturn, 1) := by decide +kernel
theorem dX9_writes_0 : decode cX9_writes 0 = .ok (.aload_n 0, 1) := by decide +kernel
theorem dX9_writes_1 : decode cX9_writes 1 = .ok (.getfield 51, 3) := by decide +kernel
theorem dX9_writes_4 : decode cX9_writes 4 = .ok (.aload_n 0, 1) := by decide +kernel
theorem dX9_writes_5 : decode cX9_writes 5 = .ok (.getfield 180, 3) := by decide +kernel
theorem dX9_writes_8 : decode cX9_writes 8 = .ok (.iload_n 1, 1) := by decide +kernel
theorem dX9_writes_9 : decode cX9_writes 9 = .ok (.iastore, 1) := by decide +kernel
theorem dX9_writes_10 : decode cX9_writes 10 = .ok (.aload_n 0, 1) := by decide +kernel
theorem dX9_writes_11 : decode cX9_writes 11 = .ok (.dup, 1) := by decide +kernel
theorem dX9_writes_12 : decode cX9_writes 12 = .ok (.getfield 180, 3) := by decide +kernel
theorem dX9_writes_15 : decode cX9_writes 15 = .ok (.iconst 1, 1) := by decide +kernel
theorem dX9_writes_16 : decode cX9_writes 16 = .ok (.iadd, 1) := by decide +kernel
theorem dX9_writes_17 : decode cX9_writes 17 = .ok (.putfield 180, 3) := by decide +kernel
theorem dX9_writes_20 : decode cX9_writes 20 = .ok (.return_, 1) := by decide +kernel
set_option maxRecDepth 20000 in
theorem ggX9_writesNumber_X9_writes : GoodIn wsX9_writesNumber wsX9_writes := goodIn_r _ [5, 6, 7, 8, 9, 10, 11, 12, 13, 14, 15, 16, 17, 18, 19, 20, 21, 22, 23, 24, 25, 26, 27, 28, 29, 30, 31, 32, 33, 34, 35] (by decide +kernel) (by decide +kernel)
set_option maxRecDepth 20000 in
theorem gX9_writesNumber_X9_writes : GoodIn wsX9_writesNumber (wsV RX9 183 RX9 yX9_writes wsX9_writes) := goodIn_app (goodIn_of _ (by decide +kernel)) ggX9_writesNumber_X9_writes
theorem dX9_writesNumber_0 : decode cX9_writesNumber 0 = .ok (.iload_n 1, 1) := by decide +kernel
theorem dX9_writesNumber_1 : decode cX9_writesNumber 1 = .ok (.ifCond .ge 9, 3) := by decide +kernel
theorem dX9_writesNumber_4 : decode cX9_writesNumber 4 = .ok (.aload_n 0, 1) := by decide +kernel
theorem dX9_writesNumber_5 : decode cX9_writesNumber 5 = .ok (.bipush 45, 2) := by decide +kernel
theorem dX9_writesNumber_7 : decode cX9_writesNumber 7 = .ok (.invokevirtual 183, 3) := by decide +kernel
theorem dX9_writesNumber_10 : decode cX9_writesNumber 10 = .ok (.iload_n 1, 1) := by decide +kernel
theorem dX9_writesNumber_11 : decode cX9_writesNumber 11 = .ok (.ifCond .ge 8, 3) := by decide +kernel
theorem dX9_writesNumber_14 : decode cX9_writesNumber 14 = .ok (.iload_n 1, 1) := by decide +kernel
theorem dX9_writesNumber_15 : decode cX9_writesNumber 15 = .ok (.ineg, 1) := by decide +kernel
theorem dX9_writesNumber_16 : decode cX9_writesNumber 16 = .ok (.goto 4, 3) := by decide +kernel
theorem dX9_writesNumber_19 : decode cX9_writesNumber 19 = .ok (.iload_n 1, 1) := by decide +kernel
theorem dX9_writesNumber_20 : decode cX9_writesNumber 20 = .ok (.istore_n 2, 1) := by decide +kernel
theorem dX9_writesNumber_21 : decode cX9_writesNumber 21 = .ok (.iconst 1, 1) := by decide +kernel
theorem dX9_writesNumber_22 : decode cX9_writesNumber 22 = .ok (.istore_n 3, 1) := by decide +kernel
theorem dX9_writesNumber_23 : decode cX9_writesNumber 23 = .ok (.iload_n 2, 1) := by decide +kernel
theorem dX9_writesNumber_24 : decode cX9_writesNumber 24 = .ok (.iload_n 3, 1) := by decide +kernel
theorem dX9_writesNumber_25 : decode cX9_writesNumber 25 = .ok (.idiv, 1) := by decide +kernel
theorem dX9_writesNumber_26 : decode cX9_writesNumber 26 = .ok (.bipush 10, 2) := by decide +kernel
theorem dX9_writesNumber_28 : decode cX9_writesNumber 28 = .ok (.if_icmp .lt 11, 3) := by decide +kernel
theorem dX9_writesNumber_31 : decode cX9_writesNumber 31 = .ok (.iload_n 3, 1) := by decide +kernel
theorem dX9_writesNumber_32 : decode cX9_writesNumber 32 = .ok (.bipush 10, 2) := by decide +kernel
theorem dX9_writesNumber_34 : decode cX9_writesNumber 34 = .ok (.imul, 1) := by decide +kernel
theorem dX9_writesNumber_35 : decode cX9_writesNumber 35 = .ok (.istore_n 3, 1) := by decide +kernel
theorem dX9_writesNumber_36 : decode cX9_writesNumber 36 = .ok (.goto (-13), 3) := by decide +kernel
theorem dX9_writesNumber_39 : decode cX9_writesNumber 39 = .ok (.iload_n 3, 1) := by decide +kernel
theorem dX9_writesNumber_40 : decode cX9_writesNumber 40 = .ok (.ifCond .le 24, 3) := by decide +kernel
theorem dX9_writesNumber_43 : decode cX9_writesNumber 43 = .ok (.aload_n 0, 1) := by decide +kernel
theorem dX9_writesNumber_44 : decode cX9_writesNumber 44 = .ok (.bipush 48, 2) := by decide +kernel
theorem dX9_writesNumber_46 : decode cX9_writesNumber 46 = .ok (.iload_n 2, 1) := by decide +kernel
theorem dX9_writesNumber_47 : decode cX9_writesNumber 47 = .ok (.iload_n 3, 1) := by decide +kernel
theorem dX9_writesNumber_48 : decode cX9_writesNumber 48 = .ok (.idiv, 1) := by decide +kernel
theorem dX9_writesNumber_49 : decode cX9_writesNumber 49 = .ok (.bipush 10, 2) := by decide +kernel
theorem dX9_writesNumber_51 : decode cX9_writesNumber 51 = .ok (.irem, 1) := by decide +kernel
theorem dX9_writesNumber_52 : decode cX9_writesNumber 52 = .ok (.iadd, 1) := by decide +kernel
theorem dX9_writesNumber_53 : decode cX9_writesNumber 53 = .ok (.invokevirtual 183, 3) := by decide +kernel
theorem dX9_writesNumber_56 : decode cX9_writesNumber 56 = .ok (.iload_n 3, 1) := by decide +kernel
theorem dX9_writesNumber_57 : decode cX9_writesNumber 57 = .ok (.bipush 10, 2) := by decide +kernel
theorem dX9_writesNumber_59 : decode cX9_writesNumber 59 = .ok (.idiv, 1) := by decide +kernel
theorem dX9_writesNumber_60 : decode cX9_writesNumber 60 = .ok (.istore_n 3, 1) := by decide +kernel
theorem dX9_writesNumber_61 : decode cX9_writesNumber 61 = .ok (.goto (-22), 3) := by decide +kernel
theorem dX9_writesNumber_64 : decode cX9_writesNumber 64 = .ok (.return_, 1) := by decide +kernel
set_option maxRecDepth 20000 in
theorem ggX9_writesSpurt_X9_writes : GoodIn wsX9_writesSpurt wsX9_writes := goodIn_r _ [12, 13, 1, 40, 41, 42, 43, 44, 45, 46, 47, 48, 49, 50, 51, 52, 53, 54, 55, 56, 57, 58, 59, 60, 61, 62, 63, 64, 65, 66, 67] (by decide +kernel) (by decide +kernel)
set_option maxRecDepth 20000 in
theorem gX9_writesSpurt_X9_writes : GoodIn wsX9_writesSpurt (wsV RX9 183 RX9 yX9_writes wsX9_writes) := goodIn_app (goodIn_of _ (by decide +kernel)) ggX9_writesSpurt_X9_writes
set_option maxRecDepth 20000 in
theorem ggX9_writesSpurt_X9_writesNumber : GoodIn wsX9_writesSpurt wsX9_writesNumber := goodIn_r _ [17, 8, 9, 10, 11, 12, 13, 1, 40, 41, 42, 43, 44, 45, 46, 47, 48, 49, 50, 51, 52, 53, 54, 55, 56, 57, 58, 59, 60, 61, 62, 63, 64, 65, 66, 67] (by decide +kernel) (by decide +kernel)
set_option maxRecDepth 20000 in
theorem gX9_writesSpurt_X9_writesNumber : GoodIn wsX9_writesSpurt (wsV RX9 186 RX9 yX9_writesNumber wsX9_writesNumber) := goodIn_app (goodIn_of _ (by decide +kernel)) ggX9_writesSpurt_X9_writesNumber
set_option maxRecDepth 20000 in
theorem ggX9_writesSpurt_X9_wordLong : GoodIn wsX9_writesSpurt wsX9_wordLong := goodIn_r _ [21] (by decide +kernel) (by decide +kernel)
set_option maxRecDepth 20000 in
theorem gX9_writesSpurt_X9_wordLong : GoodIn wsX9_writesSpurt (wsV RX9 61 RX9 yX9_wordLong wsX9_wordLong) := goodIn_app (goodIn_of _ (by decide +kernel)) ggX9_writesSpurt_X9_wordLong
set_option maxRecDepth 20000 in
theorem ggX9_writesSpurt_X9_counts : GoodIn wsX9_writesSpurt wsX9_counts := goodIn_r _ [25, 26, 27, 2, 6, 28, 29, 30, 31, 32, 33, 11, 34, 5, 35, 36, 37, 38, 39, 40, 41, 42, 43, 44, 45, 46, 47, 48, 49, 50, 51, 52, 53, 54, 55, 56, 57, 58, 59, 60, 61, 62, 63, 64, 65, 66, 67] (by decide +kernel) (by decide +kernel)
set_option maxRecDepth 20000 in
theorem gX9_writesSpurt_X9_counts : GoodIn wsX9_writesSpurt (wsV RX9 163 RX9 yX9_counts wsX9_counts) := goodIn_app (goodIn_of _ (by decide +kernel)) ggX9_writesSpurt_X9_counts
set_option maxRecDepth 20000 in
theorem ggX9_writesSpurt_X9_isPlayed : GoodIn wsX9_writesSpurt wsX9_isPlayed := goodIn_r _ [34, 5, 29, 35, 36, 37, 11, 38, 39, 30, 40, 41, 42, 43, 44, 45, 46, 47, 48, 49, 50, 51, 52, 53, 54, 55, 56, 57, 58, 59, 60, 61, 62, 63, 64, 65, 66, 67] (by decide +kernel) (by decide +kernel)
set_option maxRecDepth 20000 in
theorem gX9_writesSpurt_X9_isPlayed : GoodIn wsX9_writesSpurt (wsV RX9 147 RX9 yX9_isPlayed wsX9_isPlayed) := goodIn_app (goodIn_of _ (by decide +kernel)) ggX9_writesSpurt_X9_isPlayed
theorem dX9_writesSpurt_0 : decode cX9_writesSpurt 0 = .ok (.aload_n 0, 1) := by decide +kernel
theorem dX9_writesSpurt_1 : decode cX9_writesSpurt 1 = .ok (.iconst 0, 1) := by decide +kernel
theorem dX9_writesSpurt_2 : decode cX9_writesSpurt 2 = .ok (.putfield 180, 3) := by decide +kernel
theorem dX9_writesSpurt_5 : decode cX9_writesSpurt 5 = .ok (.aload_n 0, 1) := by decide +kernel
theorem dX9_writesSpurt_6 : decode cX9_writesSpurt 6 = .ok (.bipush 83, 2) := by decide +kernel
theorem dX9_writesSpurt_8 : decode cX9_writesSpurt 8 = .ok (.invokevirtual 183, 3) := by decide +kernel
theorem dX9_writesSpurt_11 : decode cX9_writesSpurt 11 = .ok (.aload_n 0, 1) := by decide +kernel
theorem dX9_writesSpurt_12 : decode cX9_writesSpurt 12 = .ok (.aload_n 0, 1) := by decide +kernel
theorem dX9_writesSpurt_13 : decode cX9_writesSpurt 13 = .ok (.getfield 35, 3) := by decide +kernel
theorem dX9_writesSpurt_16 : decode cX9_writesSpurt 16 = .ok (.iload_n 1, 1) := by decide +kernel
theorem dX9_writesSpurt_17 : decode cX9_writesSpurt 17 = .ok (.iaload, 1) := by decide +kernel
theorem dX9_writesSpurt_18 : decode cX9_writesSpurt 18 = .ok (.invokevirtual 186, 3) := by decide +kernel
theorem dX9_writesSpurt_21 : decode cX9_writesSpurt 21 = .ok (.aload_n 0, 1) := by decide +kernel
theorem dX9_writesSpurt_22 : decode cX9_writesSpurt 22 = .ok (.bipush 32, 2) := by decide +kernel
theorem dX9_writesSpurt_24 : decode cX9_writesSpurt 24 = .ok (.invokevirtual 183, 3) := by decide +kernel
theorem dX9_writesSpurt_27 : decode cX9_writesSpurt 27 = .ok (.iconst 0, 1) := by decide +kernel
theorem dX9_writesSpurt_28 : decode cX9_writesSpurt 28 = .ok (.istore_n 2, 1) := by decide +kernel
theorem dX9_writesSpurt_29 : decode cX9_writesSpurt 29 = .ok (.iload_n 2, 1) := by decide +kernel
theorem dX9_writesSpurt_30 : decode cX9_writesSpurt 30 = .ok (.aload_n 0, 1) := by decide +kernel
theorem dX9_writesSpurt_31 : decode cX9_writesSpurt 31 = .ok (.aload_n 0, 1) := by decide +kernel
theorem dX9_writesSpurt_32 : decode cX9_writesSpurt 32 = .ok (.getfield 44, 3) := by decide +kernel
theorem dX9_writesSpurt_35 : decode cX9_writesSpurt 35 = .ok (.iload_n 1, 1) := by decide +kernel
theorem dX9_writesSpurt_36 : decode cX9_writesSpurt 36 = .ok (.iaload, 1) := by decide +kernel
theorem dX9_writesSpurt_37 : decode cX9_writesSpurt 37 = .ok (.invokevirtual 61, 3) := by decide +kernel
theorem dX9_writesSpurt_40 : decode cX9_writesSpurt 40 = .ok (.if_icmp .ge 28, 3) := by decide +kernel
theorem dX9_writesSpurt_43 : decode cX9_writesSpurt 43 = .ok (.aload_n 0, 1) := by decide +kernel
theorem dX9_writesSpurt_44 : decode cX9_writesSpurt 44 = .ok (.aload_n 0, 1) := by decide +kernel
theorem dX9_writesSpurt_45 : decode cX9_writesSpurt 45 = .ok (.getfield 7, 3) := by decide +kernel
theorem dX9_writesSpurt_48 : decode cX9_writesSpurt 48 = .ok (.iconst 5, 1) := by decide +kernel
theorem dX9_writesSpurt_49 : decode cX9_writesSpurt 49 = .ok (.aload_n 0, 1) := by decide +kernel
theorem dX9_writesSpurt_50 : decode cX9_writesSpurt 50 = .ok (.getfield 44, 3) := by decide +kernel
theorem dX9_writesSpurt_53 : decode cX9_writesSpurt 53 = .ok (.iload_n 1, 1) := by decide +kernel
theorem dX9_writesSpurt_54 : decode cX9_writesSpurt 54 = .ok (.iaload, 1) := by decide +kernel
theorem dX9_writesSpurt_55 : decode cX9_writesSpurt 55 = .ok (.imul, 1) := by decide +kernel
theorem dX9_writesSpurt_56 : decode cX9_writesSpurt 56 = .ok (.iload_n 2, 1) := by decide +kernel
theorem dX9_writesSpurt_57 : decode cX9_writesSpurt 57 = .ok (.iadd, 1) := by decide +kernel
theorem dX9_writesSpurt_58 : decode cX9_writesSpurt 58 = .ok (.iaload, 1) := by decide +kernel
theorem dX9_writesSpurt_59 : decode cX9_writesSpurt 59 = .ok (.invokevirtual 183, 3) := by decide +kernel
theorem dX9_writesSpurt_62 : decode cX9_writesSpurt 62 = .ok (.iinc 2 1, 3) := by decide +kernel
theorem dX9_writesSpurt_65 : decode cX9_writesSpurt 65 = .ok (.goto (-36), 3) := by decide +kernel
theorem dX9_writesSpurt_68 : decode cX9_writesSpurt 68 = .ok (.aload_n 0, 1) := by decide +kernel
theorem dX9_writesSpurt_69 : decode cX9_writesSpurt 69 = .ok (.bipush 32, 2) := by decide +kernel
theorem dX9_writesSpurt_71 : decode cX9_writesSpurt 71 = .ok (.invokevirtual 183, 3) := by decide +kernel
theorem dX9_writesSpurt_74 : decode cX9_writesSpurt 74 = .ok (.aload_n 0, 1) := by decide +kernel
theorem dX9_writesSpurt_75 : decode cX9_writesSpurt 75 = .ok (.bipush 80, 2) := by decide +kernel
theorem dX9_writesSpurt_77 : decode cX9_writesSpurt 77 = .ok (.invokevirtual 183, 3) := by decide +kernel
theorem dX9_writesSpurt_80 : decode cX9_writesSpurt 80 = .ok (.aload_n 0, 1) := by decide +kernel
theorem dX9_writesSpurt_81 : decode cX9_writesSpurt 81 = .ok (.aload_n 0, 1) := by decide +kernel
theorem dX9_writesSpurt_82 : decode cX9_writesSpurt 82 = .ok (.getfield 41, 3) := by decide +kernel
theorem dX9_writesSpurt_85 : decode cX9_writesSpurt 85 = .ok (.iload_n 1, 1) := by decide +kernel
theorem dX9_writesSpurt_86 : decode cX9_writesSpurt 86 = .ok (.iaload, 1) := by decide +kernel
theorem dX9_writesSpurt_87 : decode cX9_writesSpurt 87 = .ok (.invokevirtual 186, 3) := by decide +kernel
theorem dX9_writesSpurt_90 : decode cX9_writesSpurt 90 = .ok (.aload_n 0, 1) := by decide +kernel
theorem dX9_writesSpurt_91 : decode cX9_writesSpurt 91 = .ok (.bipush 32, 2) := by decide +kernel
theorem dX9_writesSpurt_93 : decode cX9_writesSpurt 93 = .ok (.invokevirtual 183, 3) := by decide +kernel
theorem dX9_writesSpurt_96 : decode cX9_writesSpurt 96 = .ok (.aload_n 0, 1) := by decide +kernel
theorem dX9_writesSpurt_97 : decode cX9_writesSpurt 97 = .ok (.iload_n 1, 1) := by decide +kernel
theorem dX9_writesSpurt_98 : decode cX9_writesSpurt 98 = .ok (.invokevirtual 163, 3) := by decide +kernel
theorem dX9_writesSpurt_101 : decode cX9_writesSpurt 101 = .ok (.aload_n 0, 1) := by decide +kernel
theorem dX9_writesSpurt_102 : decode cX9_writesSpurt 102 = .ok (.getfield 35, 3) := by decide +kernel
theorem dX9_writesSpurt_105 : decode cX9_writesSpurt 105 = .ok (.iload_n 1, 1) := by decide +kernel
theorem dX9_writesSpurt_106 : decode cX9_writesSpurt 106 = .ok (.iaload, 1) := by decide +kernel
theorem dX9_writesSpurt_107 : decode cX9_writesSpurt 107 = .ok (.istore_n 2, 1) := by decide +kernel
theorem dX9_writesSpurt_108 : decode cX9_writesSpurt 108 = .ok (.iload_n 2, 1) := by decide +kernel
theorem dX9_writesSpurt_109 : decode cX9_writesSpurt 109 = .ok (.aload_n 0, 1) := by decide +kernel
theorem dX9_writesSpurt_110 : decode cX9_writesSpurt 110 = .ok (.getfield 160, 3) := by decide +kernel
theorem dX9_writesSpurt_113 : decode cX9_writesSpurt 113 = .ok (.if_icmp .gt 49, 3) := by decide +kernel
theorem dX9_writesSpurt_116 : decode cX9_writesSpurt 116 = .ok (.aload_n 0, 1) := by decide +kernel
theorem dX9_writesSpurt_117 : decode cX9_writesSpurt 117 = .ok (.aload_n 0, 1) := by decide +kernel
theorem dX9_writesSpurt_118 : decode cX9_writesSpurt 118 = .ok (.getfield 32, 3) := by decide +kernel
theorem dX9_writesSpurt_121 : decode cX9_writesSpurt 121 = .ok (.iload_n 2, 1) := by decide +kernel
theorem dX9_writesSpurt_122 : decode cX9_writesSpurt 122 = .ok (.iaload, 1) := by decide +kernel
theorem dX9_writesSpurt_123 : decode cX9_writesSpurt 123 = .ok (.bipush (-9), 2) := by decide +kernel
theorem dX9_writesSpurt_125 : decode cX9_writesSpurt 125 = .ok (.if_icmp .ne 8, 3) := by decide +kernel
theorem dX9_writesSpurt_128 : decode cX9_writesSpurt 128 = .ok (.bipush 46, 2) := by decide +kernel
theorem dX9_writesSpurt_130 : decode cX9_writesSpurt 130 = .ok (.goto 23, 3) := by decide +kernel
theorem dX9_writesSpurt_133 : decode cX9_writesSpurt 133 = .ok (.aload_n 0, 1) := by decide +kernel
theorem dX9_writesSpurt_134 : decode cX9_writesSpurt 134 = .ok (.aload_n 0, 1) := by decide +kernel
theorem dX9_writesSpurt_135 : decode cX9_writesSpurt 135 = .ok (.getfield 32, 3) := by decide +kernel
theorem dX9_writesSpurt_138 : decode cX9_writesSpurt 138 = .ok (.iload_n 2, 1) := by decide +kernel
theorem dX9_writesSpurt_139 : decode cX9_writesSpurt 139 = .ok (.iaload, 1) := by decide +kernel
theorem dX9_writesSpurt_140 : decode cX9_writesSpurt 140 = .ok (.invokevirtual 147, 3) := by decide +kernel
theorem dX9_writesSpurt_143 : decode cX9_writesSpurt 143 = .ok (.ifCond .eq 8, 3) := by decide +kernel
theorem dX9_writesSpurt_146 : decode cX9_writesSpurt 146 = .ok (.bipush 43, 2) := by decide +kernel
theorem dX9_writesSpurt_148 : decode cX9_writesSpurt 148 = .ok (.goto 5, 3) := by decide +kernel
theorem dX9_writesSpurt_151 : decode cX9_writesSpurt 151 = .ok (.bipush 45, 2) := by decide +kernel
theorem dX9_writesSpurt_153 : decode cX9_writesSpurt 153 = .ok (.invokevirtual 183, 3) := by decide +kernel
theorem dX9_writesSpurt_156 : decode cX9_writesSpurt 156 = .ok (.iinc 2 1, 3) := by decide +kernel
theorem dX9_writesSpurt_159 : decode cX9_writesSpurt 159 = .ok (.goto (-51), 3) := by decide +kernel
theorem dX9_writesSpurt_162 : decode cX9_writesSpurt 162 = .ok (.return_, 1) := by decide +kernel
set_option maxRecDepth 20000 in
theorem ggX9_text_X9_isSpurt : GoodIn wsX9_text wsX9_isSpurt := goodIn_r _ [7, 8, 9, 10, 6, 11, 52, 53, 54, 55, 56, 57, 58, 59, 60, 61, 62, 63, 64, 65, 66, 67, 68, 69, 70, 71, 72, 73, 74, 75, 76, 77, 78, 79] (by decide +kernel) (by decide +kernel)
set_option maxRecDepth 20000 in
theorem gX9_text_X9_isSpurt : GoodIn wsX9_text (wsV RX9 166 RX9 yX9_isSpurt wsX9_isSpurt) := goodIn_app (goodIn_of _ (by decide +kernel)) ggX9_text_X9_isSpurt
set_option maxRecDepth 20000 in
theorem ggX9_text_X9_within : GoodIn wsX9_text wsX9_within := goodIn_r _ [11] (by decide +kernel) (by decide +kernel)
set_option maxRecDepth 20000 in
theorem gX9_text_X9_within : GoodIn wsX9_text (va_wsS RX9 54 yX9_within wsX9_within) := goodIn_app (goodIn_of _ (by decide +kernel)) ggX9_text_X9_within
set_option maxRecDepth 20000 in
theorem ggX9_text_X9_writesSpurt : GoodIn wsX9_text wsX9_writesSpurt := goodIn_r _ [15, 1, 16, 17, 18, 19, 20, 21, 22, 23, 24, 6, 25, 2, 26, 27, 28, 29, 30, 31, 32, 33, 34, 35, 36, 37, 38, 39, 40, 41, 42, 43, 44, 45, 46, 47, 48, 49, 50, 51, 52, 53, 54, 55, 56, 57, 58, 59, 60, 61, 62, 63, 64, 65, 66, 67, 68, 69, 70, 71, 72, 73, 74, 75, 76, 77, 78, 79] (by decide +kernel) (by decide +kernel)
set_option maxRecDepth 20000 in
theorem gX9_text_X9_writesSpurt : GoodIn wsX9_text (wsV RX9 189 RX9 yX9_writesSpurt wsX9_writesSpurt) := goodIn_app (goodIn_of _ (by decide +kernel)) ggX9_text_X9_writesSpurt
theorem dX9_text_0 : decode cX9_text 0 = .ok (.aload_n 0, 1) := by decide +kernel
theorem dX9_text_1 : decode cX9_text 1 = .ok (.iload_n 1, 1) := by decide +kernel
theorem dX9_text_2 : decode cX9_text 2 = .ok (.invokevirtual 166, 3) := by decide +kernel
theorem dX9_text_5 : decode cX9_text 5 = .ok (.ifCond .ne 5, 3) := by decide +kernel
theorem dX9_text_8 : decode cX9_text 8 = .ok (.iconst (-1), 1) := by decide +kernel
theorem dX9_text_9 : decode cX9_text 9 = .ok (.ireturn, 1) := by decide +kernel
theorem dX9_text_10 : decode cX9_text 10 = .ok (.iload_n 2, 1) := by decide +kernel
theorem dX9_text_11 : decode cX9_text 11 = .ok (.iconst (-1), 1) := by decide +kernel
theorem dX9_text_12 : decode cX9_text 12 = .ok (.sipush 399, 3) := by decide +kernel
theorem dX9_text_15 : decode cX9_text 15 = .ok (.invokestatic 54, 3) := by decide +kernel
theorem dX9_text_18 : decode cX9_text 18 = .ok (.ifCond .ne 6, 3) := by decide +kernel
theorem dX9_text_21 : decode cX9_text 21 = .ok (.bipush (-2), 2) := by decide +kernel
theorem dX9_text_23 : decode cX9_text 23 = .ok (.ireturn, 1) := by decide +kernel
theorem dX9_text_24 : decode cX9_text 24 = .ok (.aload_n 0, 1) := by decide +kernel
theorem dX9_text_25 : decode cX9_text 25 = .ok (.iload_n 1, 1) := by decide +kernel
theorem dX9_text_26 : decode cX9_text 26 = .ok (.invokevirtual 189, 3) := by decide +kernel
theorem dX9_text_29 : decode cX9_text 29 = .ok (.iload_n 2, 1) := by decide +kernel
theorem dX9_text_30 : decode cX9_text 30 = .ok (.ifCond .ge 10, 3) := by decide +kernel
theorem dX9_text_33 : decode cX9_text 33 = .ok (.aload_n 0, 1) := by decide +kernel
theorem dX9_text_34 : decode cX9_text 34 = .ok (.getfield 180, 3) := by decide +kernel
theorem dX9_text_37 : decode cX9_text 37 = .ok (.goto 22, 3) := by decide +kernel
theorem dX9_text_40 : decode cX9_text 40 = .ok (.iload_n 2, 1) := by decide +kernel
theorem dX9_text_41 : decode cX9_text 41 = .ok (.aload_n 0, 1) := by decide +kernel
theorem dX9_text_42 : decode cX9_text 42 = .ok (.getfield 180, 3) := by decide +kernel
theorem dX9_text_45 : decode cX9_text 45 = .ok (.if_icmp .ge 12, 3) := by decide +kernel
theorem dX9_text_48 : decode cX9_text 48 = .ok (.aload_n 0, 1) := by decide +kernel
theorem dX9_text_49 : decode cX9_text 49 = .ok (.getfield 51, 3) := by decide +kernel
theorem dX9_text_52 : decode cX9_text 52 = .ok (.iload_n 2, 1) := by decide +kernel
theorem dX9_text_53 : decode cX9_text 53 = .ok (.iaload, 1) := by decide +kernel
theorem dX9_text_54 : decode cX9_text 54 = .ok (.goto 5, 3) := by decide +kernel
theorem dX9_text_57 : decode cX9_text 57 = .ok (.bipush (-9), 2) := by decide +kernel
theorem dX9_text_59 : decode cX9_text 59 = .ok (.ireturn, 1) := by decide +kernel
set_option maxRecDepth 20000 in
theorem ggX9_word_X9_within : GoodIn wsX9_word wsX9_within := goodIn_r _ [6] (by decide +kernel) (by decide +kernel)
set_option maxRecDepth 20000 in
theorem gX9_word_X9_within : GoodIn wsX9_word (va_wsS RX9 54 yX9_within wsX9_within) := goodIn_app (goodIn_of _ (by decide +kernel)) ggX9_word_X9_within
set_option maxRecDepth 20000 in
theorem ggX9_word_X9_wordLong : GoodIn wsX9_word wsX9_wordLong := goodIn_r _ [10] (by decide +kernel) (by decide +kernel)
set_option maxRecDepth 20000 in
theorem gX9_word_X9_wordLong : GoodIn wsX9_word (wsV RX9 61 RX9 yX9_wordLong wsX9_wordLong) := goodIn_app (goodIn_of _ (by decide +kernel)) ggX9_word_X9_wordLong
theorem dX9_word_0 : decode cX9_word 0 = .ok (.iload_n 1, 1) := by decide +kernel
theorem dX9_word_1 : decode cX9_word 1 = .ok (.iconst 0, 1) := by decide +kernel
theorem dX9_word_2 : decode cX9_word 2 = .ok (.iconst 4, 1) := by decide +kernel
theorem dX9_word_3 : decode cX9_word 3 = .ok (.invokestatic 54, 3) := by decide +kernel
theorem dX9_word_6 : decode cX9_word 6 = .ok (.ifCond .ne 6, 3) := by decide +kernel
theorem dX9_word_9 : decode cX9_word 9 = .ok (.bipush (-2), 2) := by decide +kernel
theorem dX9_word_11 : decode cX9_word 11 = .ok (.ireturn, 1) := by decide +kernel
theorem dX9_word_12 : decode cX9_word 12 = .ok (.iload_n 1, 1) := by decide +kernel
theorem dX9_word_13 : decode cX9_word 13 = .ok (.aload_n 0, 1) := by decide +kernel
theorem dX9_word_14 : decode cX9_word 14 = .ok (.aload_n 0, 1) := by decide +kernel
theorem dX9_word_15 : decode cX9_word 15 = .ok (.getfield 69, 3) := by decide +kernel
theorem dX9_word_18 : decode cX9_word 18 = .ok (.invokevirtual 61, 3) := by decide +kernel
theorem dX9_word_21 : decode cX9_word 21 = .ok (.if_icmp .ge 19, 3) := by decide +kernel
theorem dX9_word_24 : decode cX9_word 24 = .ok (.aload_n 0, 1) := by decide +kernel
theorem dX9_word_25 : decode cX9_word 25 = .ok (.getfield 7, 3) := by decide +kernel
theorem dX9_word_28 : decode cX9_word 28 = .ok (.iconst 5, 1) := by decide +kernel
theorem dX9_word_29 : decode cX9_word 29 = .ok (.aload_n 0, 1) := by decide +kernel
theorem dX9_word_30 : decode cX9_word 30 = .ok (.getfield 69, 3) := by decide +kernel
theorem dX9_word_33 : decode cX9_word 33 = .ok (.imul, 1) := by decide +kernel
theorem dX9_word_34 : decode cX9_word 34 = .ok (.iload_n 1, 1) := by decide +kernel
theorem dX9_word_35 : decode cX9_word 35 = .ok (.iadd, 1) := by decide +kernel
theorem dX9_word_36 : decode cX9_word 36 = .ok (.iaload, 1) := by decide +kernel
theorem dX9_word_37 : decode cX9_word 37 = .ok (.goto 5, 3) := by decide +kernel
theorem dX9_word_40 : decode cX9_word 40 = .ok (.bipush (-9), 2) := by decide +kernel
theorem dX9_word_42 : decode cX9_word 42 = .ok (.ireturn, 1) := by decide +kernel
set_option maxRecDepth 20000 in
theorem ggX9_many_X9_missing : GoodIn wsX9_many wsX9_missing := goodIn_r _ [10, 11, 12, 13, 14, 15, 16, 9, 17, 2, 3, 18, 19, 20, 21, 22, 23, 24, 25, 26, 27, 28, 29, 34, 35, 36, 37, 38, 39, 40, 41, 42, 43, 44, 45, 46, 47, 48, 49, 50, 51, 52, 53, 54, 55, 56, 57, 58, 59, 60, 61] (by decide +kernel) (by decide +kernel)
set_option maxRecDepth 20000 in
theorem gX9_many_X9_missing : GoodIn wsX9_many (wsV RX9 169 RX9 yX9_missing wsX9_missing) := goodIn_app (goodIn_of _ (by decide +kernel)) ggX9_many_X9_missing
set_option maxRecDepth 20000 in
theorem ggX9_many_X9_oldest : GoodIn wsX9_many wsX9_oldest := goodIn_r _ [33, 3, 34, 35, 36, 37, 38, 39, 40, 41, 42, 43, 44, 45, 46, 47, 48, 49, 50, 51, 52, 53, 54, 55, 56, 57, 58, 59, 60, 61] (by decide +kernel) (by decide +kernel)
set_option maxRecDepth 20000 in
theorem gX9_many_X9_oldest : GoodIn wsX9_many (wsV RX9 112 RX9 yX9_oldest wsX9_oldest) := goodIn_app (goodIn_of _ (by decide +kernel)) ggX9_many_X9_oldest
theorem dX9_many_0 : decode cX9_many 0 = .ok (.iconst 0, 1) := by decide +kernel
theorem dX9_many_1 : decode cX9_many 1 = .ok (.istore_n 2, 1) := by decide +kernel
theorem dX9_many_2 : decode cX9_many 2 = .ok (.iconst 0, 1) := by decide +kernel
theorem dX9_many_3 : decode cX9_many 3 = .ok (.istore_n 3, 1) := by decide +kernel
theorem dX9_many_4 : decode cX9_many 4 = .ok (.iconst 0, 1) := by decide +kernel
theorem dX9_many_5 : decode cX9_many 5 = .ok (.istore 4, 2) := by decide +kernel
theorem dX9_many_7 : decode cX9_many 7 = .ok (.iload 4, 2) := by decide +kernel
theorem dX9_many_9 : decode cX9_many 9 = .ok (.aload_n 0, 1) := by decide +kernel
theorem dX9_many_10 : decode cX9_many 10 = .ok (.getfield 75, 3) := by decide +kernel
theorem dX9_many_13 : decode cX9_many 13 = .ok (.if_icmp .ge 25, 3) := by decide +kernel
theorem dX9_many_16 : decode cX9_many 16 = .ok (.iload_n 3, 1) := by decide +kernel
theorem dX9_many_17 : decode cX9_many 17 = .ok (.aload_n 0, 1) := by decide +kernel
theorem dX9_many_18 : decode cX9_many 18 = .ok (.iload 4, 2) := by decide +kernel
theorem dX9_many_20 : decode cX9_many 20 = .ok (.invokevirtual 169, 3) := by decide +kernel
theorem dX9_many_23 : decode cX9_many 23 = .ok (.iadd, 1) := by decide +kernel
theorem dX9_many_24 : decode cX9_many 24 = .ok (.istore_n 3, 1) := by decide +kernel
theorem dX9_many_25 : decode cX9_many 25 = .ok (.iload_n 2, 1) := by decide +kernel
theorem dX9_many_26 : decode cX9_many 26 = .ok (.aload_n 0, 1) := by decide +kernel
theorem dX9_many_27 : decode cX9_many 27 = .ok (.getfield 157, 3) := by decide +kernel
theorem dX9_many_30 : decode cX9_many 30 = .ok (.iadd, 1) := by decide +kernel
theorem dX9_many_31 : decode cX9_many 31 = .ok (.istore_n 2, 1) := by decide +kernel
theorem dX9_many_32 : decode cX9_many 32 = .ok (.iinc 4 1, 3) := by decide +kernel
theorem dX9_many_35 : decode cX9_many 35 = .ok (.goto (-28), 3) := by decide +kernel
theorem dX9_many_38 : decode cX9_many 38 = .ok (.iload_n 1, 1) := by decide +kernel
theorem dX9_many_39 : decode cX9_many 39 = .ok (.tableswitch 86 0 7 #[45, 50, 55, 57, 64, 66, 76, 81], 45) := by decide +kernel
theorem dX9_many_84 : decode cX9_many 84 = .ok (.aload_n 0, 1) := by decide +kernel
theorem dX9_many_85 : decode cX9_many 85 = .ok (.getfield 78, 3) := by decide +kernel
theorem dX9_many_88 : decode cX9_many 88 = .ok (.ireturn, 1) := by decide +kernel
theorem dX9_many_89 : decode cX9_many 89 = .ok (.aload_n 0, 1) := by decide +kernel
theorem dX9_many_90 : decode cX9_many 90 = .ok (.getfield 75, 3) := by decide +kernel
theorem dX9_many_93 : decode cX9_many 93 = .ok (.ireturn, 1) := by decide +kernel
theorem dX9_many_94 : decode cX9_many 94 = .ok (.iload_n 2, 1) := by decide +kernel
theorem dX9_many_95 : decode cX9_many 95 = .ok (.ireturn, 1) := by decide +kernel
theorem dX9_many_96 : decode cX9_many 96 = .ok (.aload_n 0, 1) := by decide +kernel
theorem dX9_many_97 : decode cX9_many 97 = .ok (.getfield 78, 3) := by decide +kernel
theorem dX9_many_100 : decode cX9_many 100 = .ok (.iload_n 2, 1) := by decide +kernel
theorem dX9_many_101 : decode cX9_many 101 = .ok (.isub, 1) := by decide +kernel
theorem dX9_many_102 : decode cX9_many 102 = .ok (.ireturn, 1) := by decide +kernel
theorem dX9_many_103 : decode cX9_many 103 = .ok (.iload_n 3, 1) := by decide +kernel
theorem dX9_many_104 : decode cX9_many 104 = .ok (.ireturn, 1) := by decide +kernel
theorem dX9_many_105 : decode cX9_many 105 = .ok (.aload_n 0, 1) := by decide +kernel
theorem dX9_many_106 : decode cX9_many 106 = .ok (.getfield 78, 3) := by decide +kernel
theorem dX9_many_109 : decode cX9_many 109 = .ok (.aload_n 0, 1) := by decide +kernel
theorem dX9_many_110 : decode cX9_many 110 = .ok (.invokevirtual 112, 3) := by decide +kernel
theorem dX9_many_113 : decode cX9_many 113 = .ok (.isub, 1) := by decide +kernel
theorem dX9_many_114 : decode cX9_many 114 = .ok (.ireturn, 1) := by decide +kernel
theorem dX9_many_115 : decode cX9_many 115 = .ok (.aload_n 0, 1) := by decide +kernel
theorem dX9_many_116 : decode cX9_many 116 = .ok (.getfield 58, 3) := by decide +kernel
theorem dX9_many_119 : decode cX9_many 119 = .ok (.ireturn, 1) := by decide +kernel
theorem dX9_many_120 : decode cX9_many 120 = .ok (.aload_n 0, 1) := by decide +kernel
theorem dX9_many_121 : decode cX9_many 121 = .ok (.getfield 109, 3) := by decide +kernel
theorem dX9_many_124 : decode cX9_many 124 = .ok (.ireturn, 1) := by decide +kernel
theorem dX9_many_125 : decode cX9_many 125 = .ok (.bipush (-2), 2) := by decide +kernel
theorem dX9_many_127 : decode cX9_many 127 = .ok (.ireturn, 1) := by decide +kernel
theorem dJ9_floorDiv_7cf53_0 : decode cJ9_floorDiv_7cf53 0 = .ok (.iload_n 0, 1) := by decide +kernel
theorem dJ9_floorDiv_7cf53_1 : decode cJ9_floorDiv_7cf53 1 = .ok (.iload_n 1, 1) := by decide +kernel
theorem dJ9_floorDiv_7cf53_2 : decode cJ9_floorDiv_7cf53 2 = .ok (.idiv, 1) := by decide +kernel
theorem dJ9_floorDiv_7cf53_3 : decode cJ9_floorDiv_7cf53 3 = .ok (.istore_n 2, 1) := by decide +kernel
theorem dJ9_floorDiv_7cf53_4 : decode cJ9_floorDiv_7cf53 4 = .ok (.iload_n 0, 1) := by decide +kernel
theorem dJ9_floorDiv_7cf53_5 : decode cJ9_floorDiv_7cf53 5 = .ok (.iload_n 1, 1) := by decide +kernel
theorem dJ9_floorDiv_7cf53_6 : decode cJ9_floorDiv_7cf53 6 = .ok (.ixor, 1) := by decide +kernel
theorem dJ9_floorDiv_7cf53_7 : decode cJ9_floorDiv_7cf53 7 = .ok (.ifCond .ge 14, 3) := by decide +kernel
theorem dJ9_floorDiv_7cf53_10 : decode cJ9_floorDiv_7cf53 10 = .ok (.iload_n 2, 1) := by decide +kernel
theorem dJ9_floorDiv_7cf53_11 : decode cJ9_floorDiv_7cf53 11 = .ok (.iload_n 1, 1) := by decide +kernel
theorem dJ9_floorDiv_7cf53_12 : decode cJ9_floorDiv_7cf53 12 = .ok (.imul, 1) := by decide +kernel
theorem dJ9_floorDiv_7cf53_13 : decode cJ9_floorDiv_7cf53 13 = .ok (.iload_n 0, 1) := by decide +kernel
theorem dJ9_floorDiv_7cf53_14 : decode cJ9_floorDiv_7cf53 14 = .ok (.if_icmp .eq 7, 3) := by decide +kernel
theorem dJ9_floorDiv_7cf53_17 : decode cJ9_floorDiv_7cf53 17 = .ok (.iload_n 2, 1) := by decide +kernel
theorem dJ9_floorDiv_7cf53_18 : decode cJ9_floorDiv_7cf53 18 = .ok (.iconst 1, 1) := by decide +kernel
theorem dJ9_floorDiv_7cf53_19 : decode cJ9_floorDiv_7cf53 19 = .ok (.isub, 1) := by decide +kernel
theorem dJ9_floorDiv_7cf53_20 : decode cJ9_floorDiv_7cf53 20 = .ok (.ireturn, 1) := by decide +kernel
theorem dJ9_floorDiv_7cf53_21 : decode cJ9_floorDiv_7cf53 21 = .ok (.iload_n 2, 1) := by decide +kernel
theorem dJ9_floorDiv_7cf53_22 : decode cJ9_floorDiv_7cf53 22 = .ok (.ireturn, 1) := by decide +kernel
theorem dJ9_abs_0f7a4_0 : decode cJ9_abs_0f7a4 0 = .ok (.iload_n 0, 1) := by decide +kernel
theorem dJ9_abs_0f7a4_1 : decode cJ9_abs_0f7a4 1 = .ok (.ifCond .ge 8, 3) := by decide +kernel
theorem dJ9_abs_0f7a4_4 : decode cJ9_abs_0f7a4 4 = .ok (.iload_n 0, 1) := by decide +kernel
theorem dJ9_abs_0f7a4_5 : decode cJ9_abs_0f7a4 5 = .ok (.ineg, 1) := by decide +kernel
theorem dJ9_abs_0f7a4_6 : decode cJ9_abs_0f7a4 6 = .ok (.goto 4, 3) := by decide +kernel
theorem dJ9_abs_0f7a4_9 : decode cJ9_abs_0f7a4 9 = .ok (.iload_n 0, 1) := by decide +kernel
theorem dJ9_abs_0f7a4_10 : decode cJ9_abs_0f7a4 10 = .ok (.ireturn, 1) := by decide +kernel
theorem dJ9_max_7cf53_0 : decode cJ9_max_7cf53 0 = .ok (.iload_n 0, 1) := by decide +kernel
theorem dJ9_max_7cf53_1 : decode cJ9_max_7cf53 1 = .ok (.iload_n 1, 1) := by decide +kernel
theorem dJ9_max_7cf53_2 : decode cJ9_max_7cf53 2 = .ok (.if_icmp .lt 7, 3) := by decide +kernel
theorem dJ9_max_7cf53_5 : decode cJ9_max_7cf53 5 = .ok (.iload_n 0, 1) := by decide +kernel
theorem dJ9_max_7cf53_6 : decode cJ9_max_7cf53 6 = .ok (.goto 4, 3) := by decide +kernel
theorem dJ9_max_7cf53_9 : decode cJ9_max_7cf53 9 = .ok (.iload_n 1, 1) := by decide +kernel
theorem dJ9_max_7cf53_10 : decode cJ9_max_7cf53 10 = .ok (.ireturn, 1) := by decide +kernel
theorem dJ9_min_7cf53_0 : decode cJ9_min_7cf53 0 = .ok (.iload_n 0, 1) := by decide +kernel
theorem dJ9_min_7cf53_1 : decode cJ9_min_7cf53 1 = .ok (.iload_n 1, 1) := by decide +kernel
theorem dJ9_min_7cf53_2 : decode cJ9_min_7cf53 2 = .ok (.if_icmp .gt 7, 3) := by decide +kernel
theorem dJ9_min_7cf53_5 : decode cJ9_min_7cf53 5 = .ok (.iload_n 0, 1) := by decide +kernel
theorem dJ9_min_7cf53_6 : decode cJ9_min_7cf53 6 = .ok (.goto 4, 3) := by decide +kernel
theorem dJ9_min_7cf53_9 : decode cJ9_min_7cf53 9 = .ok (.iload_n 1, 1) := by decide +kernel
theorem dJ9_min_7cf53_10 : decode cJ9_min_7cf53 10 = .ok (.ireturn, 1) := by decide +kernel
set_option maxRecDepth 20000 in
theorem ggJ0_length_8abf5_J0_coder_7d493 : GoodIn wsJ0_length_8abf5 wsJ0_coder_7d493 := goodIn_r _ [6, 7, 8] (by decide +kernel) (by decide +kernel)
set_option maxRecDepth 20000 in
theorem gJ0_length_8abf5_J0_coder_7d493 : GoodIn wsJ0_length_8abf5 (wsV RJ0 335 RJ0 yJ0_coder_7d493 wsJ0_coder_7d493) := goodIn_app (goodIn_of _ (by decide +kernel)) ggJ0_length_8abf5_J0_coder_7d493
theorem dJ0_length_8abf5_0 : decode cJ0_length_8abf5 0 = .ok (.aload_n 0, 1) := by decide +kernel
theorem dJ0_length_8abf5_1 : decode cJ0_length_8abf5 1 = .ok (.getfield 9, 3) := by decide +kernel
theorem dJ0_length_8abf5_4 : decode cJ0_length_8abf5 4 = .ok (.arraylength, 1) := by decide +kernel
theorem dJ0_length_8abf5_5 : decode cJ0_length_8abf5 5 = .ok (.aload_n 0, 1) := by decide +kernel
theorem dJ0_length_8abf5_6 : decode cJ0_length_8abf5 6 = .ok (.invokevirtual 335, 3) := by decide +kernel
theorem dJ0_length_8abf5_9 : decode cJ0_length_8abf5 9 = .ok (.ishr, 1) := by decide +kernel
theorem dJ0_length_8abf5_10 : decode cJ0_length_8abf5 10 = .ok (.ireturn, 1) := by decide +kernel
set_option maxRecDepth 20000 in
theorem ggJ0_charAt_5068e_J0_isLatin1_aae02 : GoodIn wsJ0_charAt_5068e wsJ0_isLatin1_aae02 := goodIn_r _ [6, 7, 8] (by decide +kernel) (by decide +kernel)
set_option maxRecDepth 20000 in
theorem gJ0_charAt_5068e_J0_isLatin1_aae02 : GoodIn wsJ0_charAt_5068e (wsV RJ0 492 RJ0 yJ0_isLatin1_aae02 wsJ0_isLatin1_aae02) := goodIn_app (goodIn_of _ (by decide +kernel)) ggJ0_charAt_5068e_J0_isLatin1_aae02
set_option maxRecDepth 20000 in
theorem ggJ0_charAt_5068e_J1_charAt_3b067 : GoodIn wsJ0_charAt_5068e wsJ1_charAt_3b067 := goodIn_r _ [12, 13, 14, 5, 15, 16, 17, 18, 19, 20] (by decide +kernel) (by decide +kernel)
set_option maxRecDepth 20000 in
theorem gJ0_charAt_5068e_J1_charAt_3b067 : GoodIn wsJ0_charAt_5068e (va_wsS RJ0 495 yJ1_charAt_3b067 wsJ1_charAt_3b067) := goodIn_app (goodIn_of _ (by decide +kernel)) ggJ0_charAt_5068e_J1_charAt_3b067
set_option maxRecDepth 20000 in
theorem ggJ0_charAt_5068e_J2_charAt_3b067 : GoodIn wsJ0_charAt_5068e wsJ2_charAt_3b067 := goodIn_r _ [24, 25, 26, 23, 27, 28, 29, 30, 31, 14, 5, 15, 16, 17, 18, 19, 20, 32, 33, 34, 35, 36, 37] (by decide +kernel) (by decide +kernel)
set_option maxRecDepth 20000 in
theorem gJ0_charAt_5068e_J2_charAt_3b067 : GoodIn wsJ0_charAt_5068e (va_wsS RJ0 498 yJ2_charAt_3b067 wsJ2_charAt_3b067) := goodIn_app (goodIn_of _ (by decide +kernel)) ggJ0_charAt_5068e_J2_charAt_3b067
theorem dJ0_charAt_5068e_0 : decode cJ0_charAt_5068e 0 = .ok (.aload_n 0, 1) := by decide +kernel
theorem dJ0_charAt_5068e_1 : decode cJ0_charAt_5068e 1 = .ok (.invokevirtual 492, 3) := by decide +kernel
theorem dJ0_charAt_5068e_4 : decode cJ0_charAt_5068e 4 = .ok (.ifCond .eq 12, 3) := by decide +kernel
theorem dJ0_charAt_5068e_7 : decode cJ0_charAt_5068e 7 = .ok (.aload_n 0, 1) := by decide +kernel
theorem dJ0_charAt_5068e_8 : decode cJ0_charAt_5068e 8 = .ok (.getfield 9, 3) := by decide +kernel
theorem dJ0_charAt_5068e_11 : decode cJ0_charAt_5068e 11 = .ok (.iload_n 1, 1) := by decide +kernel
theorem dJ0_charAt_5068e_12 : decode cJ0_charAt_5068e 12 = .ok (.invokestatic 495, 3) := by decide +kernel
theorem dJ0_charAt_5068e_15 : decode cJ0_charAt_5068e 15 = .ok (.ireturn, 1) := by decide +kernel
theorem dJ0_charAt_5068e_16 : decode cJ0_charAt_5068e 16 = .ok (.aload_n 0, 1) := by decide +kernel
theorem dJ0_charAt_5068e_17 : decode cJ0_charAt_5068e 17 = .ok (.getfield 9, 3) := by decide +kernel
theorem dJ0_charAt_5068e_20 : decode cJ0_charAt_5068e 20 = .ok (.iload_n 1, 1) := by decide +kernel
theorem dJ0_charAt_5068e_21 : decode cJ0_charAt_5068e 21 = .ok (.invokestatic 498, 3) := by decide +kernel
theorem dJ0_charAt_5068e_24 : decode cJ0_charAt_5068e 24 = .ok (.ireturn, 1) := by decide +kernel
theorem dJ0_coder_7d493_0 : decode cJ0_coder_7d493 0 = .ok (.getstatic 38, 3) := by decide +kernel
theorem dJ0_coder_7d493_3 : decode cJ0_coder_7d493 3 = .ok (.ifCond .eq 10, 3) := by decide +kernel
theorem dJ0_coder_7d493_6 : decode cJ0_coder_7d493 6 = .ok (.aload_n 0, 1) := by decide +kernel
theorem dJ0_coder_7d493_7 : decode cJ0_coder_7d493 7 = .ok (.getfield 15, 3) := by decide +kernel
theorem dJ0_coder_7d493_10 : decode cJ0_coder_7d493 10 = .ok (.goto 4, 3) := by decide +kernel
theorem dJ0_coder_7d493_13 : decode cJ0_coder_7d493 13 = .ok (.iconst 1, 1) := by decide +kernel
theorem dJ0_coder_7d493_14 : decode cJ0_coder_7d493 14 = .ok (.ireturn, 1) := by decide +kernel
theorem dJ0_isLatin1_aae02_0 : decode cJ0_isLatin1_aae02 0 = .ok (.getstatic 38, 3) := by decide +kernel
theorem dJ0_isLatin1_aae02_3 : decode cJ0_isLatin1_aae02 3 = .ok (.ifCond .eq 14, 3) := by decide +kernel
theorem dJ0_isLatin1_aae02_6 : decode cJ0_isLatin1_aae02 6 = .ok (.aload_n 0, 1) := by decide +kernel
theorem dJ0_isLatin1_aae02_7 : decode cJ0_isLatin1_aae02 7 = .ok (.getfield 15, 3) := by decide +kernel
theorem dJ0_isLatin1_aae02_10 : decode cJ0_isLatin1_aae02 10 = .ok (.ifCond .ne 7, 3) := by decide +kernel
theorem dJ0_isLatin1_aae02_13 : decode cJ0_isLatin1_aae02 13 = .ok (.iconst 1, 1) := by decide +kernel
theorem dJ0_isLatin1_aae02_14 : decode cJ0_isLatin1_aae02 14 = .ok (.goto 4, 3) := by decide +kernel
theorem dJ0_isLatin1_aae02_17 : decode cJ0_isLatin1_aae02 17 = .ok (.iconst 0, 1) := by decide +kernel
theorem dJ0_isLatin1_aae02_18 : decode cJ0_isLatin1_aae02 18 = .ok (.ireturn, 1) := by decide +kernel
set_option maxRecDepth 20000 in
theorem ggJ0_checkIndex_df160_J3_checkIndex_8e157 : GoodIn wsJ0_checkIndex_df160 wsJ3_checkIndex_8e157 := goodIn_r _ [5] (by decide +kernel) (by decide +kernel)
set_option maxRecDepth 20000 in
theorem gJ0_checkIndex_df160_J3_checkIndex_8e157 : GoodIn wsJ0_checkIndex_df160 (va_wsS RJ0 1059 yJ3_checkIndex_8e157 wsJ3_checkIndex_8e157) := goodIn_app (goodIn_of _ (by decide +kernel)) ggJ0_checkIndex_df160_J3_checkIndex_8e157
theorem dJ0_checkIndex_df160_0 : decode cJ0_checkIndex_df160 0 = .ok (.iload_n 0, 1) := by decide +kernel
theorem dJ0_checkIndex_df160_1 : decode cJ0_checkIndex_df160 1 = .ok (.iload_n 1, 1) := by decide +kernel
theorem dJ0_checkIndex_df160_2 : decode cJ0_checkIndex_df160 2 = .ok (.getstatic 1053, 3) := by decide +kernel
theorem dJ0_checkIndex_df160_5 : decode cJ0_checkIndex_df160 5 = .ok (.invokestatic 1059, 3) := by decide +kernel
theorem dJ0_checkIndex_df160_8 : decode cJ0_checkIndex_df160 8 = .ok (.pop, 1) := by decide +kernel
theorem dJ0_checkIndex_df160_9 : decode cJ0_checkIndex_df160 9 = .ok (.return_, 1) := by decide +kernel
set_option maxRecDepth 20000 in
theorem ggJ1_charAt_3b067_J0_checkIndex_df160 : GoodIn wsJ1_charAt_3b067 wsJ0_checkIndex_df160 := goodIn_r _ [4, 5, 6, 7, 8, 9] (by decide +kernel) (by decide +kernel)
set_option maxRecDepth 20000 in
theorem gJ1_charAt_3b067_J0_checkIndex_df160 : GoodIn wsJ1_charAt_3b067 (va_wsS RJ1 9 yJ0_checkIndex_df160 wsJ0_checkIndex_df160) := goodIn_app (goodIn_of _ (by decide +kernel)) ggJ1_charAt_3b067_J0_checkIndex_df160
theorem dJ1_charAt_3b067_0 : decode cJ1_charAt_3b067 0 = .ok (.iload_n 1, 1) := by decide +kernel
theorem dJ1_charAt_3b067_1 : decode cJ1_charAt_3b067 1 = .ok (.aload_n 0, 1) := by decide +kernel
theorem dJ1_charAt_3b067_2 : decode cJ1_charAt_3b067 2 = .ok (.arraylength, 1) := by decide +kernel
theorem dJ1_charAt_3b067_3 : decode cJ1_charAt_3b067 3 = .ok (.invokestatic 9, 3) := by decide +kernel
theorem dJ1_charAt_3b067_6 : decode cJ1_charAt_3b067 6 = .ok (.aload_n 0, 1) := by decide +kernel
theorem dJ1_charAt_3b067_7 : decode cJ1_charAt_3b067 7 = .ok (.iload_n 1, 1) := by decide +kernel
theorem dJ1_charAt_3b067_8 : decode cJ1_charAt_3b067 8 = .ok (.baload, 1) := by decide +kernel
theorem dJ1_charAt_3b067_9 : decode cJ1_charAt_3b067 9 = .ok (.sipush 255, 3) := by decide +kernel
theorem dJ1_charAt_3b067_12 : decode cJ1_charAt_3b067 12 = .ok (.iand, 1) := by decide +kernel
theorem dJ1_charAt_3b067_13 : decode cJ1_charAt_3b067 13 = .ok (.i2c, 1) := by decide +kernel
theorem dJ1_charAt_3b067_14 : decode cJ1_charAt_3b067 14 = .ok (.ireturn, 1) := by decide +kernel
set_option maxRecDepth 20000 in
theorem ggJ2_getChar_3b067_J2_length_9d52b : GoodIn wsJ2_getChar_3b067 wsJ2_length_9d52b := goodIn_r _ [7] (by decide +kernel) (by decide +kernel)
set_option maxRecDepth 20000 in
theorem gJ2_getChar_3b067_J2_length_9d52b : GoodIn wsJ2_getChar_3b067 (va_wsS RJ2 48 yJ2_length_9d52b wsJ2_length_9d52b) := goodIn_app (goodIn_of _ (by decide +kernel)) ggJ2_getChar_3b067_J2_length_9d52b
theorem dJ2_getChar_3b067_0 : decode cJ2_getChar_3b067 0 = .ok (.getstatic 44, 3) := by decide +kernel
theorem dJ2_getChar_3b067_3 : decode cJ2_getChar_3b067 3 = .ok (.ifCond .ne 25, 3) := by decide +kernel
theorem dJ2_getChar_3b067_6 : decode cJ2_getChar_3b067 6 = .ok (.iload_n 1, 1) := by decide +kernel
theorem dJ2_getChar_3b067_7 : decode cJ2_getChar_3b067 7 = .ok (.ifCond .lt 11, 3) := by decide +kernel
theorem dJ2_getChar_3b067_10 : decode cJ2_getChar_3b067 10 = .ok (.iload_n 1, 1) := by decide +kernel
theorem dJ2_getChar_3b067_11 : decode cJ2_getChar_3b067 11 = .ok (.aload_n 0, 1) := by decide +kernel
theorem dJ2_getChar_3b067_12 : decode cJ2_getChar_3b067 12 = .ok (.invokestatic 48, 3) := by decide +kernel
theorem dJ2_getChar_3b067_15 : decode cJ2_getChar_3b067 15 = .ok (.if_icmp .lt 13, 3) := by decide +kernel
theorem dJ2_getChar_3b067_18 : decode cJ2_getChar_3b067 18 = .ok (.new 52, 3) := by decide +kernel
theorem dJ2_getChar_3b067_21 : decode cJ2_getChar_3b067 21 = .ok (.dup, 1) := by decide +kernel
theorem dJ2_getChar_3b067_22 : decode cJ2_getChar_3b067 22 = .ok (.ldc 54, 2) := by decide +kernel
theorem dJ2_getChar_3b067_24 : decode cJ2_getChar_3b067 24 = .ok (.invokespecial 56, 3) := by decide +kernel
theorem dJ2_getChar_3b067_27 : decode cJ2_getChar_3b067 27 = .ok (.athrow, 1) := by decide +kernel
theorem dJ2_getChar_3b067_28 : decode cJ2_getChar_3b067 28 = .ok (.iload_n 1, 1) := by decide +kernel
theorem dJ2_getChar_3b067_29 : decode cJ2_getChar_3b067 29 = .ok (.iconst 1, 1) := by decide +kernel
theorem dJ2_getChar_3b067_30 : decode cJ2_getChar_3b067 30 = .ok (.ishl, 1) := by decide +kernel
theorem dJ2_getChar_3b067_31 : decode cJ2_getChar_3b067 31 = .ok (.istore_n 1, 1) := by decide +kernel
theorem dJ2_getChar_3b067_32 : decode cJ2_getChar_3b067 32 = .ok (.aload_n 0, 1) := by decide +kernel
theorem dJ2_getChar_3b067_33 : decode cJ2_getChar_3b067 33 = .ok (.iload_n 1, 1) := by decide +kernel
theorem dJ2_getChar_3b067_34 : decode cJ2_getChar_3b067 34 = .ok (.iinc 1 1, 3) := by decide +kernel
theorem dJ2_getChar_3b067_37 : decode cJ2_getChar_3b067 37 = .ok (.baload, 1) := by decide +kernel
theorem dJ2_getChar_3b067_38 : decode cJ2_getChar_3b067 38 = .ok (.sipush 255, 3) := by decide +kernel
theorem dJ2_getChar_3b067_41 : decode cJ2_getChar_3b067 41 = .ok (.iand, 1) := by decide +kernel
theorem dJ2_getChar_3b067_42 : decode cJ2_getChar_3b067 42 = .ok (.getstatic 59, 3) := by decide +kernel
theorem dJ2_getChar_3b067_45 : decode cJ2_getChar_3b067 45 = .ok (.ishl, 1) := by decide +kernel
theorem dJ2_getChar_3b067_46 : decode cJ2_getChar_3b067 46 = .ok (.aload_n 0, 1) := by decide +kernel
theorem dJ2_getChar_3b067_47 : decode cJ2_getChar_3b067 47 = .ok (.iload_n 1, 1) := by decide +kernel
theorem dJ2_getChar_3b067_48 : decode cJ2_getChar_3b067 48 = .ok (.baload, 1) := by decide +kernel
theorem dJ2_getChar_3b067_49 : decode cJ2_getChar_3b067 49 = .ok (.sipush 255, 3) := by decide +kernel
theorem dJ2_getChar_3b067_52 : decode cJ2_getChar_3b067 52 = .ok (.iand, 1) := by decide +kernel
theorem dJ2_getChar_3b067_53 : decode cJ2_getChar_3b067 53 = .ok (.getstatic 63, 3) := by decide +kernel
theorem dJ2_getChar_3b067_56 : decode cJ2_getChar_3b067 56 = .ok (.ishl, 1) := by decide +kernel
theorem dJ2_getChar_3b067_57 : decode cJ2_getChar_3b067 57 = .ok (.ior, 1) := by decide +kernel
theorem dJ2_getChar_3b067_58 : decode cJ2_getChar_3b067 58 = .ok (.i2c, 1) := by decide +kernel
theorem dJ2_getChar_3b067_59 : decode cJ2_getChar_3b067 59 = .ok (.ireturn, 1) := by decide +kernel
theorem dJ2_length_9d52b_0 : decode cJ2_length_9d52b 0 = .ok (.aload_n 0, 1) := by decide +kernel
theorem dJ2_length_9d52b_1 : decode cJ2_length_9d52b 1 = .ok (.arraylength, 1) := by decide +kernel
theorem dJ2_length_9d52b_2 : decode cJ2_length_9d52b 2 = .ok (.iconst 1, 1) := by decide +kernel
theorem dJ2_length_9d52b_3 : decode cJ2_length_9d52b 3 = .ok (.ishr, 1) := by decide +kernel
theorem dJ2_length_9d52b_4 : decode cJ2_length_9d52b 4 = .ok (.ireturn, 1) := by decide +kernel
set_option maxRecDepth 20000 in
theorem ggJ2_charAt_3b067_J2_checkIndex_2214a : GoodIn wsJ2_charAt_3b067 wsJ2_checkIndex_2214a := goodIn_r _ [4, 5, 6, 3, 7, 8, 9, 10, 11, 12, 13, 14, 15, 16] (by decide +kernel) (by decide +kernel)
set_option maxRecDepth 20000 in
theorem gJ2_charAt_3b067_J2_checkIndex_2214a : GoodIn wsJ2_charAt_3b067 (va_wsS RJ2 67 yJ2_checkIndex_2214a wsJ2_checkIndex_2214a) := goodIn_app (goodIn_of _ (by decide +kernel)) ggJ2_charAt_3b067_J2_checkIndex_2214a
set_option maxRecDepth 20000 in
theorem ggJ2_charAt_3b067_J2_getChar_3b067 : GoodIn wsJ2_charAt_3b067 wsJ2_getChar_3b067 := goodIn_r _ [19, 20, 21, 22, 5, 6, 3, 7] (by decide +kernel) (by decide +kernel)
set_option maxRecDepth 20000 in
theorem gJ2_charAt_3b067_J2_getChar_3b067 : GoodIn wsJ2_charAt_3b067 (va_wsS RJ2 71 yJ2_getChar_3b067 wsJ2_getChar_3b067) := goodIn_app (goodIn_of _ (by decide +kernel)) ggJ2_charAt_3b067_J2_getChar_3b067
theorem dJ2_charAt_3b067_0 : decode cJ2_charAt_3b067 0 = .ok (.iload_n 1, 1) := by decide +kernel
theorem dJ2_charAt_3b067_1 : decode cJ2_charAt_3b067 1 = .ok (.aload_n 0, 1) := by decide +kernel
theorem dJ2_charAt_3b067_2 : decode cJ2_charAt_3b067 2 = .ok (.invokestatic 67, 3) := by decide +kernel
theorem dJ2_charAt_3b067_5 : decode cJ2_charAt_3b067 5 = .ok (.aload_n 0, 1) := by decide +kernel
theorem dJ2_charAt_3b067_6 : decode cJ2_charAt_3b067 6 = .ok (.iload_n 1, 1) := by decide +kernel
theorem dJ2_charAt_3b067_7 : decode cJ2_charAt_3b067 7 = .ok (.invokestatic 71, 3) := by decide +kernel
theorem dJ2_charAt_3b067_10 : decode cJ2_charAt_3b067 10 = .ok (.ireturn, 1) := by decide +kernel
set_option maxRecDepth 20000 in
theorem ggJ2_checkIndex_2214a_J2_length_9d52b : GoodIn wsJ2_checkIndex_2214a wsJ2_length_9d52b := goodIn_r _ [4] (by decide +kernel) (by decide +kernel)
set_option maxRecDepth 20000 in
theorem gJ2_checkIndex_2214a_J2_length_9d52b : GoodIn wsJ2_checkIndex_2214a (va_wsS RJ2 48 yJ2_length_9d52b wsJ2_length_9d52b) := goodIn_app (goodIn_of _ (by decide +kernel)) ggJ2_checkIndex_2214a_J2_length_9d52b
set_option maxRecDepth 20000 in
theorem ggJ2_checkIndex_2214a_J0_checkIndex_df160 : GoodIn wsJ2_checkIndex_2214a wsJ0_checkIndex_df160 := goodIn_r _ [8, 9, 10, 11, 12, 13] (by decide +kernel) (by decide +kernel)
set_option maxRecDepth 20000 in
theorem gJ2_checkIndex_2214a_J0_checkIndex_df160 : GoodIn wsJ2_checkIndex_2214a (va_wsS RJ2 414 yJ0_checkIndex_df160 wsJ0_checkIndex_df160) := goodIn_app (goodIn_of _ (by decide +kernel)) ggJ2_checkIndex_2214a_J0_checkIndex_df160
theorem dJ2_checkIndex_2214a_0 : decode cJ2_checkIndex_2214a 0 = .ok (.iload_n 0, 1) := by decide +kernel
theorem dJ2_checkIndex_2214a_1 : decode cJ2_checkIndex_2214a 1 = .ok (.aload_n 1, 1) := by decide +kernel
theorem dJ2_checkIndex_2214a_2 : decode cJ2_checkIndex_2214a 2 = .ok (.invokestatic 48, 3) := by decide +kernel
theorem dJ2_checkIndex_2214a_5 : decode cJ2_checkIndex_2214a 5 = .ok (.invokestatic 414, 3) := by decide +kernel
theorem dJ2_checkIndex_2214a_8 : decode cJ2_checkIndex_2214a 8 = .ok (.return_, 1) := by decide +kernel
theorem dJ3_checkIndex_8e157_0 : decode cJ3_checkIndex_8e157 0 = .ok (.iload_n 0, 1) := by decide +kernel
theorem dJ3_checkIndex_8e157_1 : decode cJ3_checkIndex_8e157 1 = .ok (.ifCond .lt 8, 3) := by decide +kernel
theorem dJ3_checkIndex_8e157_4 : decode cJ3_checkIndex_8e157 4 = .ok (.iload_n 0, 1) := by decide +kernel
theorem dJ3_checkIndex_8e157_5 : decode cJ3_checkIndex_8e157 5 = .ok (.iload_n 1, 1) := by decide +kernel
theorem dJ3_checkIndex_8e157_6 : decode cJ3_checkIndex_8e157 6 = .ok (.if_icmp .lt 10, 3) := by decide +kernel
theorem dJ3_checkIndex_8e157_9 : decode cJ3_checkIndex_8e157 9 = .ok (.aload_n 2, 1) := by decide +kernel
theorem dJ3_checkIndex_8e157_10 : decode cJ3_checkIndex_8e157 10 = .ok (.iload_n 0, 1) := by decide +kernel
theorem dJ3_checkIndex_8e157_11 : decode cJ3_checkIndex_8e157 11 = .ok (.iload_n 1, 1) := by decide +kernel
theorem dJ3_checkIndex_8e157_12 : decode cJ3_checkIndex_8e157 12 = .ok (.invokestatic 95, 3) := by decide +kernel
theorem dJ3_checkIndex_8e157_15 : decode cJ3_checkIndex_8e157 15 = .ok (.athrow, 1) := by decide +kernel
theorem dJ3_checkIndex_8e157_16 : decode cJ3_checkIndex_8e157 16 = .ok (.iload_n 0, 1) := by decide +kernel
theorem dJ3_checkIndex_8e157_17 : decode cJ3_checkIndex_8e157 17 = .ok (.ireturn, 1) := by decide +kernel
set_option maxRecDepth 20000 in
theorem ggL_law_X8_init : GoodIn wsL_law wsX8_init := goodIn_r _ [8, 9, 10, 11, 12, 13, 14, 15, 16, 17, 18, 19, 20, 21, 22, 23, 24, 25, 26, 27, 28, 29, 30, 31, 32, 33, 34, 35, 36, 37, 38, 39, 40, 41, 42, 43, 44, 45, 46, 47, 48, 49, 50, 51, 52, 53, 54, 55, 56, 57, 58, 59, 60, 61, 62, 63, 64, 65, 66, 67, 68, 69, 70, 71, 72, 73, 74, 75, 76, 77, 78, 79, 80, 81, 82, 83, 84, 85, 86, 87, 88, 89, 90, 91, 92, 93, 94, 95, 96, 97, 98, 99, 100, 101, 102, 103, 104, 105, 106, 869, 870, 830, 831, 832, 833, 834, 835, 836, 837, 838, 839, 840, 871, 872, 873, 874, 875, 876, 877, 878, 879, 880, 881, 882, 883, 884, 885, 886, 887, 888, 889, 890, 891, 892, 893, 894, 895, 896, 897, 898] (by decide +kernel) (by decide +kernel)
set_option maxRecDepth 20000 in
theorem gL_law_X8_init : GoodIn wsL_law (wsX8_init) := ggL_law_X8_init
set_option maxRecDepth 20000 in
theorem ggL_law_X9_init : GoodIn wsL_law wsX9_init := goodIn_r _ [109, 110, 10, 11, 59, 111, 112, 113, 114, 115, 116, 117, 118, 119, 120, 121, 122, 123, 124, 125, 841, 842, 843, 844, 845, 846, 847, 848, 849, 850, 851, 852, 853, 854, 855, 856, 857, 858, 859, 860, 861, 862, 863, 864, 865, 866, 867, 868] (by decide +kernel) (by decide +kernel)
set_option maxRecDepth 20000 in
theorem gL_law_X9_init : GoodIn wsL_law (wsX9_init) := ggL_law_X9_init
set_option maxRecDepth 20000 in
theorem ggL_law_X8_key : GoodIn wsL_law wsX8_key := goodIn_r _ [129, 15, 130, 131, 2, 132, 133, 134, 135, 14, 136, 137, 138, 139, 140, 141, 50, 142, 143, 144, 49, 145, 60, 830, 831, 832, 833, 834, 835, 836, 837, 838, 839, 840, 869, 870, 898] (by decide +kernel) (by decide +kernel)
set_option maxRecDepth 20000 in
theorem gL_law_X8_key : GoodIn wsL_law (wsV RL 13 RX8 yX8_key wsX8_key) := goodIn_app (goodIn_of _ (by decide +kernel)) ggL_law_X8_key
set_option maxRecDepth 20000 in
theorem ggL_law_X9_key : GoodIn wsL_law wsX9_key := goodIn_r _ [149, 150, 112, 151, 152, 5, 153, 841, 842, 843, 844, 845, 846, 847, 848, 849, 850, 851, 852, 853, 854, 855, 856, 857, 858, 859, 860, 861, 862, 863, 864, 865, 866, 867, 868] (by decide +kernel) (by decide +kernel)
set_option maxRecDepth 20000 in
theorem gL_law_X9_key : GoodIn wsL_law (wsV RL 17 RX9 yX9_key wsX9_key) := goodIn_app (goodIn_of _ (by decide +kernel)) ggL_law_X9_key
set_option maxRecDepth 20000 in
theorem ggL_law_X8_wipe : GoodIn wsL_law wsX8_wipe := goodIn_r _ [157, 15, 133, 134, 135, 14, 136, 137, 158, 159, 160, 161, 830, 831, 832, 833, 834, 835, 836, 837, 838, 839, 840, 869, 870] (by decide +kernel) (by decide +kernel)
set_option maxRecDepth 20000 in
theorem gL_law_X8_wipe : GoodIn wsL_law (wsV RL 18 RX8 yX8_wipe wsX8_wipe) := goodIn_app (goodIn_of _ (by decide +kernel)) ggL_law_X8_wipe
set_option maxRecDepth 20000 in
theorem ggL_law_X9_wipe : GoodIn wsL_law wsX9_wipe := goodIn_r _ [165, 150, 841, 842, 843, 844, 845, 846, 847, 848, 849, 850, 851, 852, 853, 854, 855, 856, 857, 858, 859, 860, 861, 862, 863, 864, 865, 866, 867, 868] (by decide +kernel) (by decide +kernel)
set_option maxRecDepth 20000 in
theorem gL_law_X9_wipe : GoodIn wsL_law (wsV RL 22 RX9 yX9_wipe wsX9_wipe) := goodIn_app (goodIn_of _ (by decide +kernel)) ggL_law_X9_wipe
set_option maxRecDepth 20000 in
theorem ggL_law_X8_manner : GoodIn wsL_law wsX8_manner := goodIn_r _ [169, 40, 41, 15, 170, 171, 172, 2, 173, 174, 175, 176, 177, 178, 179, 14, 180, 137, 50, 181, 182, 183, 184, 185, 186, 187, 188, 189, 190, 191, 192, 193, 194, 195, 196, 197, 198, 199, 200, 201, 202, 203, 204, 205, 206, 207, 208, 209, 210, 211, 212, 213, 214, 215, 216, 217, 218, 219, 220, 221, 222, 223, 224, 225, 226, 227, 228, 229, 230, 231, 232, 49, 233, 60, 234, 235, 236, 237, 238, 239, 130, 131, 132, 158, 159, 160, 161, 830, 831, 832, 833, 834, 835, 836, 837, 838, 839, 840, 869, 870, 898] (by decide +kernel) (by decide +kernel)
set_option maxRecDepth 20000 in
theorem gL_law_X8_manner : GoodIn wsL_law (wsV RL 23 RX8 yX8_manner wsX8_manner) := goodIn_app (goodIn_of _ (by decide +kernel)) ggL_law_X8_manner
set_option maxRecDepth 20000 in
theorem ggL_law_X9_manner : GoodIn wsL_law wsX9_manner := goodIn_r _ [243, 244, 113, 150, 245, 246, 247, 5, 248, 112, 111, 249, 250, 251, 252, 151, 152, 153, 841, 842, 843, 844, 845, 846, 847, 848, 849, 850, 851, 852, 853, 854, 855, 856, 857, 858, 859, 860, 861, 862, 863, 864, 865, 866, 867, 868] (by decide +kernel) (by decide +kernel)
set_option maxRecDepth 20000 in
theorem gL_law_X9_manner : GoodIn wsL_law (wsV RL 26 RX9 yX9_manner wsX9_manner) := goodIn_app (goodIn_of _ (by decide +kernel)) ggL_law_X9_manner
set_option maxRecDepth 20000 in
theorem ggL_law_X8_margin : GoodIn wsL_law wsX8_margin := goodIn_r _ [256, 42, 130, 131, 2, 132, 830, 831, 832, 833, 834, 835, 836, 837, 838, 839, 840] (by decide +kernel) (by decide +kernel)
set_option maxRecDepth 20000 in
theorem gL_law_X8_margin : GoodIn wsL_law (wsV RL 27 RX8 yX8_margin wsX8_margin) := goodIn_app (goodIn_of _ (by decide +kernel)) ggL_law_X8_margin
set_option maxRecDepth 20000 in
theorem ggL_law_X9_margin : GoodIn wsL_law wsX9_margin := goodIn_r _ [260, 261, 151, 152, 5, 153, 841, 842, 843, 844, 845, 846, 847, 848, 849, 850, 851, 852, 853, 854, 855, 856, 857, 858, 859, 860, 861, 862, 863, 864, 865, 866, 867, 868] (by decide +kernel) (by decide +kernel)
set_option maxRecDepth 20000 in
theorem gL_law_X9_margin : GoodIn wsL_law (wsV RL 30 RX9 yX9_margin wsX9_margin) := goodIn_app (goodIn_of _ (by decide +kernel)) ggL_law_X9_margin
set_option maxRecDepth 20000 in
theorem ggL_law_X8_jump : GoodIn wsL_law wsX8_jump := goodIn_r _ [265, 43, 130, 131, 2, 132, 830, 831, 832, 833, 834, 835, 836, 837, 838, 839, 840] (by decide +kernel) (by decide +kernel)
set_option maxRecDepth 20000 in
theorem gL_law_X8_jump : GoodIn wsL_law (wsV RL 31 RX8 yX8_jump wsX8_jump) := goodIn_app (goodIn_of _ (by decide +kernel)) ggL_law_X8_jump
set_option maxRecDepth 20000 in
theorem ggL_law_X9_jump : GoodIn wsL_law wsX9_jump := goodIn_r _ [269, 114, 151, 152, 5, 153, 841, 842, 843, 844, 845, 846, 847, 848, 849, 850, 851, 852, 853, 854, 855, 856, 857, 858, 859, 860, 861, 862, 863, 864, 865, 866, 867, 868] (by decide +kernel) (by decide +kernel)
set_option maxRecDepth 20000 in
theorem gL_law_X9_jump : GoodIn wsL_law (wsV RL 34 RX9 yX9_jump wsX9_jump) := goodIn_app (goodIn_of _ (by decide +kernel)) ggL_law_X9_jump
set_option maxRecDepth 20000 in
theorem ggL_law_X8_arrive : GoodIn wsL_law wsX8_arrive := goodIn_r _ [273, 19, 27, 43, 23, 274, 275, 276, 2, 277, 130, 131, 132, 278, 279, 280, 18, 281, 282, 67, 283, 231, 232, 49, 233, 60, 284, 285, 286, 287, 65, 288, 289, 290, 22, 291, 292, 75, 76, 293, 294, 295, 296, 297, 81, 298, 299, 300, 301, 302, 303, 304, 305, 66, 306, 143, 144, 145, 307, 308, 309, 310, 311, 312, 313, 26, 314, 315, 316, 317, 318, 319, 320, 321, 322, 323, 324, 325, 42, 40, 326, 327, 328, 329, 35, 31, 41, 330, 331, 332, 34, 333, 334, 99, 335, 336, 337, 338, 339, 340, 57, 341, 342, 343, 344, 345, 346, 347, 348, 349, 350, 30, 351, 352, 353, 93, 354, 355, 356, 357, 358, 359, 91, 92, 360, 361, 362, 363, 364, 365, 366, 367, 368, 369, 370, 371, 372, 373, 374, 375, 376, 377, 378, 379, 380, 381, 382, 383, 384, 385, 386, 387, 388, 389, 390, 391, 392, 393, 394, 395, 396, 397, 398, 399, 400, 401, 402, 403, 404, 405, 406, 407, 408, 409, 410, 411, 412, 413, 414, 415, 56, 58, 416, 417, 418, 419, 420, 421, 422, 423, 424, 425, 426, 427, 428, 429, 430, 431, 432, 433, 434, 82, 77, 435, 436, 437, 438, 439, 440, 441, 442, 443, 444, 78, 79, 80, 445, 446, 447, 448, 449, 450, 451, 452, 453, 454, 455, 456, 457, 68, 69, 458, 459, 460, 461, 462, 830, 831, 832, 833, 834, 835, 836, 837, 838, 839, 840, 871, 872, 873, 874, 875, 876, 898, 877, 878, 879, 880, 881, 882, 883, 884, 885, 886, 887, 888, 894, 895, 889, 890, 891, 892, 893] (by decide +kernel) (by decide +kernel)
set_option maxRecDepth 20000 in
theorem gL_law_X8_arrive : GoodIn wsL_law (wsV RL 35 RX8 yX8_arrive wsX8_arrive) := goodIn_app (goodIn_of _ (by decide +kernel)) ggL_law_X8_arrive
set_option maxRecDepth 20000 in
theorem ggL_law_X9_arrive : GoodIn wsL_law wsX9_arrive := goodIn_r _ [466, 467, 115, 116, 118, 468, 119, 120, 122, 244, 121, 117, 151, 152, 5, 153, 469, 470, 471, 472, 473, 474, 475, 476, 477, 478, 479, 480, 481, 482, 483, 484, 485, 486, 114, 487, 488, 489, 490, 491, 492, 493, 494, 495, 261, 496, 497, 498, 499, 500, 501, 124, 113, 502, 503, 504, 505, 506, 507, 508, 509, 510, 511, 512, 513, 514, 515, 516, 517, 518, 519, 520, 521, 522, 523, 524, 525, 526, 527, 528, 529, 530, 531, 532, 841, 842, 843, 844, 845, 846, 847, 848, 849, 850, 851, 852, 853, 854, 855, 856, 857, 858, 859, 860, 861, 862, 863, 864, 865, 866, 867, 868] (by decide +kernel) (by decide +kernel)
set_option maxRecDepth 20000 in
theorem gL_law_X9_arrive : GoodIn wsL_law (wsV RL 39 RX9 yX9_arrive wsX9_arrive) := goodIn_app (goodIn_of _ (by decide +kernel)) ggL_law_X9_arrive
set_option maxRecDepth 20000 in
theorem ggL_law_X8_anew : GoodIn wsL_law wsX8_anew := goodIn_r _ [536, 19, 23, 27, 298, 299, 300, 18, 301, 282, 537, 538, 539, 540, 65, 66, 283, 231, 232, 49, 233, 60, 306, 143, 144, 145, 541, 542, 543, 22, 544, 292, 545, 546, 547, 26, 548, 315, 317, 830, 831, 832, 833, 834, 835, 836, 837, 838, 839, 840, 871, 872, 873, 874, 875, 876, 898, 877, 878, 879, 880, 881, 882, 883, 884, 885, 886, 887, 888] (by decide +kernel) (by decide +kernel)
set_option maxRecDepth 20000 in
theorem gL_law_X8_anew : GoodIn wsL_law (wsV RL 40 RX8 yX8_anew wsX8_anew) := goodIn_app (goodIn_of _ (by decide +kernel)) ggL_law_X8_anew
set_option maxRecDepth 20000 in
theorem ggL_law_X9_anew : GoodIn wsL_law wsX9_anew := goodIn_r _ [552, 467, 118, 468, 485, 487, 841, 842, 843, 844, 845, 846, 847, 848, 849, 850, 851, 852, 853, 854, 855, 856, 857, 858, 859, 860, 861, 862, 863, 864, 865, 866, 867, 868] (by decide +kernel) (by decide +kernel)
set_option maxRecDepth 20000 in
theorem gL_law_X9_anew : GoodIn wsL_law (wsV RL 43 RX9 yX9_anew wsX9_anew) := goodIn_app (goodIn_of _ (by decide +kernel)) ggL_law_X9_anew
set_option maxRecDepth 20000 in
theorem ggL_law_X8_ofFrame : GoodIn wsL_law wsX8_ofFrame := goodIn_r _ [556, 19, 284, 285, 286, 18, 287, 65, 283, 231, 232, 49, 233, 60, 557, 558, 559, 560, 67, 307, 308, 309, 310, 66, 561, 562, 563, 564, 68, 565, 566, 567, 568, 69, 830, 831, 832, 833, 834, 835, 836, 837, 838, 839, 840, 871, 872, 873, 874, 875, 876, 898] (by decide +kernel) (by decide +kernel)
set_option maxRecDepth 20000 in
theorem gL_law_X8_ofFrame : GoodIn wsL_law (wsV RL 44 RX8 yX8_ofFrame wsX8_ofFrame) := goodIn_app (goodIn_of _ (by decide +kernel)) ggL_law_X8_ofFrame
set_option maxRecDepth 20000 in
theorem ggL_law_X9_ofFrame : GoodIn wsL_law wsX9_ofFrame := goodIn_r _ [572, 118, 116, 117, 151, 152, 5, 153, 488, 489, 490, 491, 115, 573, 574, 575, 576, 121, 577, 578, 579, 580, 841, 842, 843, 844, 845, 846, 847, 848, 849, 850, 851, 852, 853, 854, 855, 856, 857, 858, 859, 860, 861, 862, 863, 864, 865, 866, 867, 868] (by decide +kernel) (by decide +kernel)
set_option maxRecDepth 20000 in
theorem gL_law_X9_ofFrame : GoodIn wsL_law (wsV RL 48 RX9 yX9_ofFrame wsX9_ofFrame) := goodIn_app (goodIn_of _ (by decide +kernel)) ggL_law_X9_ofFrame
set_option maxRecDepth 20000 in
theorem ggL_law_X8_ofSpurt : GoodIn wsL_law wsX8_ofSpurt := goodIn_r _ [584, 23, 585, 586, 587, 22, 588, 292, 130, 131, 2, 132, 589, 590, 591, 592, 75, 293, 231, 232, 49, 233, 60, 593, 594, 595, 596, 76, 450, 451, 452, 453, 77, 597, 598, 599, 600, 79, 601, 602, 603, 604, 80, 605, 606, 607, 608, 81, 609, 610, 611, 612, 613, 614, 615, 616, 78, 830, 831, 832, 833, 834, 835, 836, 837, 838, 839, 840, 877, 878, 879, 880, 881, 882, 883, 884, 885, 898] (by decide +kernel) (by decide +kernel)
set_option maxRecDepth 20000 in
theorem gL_law_X8_ofSpurt : GoodIn wsL_law (wsV RL 49 RX8 yX8_ofSpurt wsX8_ofSpurt) := goodIn_app (goodIn_of _ (by decide +kernel)) ggL_law_X8_ofSpurt
set_option maxRecDepth 20000 in
theorem ggL_law_X9_ofSpurt : GoodIn wsL_law wsX9_ofSpurt := goodIn_r _ [620, 119, 120, 121, 621, 622, 623, 122, 624, 625, 626, 5, 627, 468, 151, 152, 153, 628, 629, 630, 631, 467, 117, 115, 573, 574, 575, 576, 488, 489, 490, 491, 116, 632, 633, 634, 635, 841, 842, 843, 844, 845, 846, 847, 848, 849, 850, 851, 852, 853, 854, 855, 856, 857, 858, 859, 860, 861, 862, 863, 864, 865, 866, 867, 868] (by decide +kernel) (by decide +kernel)
set_option maxRecDepth 20000 in
theorem gL_law_X9_ofSpurt : GoodIn wsL_law (wsV RL 52 RX9 yX9_ofSpurt wsX9_ofSpurt) := goodIn_app (goodIn_of _ (by decide +kernel)) ggL_law_X9_ofSpurt
set_option maxRecDepth 20000 in
theorem ggL_law_X8_inOrder : GoodIn wsL_law wsX8_inOrder := goodIn_r _ [639, 23, 585, 586, 587, 22, 588, 292, 130, 131, 2, 132, 640, 641, 642, 643, 82, 293, 231, 232, 49, 233, 60, 830, 831, 832, 833, 834, 835, 836, 837, 838, 839, 840, 877, 878, 879, 880, 881, 882, 883, 884, 885, 898] (by decide +kernel) (by decide +kernel)
set_option maxRecDepth 20000 in
theorem gL_law_X8_inOrder : GoodIn wsL_law (wsV RL 53 RX8 yX8_inOrder wsX8_inOrder) := goodIn_app (goodIn_of _ (by decide +kernel)) ggL_law_X8_inOrder
set_option maxRecDepth 20000 in
theorem ggL_law_X9_inOrder : GoodIn wsL_law wsX9_inOrder := goodIn_r _ [647, 468, 119, 841, 842, 843, 844, 845, 846, 847, 848, 849, 850, 851, 852, 853, 854, 855, 856, 857, 858, 859, 860, 861, 862, 863, 864, 865, 866, 867, 868] (by decide +kernel) (by decide +kernel)
set_option maxRecDepth 20000 in
theorem gL_law_X9_inOrder : GoodIn wsL_law (wsV RL 56 RX9 yX9_inOrder wsX9_inOrder) := goodIn_app (goodIn_of _ (by decide +kernel)) ggL_law_X9_inOrder
set_option maxRecDepth 20000 in
theorem ggL_law_X8_wish : GoodIn wsL_law wsX8_wish := goodIn_r _ [651, 19, 130, 131, 2, 132, 298, 299, 300, 18, 301, 282, 326, 327, 328, 329, 35, 40, 31, 41, 27, 330, 331, 332, 34, 333, 334, 99, 335, 336, 337, 338, 339, 340, 57, 341, 342, 343, 344, 345, 346, 308, 309, 310, 67, 66, 283, 231, 232, 49, 233, 60, 347, 143, 144, 145, 348, 349, 350, 30, 351, 352, 353, 93, 354, 285, 286, 287, 65, 355, 356, 357, 358, 359, 91, 92, 360, 361, 362, 363, 364, 365, 366, 367, 368, 369, 370, 371, 372, 373, 374, 375, 376, 377, 378, 379, 380, 381, 382, 383, 384, 385, 386, 387, 388, 389, 390, 391, 392, 393, 394, 395, 396, 397, 398, 399, 400, 401, 402, 403, 404, 26, 405, 315, 406, 407, 408, 409, 410, 411, 412, 413, 414, 415, 56, 58, 416, 417, 418, 419, 420, 421, 422, 423, 424, 425, 426, 427, 428, 429, 430, 830, 831, 832, 833, 834, 835, 836, 837, 838, 839, 840, 871, 872, 873, 874, 875, 876, 894, 895, 898, 889, 890, 891, 892, 893, 886, 887, 888] (by decide +kernel) (by decide +kernel)
set_option maxRecDepth 20000 in
theorem gL_law_X8_wish : GoodIn wsL_law (wsV RL 57 RX8 yX8_wish wsX8_wish) := goodIn_app (goodIn_of _ (by decide +kernel)) ggL_law_X8_wish
set_option maxRecDepth 20000 in
theorem ggL_law_X9_wish : GoodIn wsL_law wsX9_wish := goodIn_r _ [655, 467, 151, 152, 5, 153, 496, 497, 498, 499, 244, 500, 115, 501, 124, 113, 485, 502, 503, 504, 505, 506, 507, 508, 509, 488, 489, 490, 491, 116, 510, 511, 512, 513, 514, 515, 516, 517, 518, 519, 520, 521, 522, 523, 524, 525, 526, 527, 528, 841, 842, 843, 844, 845, 846, 847, 848, 849, 850, 851, 852, 853, 854, 855, 856, 857, 858, 859, 860, 861, 862, 863, 864, 865, 866, 867, 868] (by decide +kernel) (by decide +kernel)
set_option maxRecDepth 20000 in
theorem gL_law_X9_wish : GoodIn wsL_law (wsV RL 60 RX9 yX9_wish wsX9_wish) := goodIn_app (goodIn_of _ (by decide +kernel)) ggL_law_X9_wish
set_option maxRecDepth 20000 in
theorem ggL_law_X8_spike : GoodIn wsL_law wsX8_spike := goodIn_r _ [659, 27, 402, 403, 404, 26, 405, 315, 660, 661, 662, 663, 316, 830, 831, 832, 833, 834, 835, 836, 837, 838, 839, 840, 886, 887, 888] (by decide +kernel) (by decide +kernel)
set_option maxRecDepth 20000 in
theorem gL_law_X8_spike : GoodIn wsL_law (wsV RL 61 RX8 yX8_spike wsX8_spike) := goodIn_app (goodIn_of _ (by decide +kernel)) ggL_law_X8_spike
set_option maxRecDepth 20000 in
theorem ggL_law_X9_spike : GoodIn wsL_law wsX9_spike := goodIn_r _ [667, 485, 486, 151, 152, 5, 153, 841, 842, 843, 844, 845, 846, 847, 848, 849, 850, 851, 852, 853, 854, 855, 856, 857, 858, 859, 860, 861, 862, 863, 864, 865, 866, 867, 868] (by decide +kernel) (by decide +kernel)
set_option maxRecDepth 20000 in
theorem gL_law_X9_spike : GoodIn wsL_law (wsV RL 64 RX9 yX9_spike wsX9_spike) := goodIn_app (goodIn_of _ (by decide +kernel)) ggL_law_X9_spike
set_option maxRecDepth 20000 in
theorem ggL_law_X8_late : GoodIn wsL_law wsX8_late := goodIn_r _ [671, 672, 19, 130, 131, 2, 132, 673, 336, 337, 18, 338, 282, 339, 340, 57, 341, 674, 675, 676, 677, 678, 308, 309, 310, 67, 66, 283, 231, 232, 49, 233, 60, 830, 831, 832, 833, 834, 835, 836, 837, 838, 839, 840, 871, 872, 873, 874, 875, 876, 898] (by decide +kernel) (by decide +kernel)
set_option maxRecDepth 20000 in
theorem gL_law_X8_late : GoodIn wsL_law (wsV RL 65 RX8 yX8_late wsX8_late) := goodIn_app (goodIn_of _ (by decide +kernel)) ggL_law_X8_late
set_option maxRecDepth 20000 in
theorem ggL_law_X9_late : GoodIn wsL_law wsX9_late := goodIn_r _ [682, 683, 467, 151, 152, 5, 153, 510, 511, 512, 513, 488, 489, 490, 491, 116, 115, 841, 842, 843, 844, 845, 846, 847, 848, 849, 850, 851, 852, 853, 854, 855, 856, 857, 858, 859, 860, 861, 862, 863, 864, 865, 866, 867, 868] (by decide +kernel) (by decide +kernel)
set_option maxRecDepth 20000 in
theorem gL_law_X9_late : GoodIn wsL_law (wsV RL 68 RX9 yX9_late wsX9_late) := goodIn_app (goodIn_of _ (by decide +kernel)) ggL_law_X9_late
set_option maxRecDepth 20000 in
theorem ggL_law_X8_history : GoodIn wsL_law wsX8_history := goodIn_r _ [687, 19, 130, 131, 2, 132, 673, 336, 337, 18, 338, 282, 339, 340, 57, 341, 688, 343, 344, 345, 307, 308, 309, 310, 67, 66, 283, 231, 232, 49, 233, 60, 830, 831, 832, 833, 834, 835, 836, 837, 838, 839, 840, 871, 872, 873, 874, 875, 876, 898] (by decide +kernel) (by decide +kernel)
set_option maxRecDepth 20000 in
theorem gL_law_X8_history : GoodIn wsL_law (wsV RL 69 RX8 yX8_history wsX8_history) := goodIn_app (goodIn_of _ (by decide +kernel)) ggL_law_X8_history
set_option maxRecDepth 20000 in
theorem ggL_law_X9_history : GoodIn wsL_law wsX9_history := goodIn_r _ [692, 467, 151, 152, 5, 153, 488, 489, 490, 491, 116, 115, 841, 842, 843, 844, 845, 846, 847, 848, 849, 850, 851, 852, 853, 854, 855, 856, 857, 858, 859, 860, 861, 862, 863, 864, 865, 866, 867, 868] (by decide +kernel) (by decide +kernel)
set_option maxRecDepth 20000 in
theorem gL_law_X9_history : GoodIn wsL_law (wsV RL 72 RX9 yX9_history wsX9_history) := goodIn_app (goodIn_of _ (by decide +kernel)) ggL_law_X9_history
set_option maxRecDepth 20000 in
theorem ggL_law_X8_loss : GoodIn wsL_law wsX8_loss := goodIn_r _ [696, 672, 19, 130, 131, 2, 132, 298, 299, 300, 18, 301, 282, 674, 675, 676, 677, 678, 308, 309, 310, 67, 66, 283, 231, 232, 49, 233, 60, 830, 831, 832, 833, 834, 835, 836, 837, 838, 839, 840, 871, 872, 873, 874, 875, 876, 898] (by decide +kernel) (by decide +kernel)
set_option maxRecDepth 20000 in
theorem gL_law_X8_loss : GoodIn wsL_law (wsV RL 73 RX8 yX8_loss wsX8_loss) := goodIn_app (goodIn_of _ (by decide +kernel)) ggL_law_X8_loss
set_option maxRecDepth 20000 in
theorem ggL_law_X9_loss : GoodIn wsL_law wsX9_loss := goodIn_r _ [700, 683, 467, 151, 152, 5, 153, 488, 489, 490, 491, 116, 115, 841, 842, 843, 844, 845, 846, 847, 848, 849, 850, 851, 852, 853, 854, 855, 856, 857, 858, 859, 860, 861, 862, 863, 864, 865, 866, 867, 868] (by decide +kernel) (by decide +kernel)
set_option maxRecDepth 20000 in
theorem gL_law_X9_loss : GoodIn wsL_law (wsV RL 76 RX9 yX9_loss wsX9_loss) := goodIn_app (goodIn_of _ (by decide +kernel)) ggL_law_X9_loss
set_option maxRecDepth 20000 in
theorem ggL_law_X8_drift : GoodIn wsL_law wsX8_drift := goodIn_r _ [704, 31, 19, 705, 348, 349, 350, 30, 351, 352, 353, 93, 354, 285, 286, 18, 287, 65, 283, 231, 232, 49, 233, 60, 355, 308, 309, 310, 67, 66, 356, 357, 358, 359, 91, 92, 360, 361, 362, 363, 364, 365, 143, 144, 145, 366, 367, 368, 369, 370, 371, 372, 373, 374, 375, 57, 376, 377, 378, 379, 706, 707, 708, 709, 710, 711, 712, 713, 830, 831, 832, 833, 834, 835, 836, 837, 838, 839, 840, 889, 890, 891, 892, 893, 871, 872, 873, 874, 875, 876, 898] (by decide +kernel) (by decide +kernel)
set_option maxRecDepth 20000 in
theorem gL_law_X8_drift : GoodIn wsL_law (wsV RL 77 RX8 yX8_drift wsX8_drift) := goodIn_app (goodIn_of _ (by decide +kernel)) ggL_law_X8_drift
set_option maxRecDepth 20000 in
theorem ggL_law_X9_drift : GoodIn wsL_law wsX9_drift := goodIn_r _ [717, 718, 500, 501, 151, 152, 5, 153, 502, 503, 504, 505, 467, 115, 506, 507, 508, 509, 488, 489, 490, 491, 116, 841, 842, 843, 844, 845, 846, 847, 848, 849, 850, 851, 852, 853, 854, 855, 856, 857, 858, 859, 860, 861, 862, 863, 864, 865, 866, 867, 868] (by decide +kernel) (by decide +kernel)
set_option maxRecDepth 20000 in
theorem gL_law_X9_drift : GoodIn wsL_law (wsV RL 81 RX9 yX9_drift wsX9_drift) := goodIn_app (goodIn_of _ (by decide +kernel)) ggL_law_X9_drift
set_option maxRecDepth 20000 in
theorem ggL_law_X8_waiting : GoodIn wsL_law wsX8_waiting := goodIn_r _ [722, 723, 19, 130, 131, 2, 132, 298, 299, 300, 18, 301, 282, 557, 558, 559, 560, 67, 283, 231, 232, 49, 233, 60, 565, 566, 567, 568, 69, 830, 831, 832, 833, 834, 835, 836, 837, 838, 839, 840, 871, 872, 873, 874, 875, 876, 898] (by decide +kernel) (by decide +kernel)
set_option maxRecDepth 20000 in
theorem gL_law_X8_waiting : GoodIn wsL_law (wsV RL 82 RX8 yX8_waiting wsX8_waiting) := goodIn_app (goodIn_of _ (by decide +kernel)) ggL_law_X8_waiting
set_option maxRecDepth 20000 in
theorem ggL_law_X9_waiting : GoodIn wsL_law wsX9_waiting := goodIn_r _ [727, 728, 467, 116, 151, 152, 5, 153, 573, 574, 575, 576, 121, 117, 488, 489, 490, 491, 115, 577, 578, 579, 580, 841, 842, 843, 844, 845, 846, 847, 848, 849, 850, 851, 852, 853, 854, 855, 856, 857, 858, 859, 860, 861, 862, 863, 864, 865, 866, 867, 868] (by decide +kernel) (by decide +kernel)
set_option maxRecDepth 20000 in
theorem gL_law_X9_waiting : GoodIn wsL_law (wsV RL 85 RX9 yX9_waiting wsX9_waiting) := goodIn_app (goodIn_of _ (by decide +kernel)) ggL_law_X9_waiting
set_option maxRecDepth 20000 in
theorem ggL_law_X8_playing : GoodIn wsL_law wsX8_playing := goodIn_r _ [732, 723, 19, 130, 131, 2, 132, 298, 299, 300, 18, 301, 282, 565, 566, 567, 568, 69, 283, 231, 232, 49, 233, 60, 733, 385, 386, 387, 66, 830, 831, 832, 833, 834, 835, 836, 837, 838, 839, 840, 871, 872, 873, 874, 875, 876, 898] (by decide +kernel) (by decide +kernel)
set_option maxRecDepth 20000 in
theorem gL_law_X8_playing : GoodIn wsL_law (wsV RL 86 RX8 yX8_playing wsX8_playing) := goodIn_app (goodIn_of _ (by decide +kernel)) ggL_law_X8_playing
set_option maxRecDepth 20000 in
theorem ggL_law_X9_playing : GoodIn wsL_law wsX9_playing := goodIn_r _ [737, 728, 467, 115, 151, 152, 5, 153, 573, 574, 575, 576, 121, 117, 488, 489, 490, 491, 116, 577, 578, 579, 580, 841, 842, 843, 844, 845, 846, 847, 848, 849, 850, 851, 852, 853, 854, 855, 856, 857, 858, 859, 860, 861, 862, 863, 864, 865, 866, 867, 868] (by decide +kernel) (by decide +kernel)
set_option maxRecDepth 20000 in
theorem gL_law_X9_playing : GoodIn wsL_law (wsV RL 89 RX9 yX9_playing wsX9_playing) := goodIn_app (goodIn_of _ (by decide +kernel)) ggL_law_X9_playing
set_option maxRecDepth 20000 in
theorem ggL_law_X8_text : GoodIn wsL_law wsX8_text := goodIn_r _ [741, 23, 39, 585, 586, 587, 22, 588, 292, 130, 131, 2, 132, 742, 743, 744, 745, 746, 747, 748, 38, 749, 750, 751, 752, 753, 754, 105, 755, 143, 144, 49, 145, 60, 589, 590, 591, 592, 75, 293, 231, 232, 233, 756, 757, 758, 759, 760, 761, 613, 614, 615, 616, 78, 174, 175, 176, 762, 763, 764, 765, 766, 182, 183, 184, 185, 186, 187, 188, 189, 190, 191, 192, 767, 194, 195, 196, 197, 198, 199, 200, 201, 202, 203, 204, 205, 206, 207, 208, 209, 210, 211, 212, 213, 214, 215, 216, 217, 218, 219, 220, 221, 222, 223, 224, 225, 226, 227, 228, 229, 450, 451, 452, 453, 77, 609, 610, 611, 612, 81, 768, 769, 770, 771, 772, 773, 774, 775, 776, 777, 778, 779, 780, 19, 284, 285, 286, 18, 287, 65, 283, 565, 566, 567, 568, 69, 830, 831, 832, 833, 834, 835, 836, 837, 838, 839, 840, 877, 878, 879, 880, 881, 882, 883, 884, 885, 896, 897, 898, 871, 872, 873, 874, 875, 876] (by decide +kernel) (by decide +kernel)
set_option maxRecDepth 20000 in
theorem gL_law_X8_text : GoodIn wsL_law (wsV RL 90 RX8 yX8_text wsX8_text) := goodIn_app (goodIn_of _ (by decide +kernel)) ggL_law_X8_text
set_option maxRecDepth 20000 in
theorem ggL_law_X9_text : GoodIn wsL_law wsX9_text := goodIn_r _ [784, 785, 125, 624, 625, 626, 5, 627, 468, 151, 152, 153, 786, 787, 788, 789, 119, 122, 111, 121, 623, 118, 790, 791, 792, 793, 794, 795, 796, 797, 249, 250, 251, 252, 628, 629, 630, 631, 621, 622, 467, 117, 115, 573, 574, 575, 576, 488, 489, 490, 491, 116, 841, 842, 843, 844, 845, 846, 847, 848, 849, 850, 851, 852, 853, 854, 855, 856, 857, 858, 859, 860, 861, 862, 863, 864, 865, 866, 867, 868] (by decide +kernel) (by decide +kernel)
set_option maxRecDepth 20000 in
theorem gL_law_X9_text : GoodIn wsL_law (wsV RL 93 RX9 yX9_text wsX9_text) := goodIn_app (goodIn_of _ (by decide +kernel)) ggL_law_X9_text
set_option maxRecDepth 20000 in
theorem ggL_law_X8_word : GoodIn wsL_law wsX8_word := goodIn_r _ [801, 40, 130, 131, 2, 132, 174, 175, 176, 802, 182, 183, 184, 185, 186, 187, 188, 189, 190, 191, 192, 803, 194, 195, 196, 197, 198, 199, 200, 201, 202, 203, 204, 205, 206, 207, 208, 209, 210, 211, 212, 213, 214, 215, 216, 217, 218, 219, 220, 221, 222, 223, 224, 225, 226, 227, 228, 229, 830, 831, 832, 833, 834, 835, 836, 837, 838, 839, 840] (by decide +kernel) (by decide +kernel)
set_option maxRecDepth 20000 in
theorem gL_law_X8_word : GoodIn wsL_law (wsV RL 94 RX8 yX8_word wsX8_word) := goodIn_app (goodIn_of _ (by decide +kernel)) ggL_law_X8_word
set_option maxRecDepth 20000 in
theorem ggL_law_X9_word : GoodIn wsL_law wsX9_word := goodIn_r _ [807, 244, 111, 151, 152, 5, 153, 249, 250, 251, 252, 841, 842, 843, 844, 845, 846, 847, 848, 849, 850, 851, 852, 853, 854, 855, 856, 857, 858, 859, 860, 861, 862, 863, 864, 865, 866, 867, 868] (by decide +kernel) (by decide +kernel)
set_option maxRecDepth 20000 in
theorem gL_law_X9_word : GoodIn wsL_law (wsV RL 97 RX9 yX9_word wsX9_word) := goodIn_app (goodIn_of _ (by decide +kernel)) ggL_law_X9_word
set_option maxRecDepth 20000 in
theorem ggL_law_X8_many : GoodIn wsL_law wsX8_many := goodIn_r _ [811, 19, 23, 15, 27, 298, 299, 300, 18, 301, 282, 585, 586, 587, 22, 588, 292, 812, 813, 814, 815, 816, 602, 603, 604, 80, 293, 231, 232, 49, 233, 60, 817, 818, 819, 820, 821, 606, 607, 608, 81, 75, 79, 673, 336, 337, 338, 339, 340, 57, 341, 133, 134, 135, 14, 136, 137, 822, 823, 824, 26, 825, 317, 830, 831, 832, 833, 834, 835, 836, 837, 838, 839, 840, 871, 872, 873, 874, 875, 876, 877, 878, 879, 880, 881, 882, 883, 884, 885, 898, 869, 870, 886, 887, 888] (by decide +kernel) (by decide +kernel)
set_option maxRecDepth 20000 in
theorem gL_law_X8_many : GoodIn wsL_law (wsV RL 98 RX8 yX8_many wsX8_many) := goodIn_app (goodIn_of _ (by decide +kernel)) ggL_law_X8_many
set_option maxRecDepth 20000 in
theorem ggL_law_X9_many : GoodIn wsL_law wsX9_many := goodIn_r _ [829, 468, 622, 467, 150, 487, 632, 633, 634, 5, 635, 623, 119, 621, 628, 629, 630, 631, 117, 115, 573, 574, 575, 576, 121, 488, 489, 490, 491, 116, 510, 511, 512, 513, 841, 842, 843, 844, 845, 846, 847, 848, 849, 850, 851, 852, 853, 854, 855, 856, 857, 858, 859, 860, 861, 862, 863, 864, 865, 866, 867, 868] (by decide +kernel) (by decide +kernel)
set_option maxRecDepth 20000 in
theorem gL_law_X9_many : GoodIn wsL_law (wsV RL 101 RX9 yX9_many wsX9_many) := goodIn_app (goodIn_of _ (by decide +kernel)) ggL_law_X9_many
theorem dL_law_0 : decode cL_law 0 = .ok (.new 7, 3) := by decide +kernel
theorem dL_law_3 : decode cL_law 3 = .ok (.dup, 1) := by decide +kernel
theorem dL_law_4 : decode cL_law 4 = .ok (.invokespecial 9, 3) := by decide +kernel
theorem dL_law_7 : decode cL_law 7 = .ok (.astore_n 1, 1) := by decide +kernel
theorem dL_law_8 : decode cL_law 8 = .ok (.new 10, 3) := by decide +kernel
theorem dL_law_11 : decode cL_law 11 = .ok (.dup, 1) := by decide +kernel
theorem dL_law_12 : decode cL_law 12 = .ok (.invokespecial 12, 3) := by decide +kernel
theorem dL_law_15 : decode cL_law 15 = .ok (.astore_n 2, 1) := by decide +kernel
theorem dL_law_16 : decode cL_law 16 = .ok (.iconst 0, 1) := by decide +kernel
theorem dL_law_17 : decode cL_law 17 = .ok (.istore_n 3, 1) := by decide +kernel
theorem dL_law_18 : decode cL_law 18 = .ok (.iload_n 3, 1) := by decide +kernel
theorem dL_law_19 : decode cL_law 19 = .ok (.aload_n 0, 1) := by decide +kernel
theorem dL_law_20 : decode cL_law 20 = .ok (.arraylength, 1) := by decide +kernel
theorem dL_law_21 : decode cL_law 21 = .ok (.iconst 5, 1) := by decide +kernel
theorem dL_law_22 : decode cL_law 22 = .ok (.isub, 1) := by decide +kernel
theorem dL_law_23 : decode cL_law 23 = .ok (.if_icmp .gt 639, 3) := by decide +kernel
theorem dL_law_26 : decode cL_law 26 = .ok (.aload_n 0, 1) := by decide +kernel
theorem dL_law_27 : decode cL_law 27 = .ok (.iload_n 3, 1) := by decide +kernel
theorem dL_law_28 : decode cL_law 28 = .ok (.iaload, 1) := by decide +kernel
theorem dL_law_29 : decode cL_law 29 = .ok (.bipush 31, 2) := by decide +kernel
theorem dL_law_31 : decode cL_law 31 = .ok (.iand, 1) := by decide +kernel
theorem dL_law_32 : decode cL_law 32 = .ok (.tableswitch 624 0 20 #[100, 123, 136, 159, 182, 205, 258, 271, 304, 337, 360, 383, 406, 429, 452, 475, 499, 522, 545, 578, 601], 100) := by decide +kernel
theorem dL_law_132 : decode cL_law 132 = .ok (.aload_n 1, 1) := by decide +kernel
theorem dL_law_133 : decode cL_law 133 = .ok (.aload_n 0, 1) := by decide +kernel
theorem dL_law_134 : decode cL_law 134 = .ok (.iload_n 3, 1) := by decide +kernel
theorem dL_law_135 : decode cL_law 135 = .ok (.iconst 1, 1) := by decide +kernel
theorem dL_law_136 : decode cL_law 136 = .ok (.iadd, 1) := by decide +kernel
theorem dL_law_137 : decode cL_law 137 = .ok (.iaload, 1) := by decide +kernel
theorem dL_law_138 : decode cL_law 138 = .ok (.invokevirtual 13, 3) := by decide +kernel
theorem dL_law_141 : decode cL_law 141 = .ok (.aload_n 2, 1) := by decide +kernel
theorem dL_law_142 : decode cL_law 142 = .ok (.aload_n 0, 1) := by decide +kernel
theorem dL_law_143 : decode cL_law 143 = .ok (.iload_n 3, 1) := by decide +kernel
theorem dL_law_144 : decode cL_law 144 = .ok (.iconst 1, 1) := by decide +kernel
theorem dL_law_145 : decode cL_law 145 = .ok (.iadd, 1) := by decide +kernel
theorem dL_law_146 : decode cL_law 146 = .ok (.iaload, 1) := by decide +kernel
theorem dL_law_147 : decode cL_law 147 = .ok (.invokevirtual 17, 3) := by decide +kernel
theorem dL_law_150 : decode cL_law 150 = .ok (.if_icmp .eq 506, 3) := by decide +kernel
theorem dL_law_153 : decode cL_law 153 = .ok (.iconst 0, 1) := by decide +kernel
theorem dL_law_154 : decode cL_law 154 = .ok (.ireturn, 1) := by decide +kernel
end
section
theorem dL_law_155 : decode cL_law 155 = .ok (.aload_n 1, 1) := by decide +kernel
theorem dL_law_156 : decode cL_law 156 = .ok (.invokevirtual 18, 3) := by decide +kernel
theorem dL_law_159 : decode cL_law 159 = .ok (.aload_n 2, 1) := by decide +kernel
theorem dL_law_160 : decode cL_law 160 = .ok (.invokevirtual 22, 3) := by decide +kernel
theorem dL_law_163 : decode cL_law 163 = .ok (.if_icmp .eq 493, 3) := by decide +kernel
theorem dL_law_166 : decode cL_law 166 = .ok (.iconst 0, 1) := by decide +kernel
theorem dL_law_167 : decode cL_law 167 = .ok (.ireturn, 1) := by decide +kernel
theorem dL_law_168 : decode cL_law 168 = .ok (.aload_n 1, 1) := by decide +kernel
theorem dL_law_169 : decode cL_law 169 = .ok (.aload_n 0, 1) := by decide +kernel
theorem dL_law_170 : decode cL_law 170 = .ok (.iload_n 3, 1) := by decide +kernel
theorem dL_law_171 : decode cL_law 171 = .ok (.iconst 1, 1) := by decide +kernel
theorem dL_law_172 : decode cL_law 172 = .ok (.iadd, 1) := by decide +kernel
theorem dL_law_173 : decode cL_law 173 = .ok (.iaload, 1) := by decide +kernel
theorem dL_law_174 : decode cL_law 174 = .ok (.invokevirtual 23, 3) := by decide +kernel
theorem dL_law_177 : decode cL_law 177 = .ok (.aload_n 2, 1) := by decide +kernel
theorem dL_law_178 : decode cL_law 178 = .ok (.aload_n 0, 1) := by decide +kernel
theorem dL_law_179 : decode cL_law 179 = .ok (.iload_n 3, 1) := by decide +kernel
theorem dL_law_180 : decode cL_law 180 = .ok (.iconst 1, 1) := by decide +kernel
theorem dL_law_181 : decode cL_law 181 = .ok (.iadd, 1) := by decide +kernel
theorem dL_law_182 : decode cL_law 182 = .ok (.iaload, 1) := by decide +kernel
theorem dL_law_183 : decode cL_law 183 = .ok (.invokevirtual 26, 3) := by decide +kernel
theorem dL_law_186 : decode cL_law 186 = .ok (.if_icmp .eq 470, 3) := by decide +kernel
theorem dL_law_189 : decode cL_law 189 = .ok (.iconst 0, 1) := by decide +kernel
theorem dL_law_190 : decode cL_law 190 = .ok (.ireturn, 1) := by decide +kernel
theorem dL_law_191 : decode cL_law 191 = .ok (.aload_n 1, 1) := by decide +kernel
theorem dL_law_192 : decode cL_law 192 = .ok (.aload_n 0, 1) := by decide +kernel
theorem dL_law_193 : decode cL_law 193 = .ok (.iload_n 3, 1) := by decide +kernel
theorem dL_law_194 : decode cL_law 194 = .ok (.iconst 1, 1) := by decide +kernel
theorem dL_law_195 : decode cL_law 195 = .ok (.iadd, 1) := by decide +kernel
theorem dL_law_196 : decode cL_law 196 = .ok (.iaload, 1) := by decide +kernel
theorem dL_law_197 : decode cL_law 197 = .ok (.invokevirtual 27, 3) := by decide +kernel
theorem dL_law_200 : decode cL_law 200 = .ok (.aload_n 2, 1) := by decide +kernel
theorem dL_law_201 : decode cL_law 201 = .ok (.aload_n 0, 1) := by decide +kernel
theorem dL_law_202 : decode cL_law 202 = .ok (.iload_n 3, 1) := by decide +kernel
theorem dL_law_203 : decode cL_law 203 = .ok (.iconst 1, 1) := by decide +kernel
theorem dL_law_204 : decode cL_law 204 = .ok (.iadd, 1) := by decide +kernel
theorem dL_law_205 : decode cL_law 205 = .ok (.iaload, 1) := by decide +kernel
theorem dL_law_206 : decode cL_law 206 = .ok (.invokevirtual 30, 3) := by decide +kernel
theorem dL_law_209 : decode cL_law 209 = .ok (.if_icmp .eq 447, 3) := by decide +kernel
theorem dL_law_212 : decode cL_law 212 = .ok (.iconst 0, 1) := by decide +kernel
theorem dL_law_213 : decode cL_law 213 = .ok (.ireturn, 1) := by decide +kernel
theorem dL_law_214 : decode cL_law 214 = .ok (.aload_n 1, 1) := by decide +kernel
theorem dL_law_215 : decode cL_law 215 = .ok (.aload_n 0, 1) := by decide +kernel
theorem dL_law_216 : decode cL_law 216 = .ok (.iload_n 3, 1) := by decide +kernel
theorem dL_law_217 : decode cL_law 217 = .ok (.iconst 1, 1) := by decide +kernel
theorem dL_law_218 : decode cL_law 218 = .ok (.iadd, 1) := by decide +kernel
theorem dL_law_219 : decode cL_law 219 = .ok (.iaload, 1) := by decide +kernel
theorem dL_law_220 : decode cL_law 220 = .ok (.invokevirtual 31, 3) := by decide +kernel
theorem dL_law_223 : decode cL_law 223 = .ok (.aload_n 2, 1) := by decide +kernel
theorem dL_law_224 : decode cL_law 224 = .ok (.aload_n 0, 1) := by decide +kernel
theorem dL_law_225 : decode cL_law 225 = .ok (.iload_n 3, 1) := by decide +kernel
theorem dL_law_226 : decode cL_law 226 = .ok (.iconst 1, 1) := by decide +kernel
theorem dL_law_227 : decode cL_law 227 = .ok (.iadd, 1) := by decide +kernel
theorem dL_law_228 : decode cL_law 228 = .ok (.iaload, 1) := by decide +kernel
theorem dL_law_229 : decode cL_law 229 = .ok (.invokevirtual 34, 3) := by decide +kernel
theorem dL_law_232 : decode cL_law 232 = .ok (.if_icmp .eq 424, 3) := by decide +kernel
theorem dL_law_235 : decode cL_law 235 = .ok (.iconst 0, 1) := by decide +kernel
theorem dL_law_236 : decode cL_law 236 = .ok (.ireturn, 1) := by decide +kernel
theorem dL_law_237 : decode cL_law 237 = .ok (.aload_n 1, 1) := by decide +kernel
theorem dL_law_238 : decode cL_law 238 = .ok (.aload_n 0, 1) := by decide +kernel
theorem dL_law_239 : decode cL_law 239 = .ok (.iload_n 3, 1) := by decide +kernel
theorem dL_law_240 : decode cL_law 240 = .ok (.iconst 1, 1) := by decide +kernel
theorem dL_law_241 : decode cL_law 241 = .ok (.iadd, 1) := by decide +kernel
theorem dL_law_242 : decode cL_law 242 = .ok (.iaload, 1) := by decide +kernel
theorem dL_law_243 : decode cL_law 243 = .ok (.aload_n 0, 1) := by decide +kernel
theorem dL_law_244 : decode cL_law 244 = .ok (.iload_n 3, 1) := by decide +kernel
theorem dL_law_245 : decode cL_law 245 = .ok (.iconst 2, 1) := by decide +kernel
theorem dL_law_246 : decode cL_law 246 = .ok (.iadd, 1) := by decide +kernel
theorem dL_law_247 : decode cL_law 247 = .ok (.iaload, 1) := by decide +kernel
theorem dL_law_248 : decode cL_law 248 = .ok (.aload_n 0, 1) := by decide +kernel
theorem dL_law_249 : decode cL_law 249 = .ok (.iload_n 3, 1) := by decide +kernel
theorem dL_law_250 : decode cL_law 250 = .ok (.iconst 3, 1) := by decide +kernel
theorem dL_law_251 : decode cL_law 251 = .ok (.iadd, 1) := by decide +kernel
theorem dL_law_252 : decode cL_law 252 = .ok (.iaload, 1) := by decide +kernel
theorem dL_law_253 : decode cL_law 253 = .ok (.aload_n 0, 1) := by decide +kernel
theorem dL_law_254 : decode cL_law 254 = .ok (.iload_n 3, 1) := by decide +kernel
theorem dL_law_255 : decode cL_law 255 = .ok (.iconst 4, 1) := by decide +kernel
theorem dL_law_256 : decode cL_law 256 = .ok (.iadd, 1) := by decide +kernel
theorem dL_law_257 : decode cL_law 257 = .ok (.iaload, 1) := by decide +kernel
theorem dL_law_258 : decode cL_law 258 = .ok (.invokevirtual 35, 3) := by decide +kernel
theorem dL_law_261 : decode cL_law 261 = .ok (.aload_n 2, 1) := by decide +kernel
theorem dL_law_262 : decode cL_law 262 = .ok (.aload_n 0, 1) := by decide +kernel
theorem dL_law_263 : decode cL_law 263 = .ok (.iload_n 3, 1) := by decide +kernel
theorem dL_law_264 : decode cL_law 264 = .ok (.iconst 1, 1) := by decide +kernel
theorem dL_law_265 : decode cL_law 265 = .ok (.iadd, 1) := by decide +kernel
theorem dL_law_266 : decode cL_law 266 = .ok (.iaload, 1) := by decide +kernel
theorem dL_law_267 : decode cL_law 267 = .ok (.aload_n 0, 1) := by decide +kernel
theorem dL_law_268 : decode cL_law 268 = .ok (.iload_n 3, 1) := by decide +kernel
theorem dL_law_269 : decode cL_law 269 = .ok (.iconst 2, 1) := by decide +kernel
theorem dL_law_270 : decode cL_law 270 = .ok (.iadd, 1) := by decide +kernel
theorem dL_law_271 : decode cL_law 271 = .ok (.iaload, 1) := by decide +kernel
theorem dL_law_272 : decode cL_law 272 = .ok (.aload_n 0, 1) := by decide +kernel
theorem dL_law_273 : decode cL_law 273 = .ok (.iload_n 3, 1) := by decide +kernel
theorem dL_law_274 : decode cL_law 274 = .ok (.iconst 3, 1) := by decide +kernel
theorem dL_law_275 : decode cL_law 275 = .ok (.iadd, 1) := by decide +kernel
theorem dL_law_276 : decode cL_law 276 = .ok (.iaload, 1) := by decide +kernel
theorem dL_law_277 : decode cL_law 277 = .ok (.aload_n 0, 1) := by decide +kernel
theorem dL_law_278 : decode cL_law 278 = .ok (.iload_n 3, 1) := by decide +kernel
theorem dL_law_279 : decode cL_law 279 = .ok (.iconst 4, 1) := by decide +kernel
theorem dL_law_280 : decode cL_law 280 = .ok (.iadd, 1) := by decide +kernel
theorem dL_law_281 : decode cL_law 281 = .ok (.iaload, 1) := by decide +kernel
theorem dL_law_282 : decode cL_law 282 = .ok (.invokevirtual 39, 3) := by decide +kernel
theorem dL_law_285 : decode cL_law 285 = .ok (.if_icmp .eq 371, 3) := by decide +kernel
theorem dL_law_288 : decode cL_law 288 = .ok (.iconst 0, 1) := by decide +kernel
theorem dL_law_289 : decode cL_law 289 = .ok (.ireturn, 1) := by decide +kernel
theorem dL_law_290 : decode cL_law 290 = .ok (.aload_n 1, 1) := by decide +kernel
theorem dL_law_291 : decode cL_law 291 = .ok (.invokevirtual 40, 3) := by decide +kernel
theorem dL_law_294 : decode cL_law 294 = .ok (.aload_n 2, 1) := by decide +kernel
theorem dL_law_295 : decode cL_law 295 = .ok (.invokevirtual 43, 3) := by decide +kernel
theorem dL_law_298 : decode cL_law 298 = .ok (.if_icmp .eq 358, 3) := by decide +kernel
theorem dL_law_301 : decode cL_law 301 = .ok (.iconst 0, 1) := by decide +kernel
theorem dL_law_302 : decode cL_law 302 = .ok (.ireturn, 1) := by decide +kernel
theorem dL_law_303 : decode cL_law 303 = .ok (.aload_n 1, 1) := by decide +kernel
theorem dL_law_304 : decode cL_law 304 = .ok (.aload_n 0, 1) := by decide +kernel
theorem dL_law_305 : decode cL_law 305 = .ok (.iload_n 3, 1) := by decide +kernel
theorem dL_law_306 : decode cL_law 306 = .ok (.iconst 1, 1) := by decide +kernel
theorem dL_law_307 : decode cL_law 307 = .ok (.iadd, 1) := by decide +kernel
theorem dL_law_308 : decode cL_law 308 = .ok (.iaload, 1) := by decide +kernel
theorem dL_law_309 : decode cL_law 309 = .ok (.aload_n 0, 1) := by decide +kernel
theorem dL_law_310 : decode cL_law 310 = .ok (.iload_n 3, 1) := by decide +kernel
theorem dL_law_311 : decode cL_law 311 = .ok (.iconst 2, 1) := by decide +kernel
theorem dL_law_312 : decode cL_law 312 = .ok (.iadd, 1) := by decide +kernel
theorem dL_law_313 : decode cL_law 313 = .ok (.iaload, 1) := by decide +kernel
theorem dL_law_314 : decode cL_law 314 = .ok (.invokevirtual 44, 3) := by decide +kernel
theorem dL_law_317 : decode cL_law 317 = .ok (.aload_n 2, 1) := by decide +kernel
theorem dL_law_318 : decode cL_law 318 = .ok (.aload_n 0, 1) := by decide +kernel
theorem dL_law_319 : decode cL_law 319 = .ok (.iload_n 3, 1) := by decide +kernel
theorem dL_law_320 : decode cL_law 320 = .ok (.iconst 1, 1) := by decide +kernel
theorem dL_law_321 : decode cL_law 321 = .ok (.iadd, 1) := by decide +kernel
theorem dL_law_322 : decode cL_law 322 = .ok (.iaload, 1) := by decide +kernel
theorem dL_law_323 : decode cL_law 323 = .ok (.aload_n 0, 1) := by decide +kernel
theorem dL_law_324 : decode cL_law 324 = .ok (.iload_n 3, 1) := by decide +kernel
theorem dL_law_325 : decode cL_law 325 = .ok (.iconst 2, 1) := by decide +kernel
theorem dL_law_326 : decode cL_law 326 = .ok (.iadd, 1) := by decide +kernel
theorem dL_law_327 : decode cL_law 327 = .ok (.iaload, 1) := by decide +kernel
theorem dL_law_328 : decode cL_law 328 = .ok (.invokevirtual 48, 3) := by decide +kernel
theorem dL_law_331 : decode cL_law 331 = .ok (.if_icmp .eq 325, 3) := by decide +kernel
theorem dL_law_334 : decode cL_law 334 = .ok (.iconst 0, 1) := by decide +kernel
theorem dL_law_335 : decode cL_law 335 = .ok (.ireturn, 1) := by decide +kernel
theorem dL_law_336 : decode cL_law 336 = .ok (.aload_n 1, 1) := by decide +kernel
theorem dL_law_337 : decode cL_law 337 = .ok (.aload_n 0, 1) := by decide +kernel
theorem dL_law_338 : decode cL_law 338 = .ok (.iload_n 3, 1) := by decide +kernel
theorem dL_law_339 : decode cL_law 339 = .ok (.iconst 1, 1) := by decide +kernel
theorem dL_law_340 : decode cL_law 340 = .ok (.iadd, 1) := by decide +kernel
theorem dL_law_341 : decode cL_law 341 = .ok (.iaload, 1) := by decide +kernel
theorem dL_law_342 : decode cL_law 342 = .ok (.aload_n 0, 1) := by decide +kernel
theorem dL_law_343 : decode cL_law 343 = .ok (.iload_n 3, 1) := by decide +kernel
theorem dL_law_344 : decode cL_law 344 = .ok (.iconst 2, 1) := by decide +kernel
theorem dL_law_345 : decode cL_law 345 = .ok (.iadd, 1) := by decide +kernel
theorem dL_law_346 : decode cL_law 346 = .ok (.iaload, 1) := by decide +kernel
theorem dL_law_347 : decode cL_law 347 = .ok (.invokevirtual 49, 3) := by decide +kernel
theorem dL_law_350 : decode cL_law 350 = .ok (.aload_n 2, 1) := by decide +kernel
theorem dL_law_351 : decode cL_law 351 = .ok (.aload_n 0, 1) := by decide +kernel
theorem dL_law_352 : decode cL_law 352 = .ok (.iload_n 3, 1) := by decide +kernel
theorem dL_law_353 : decode cL_law 353 = .ok (.iconst 1, 1) := by decide +kernel
theorem dL_law_354 : decode cL_law 354 = .ok (.iadd, 1) := by decide +kernel
theorem dL_law_355 : decode cL_law 355 = .ok (.iaload, 1) := by decide +kernel
theorem dL_law_356 : decode cL_law 356 = .ok (.aload_n 0, 1) := by decide +kernel
theorem dL_law_357 : decode cL_law 357 = .ok (.iload_n 3, 1) := by decide +kernel
theorem dL_law_358 : decode cL_law 358 = .ok (.iconst 2, 1) := by decide +kernel
theorem dL_law_359 : decode cL_law 359 = .ok (.iadd, 1) := by decide +kernel
theorem dL_law_360 : decode cL_law 360 = .ok (.iaload, 1) := by decide +kernel
theorem dL_law_361 : decode cL_law 361 = .ok (.invokevirtual 52, 3) := by decide +kernel
theorem dL_law_364 : decode cL_law 364 = .ok (.if_icmp .eq 292, 3) := by decide +kernel
theorem dL_law_367 : decode cL_law 367 = .ok (.iconst 0, 1) := by decide +kernel
theorem dL_law_368 : decode cL_law 368 = .ok (.ireturn, 1) := by decide +kernel
theorem dL_law_369 : decode cL_law 369 = .ok (.aload_n 1, 1) := by decide +kernel
theorem dL_law_370 : decode cL_law 370 = .ok (.aload_n 0, 1) := by decide +kernel
theorem dL_law_371 : decode cL_law 371 = .ok (.iload_n 3, 1) := by decide +kernel
theorem dL_law_372 : decode cL_law 372 = .ok (.iconst 1, 1) := by decide +kernel
theorem dL_law_373 : decode cL_law 373 = .ok (.iadd, 1) := by decide +kernel
theorem dL_law_374 : decode cL_law 374 = .ok (.iaload, 1) := by decide +kernel
theorem dL_law_375 : decode cL_law 375 = .ok (.invokevirtual 53, 3) := by decide +kernel
theorem dL_law_378 : decode cL_law 378 = .ok (.aload_n 2, 1) := by decide +kernel
theorem dL_law_379 : decode cL_law 379 = .ok (.aload_n 0, 1) := by decide +kernel
theorem dL_law_380 : decode cL_law 380 = .ok (.iload_n 3, 1) := by decide +kernel
theorem dL_law_381 : decode cL_law 381 = .ok (.iconst 1, 1) := by decide +kernel
theorem dL_law_382 : decode cL_law 382 = .ok (.iadd, 1) := by decide +kernel
theorem dL_law_383 : decode cL_law 383 = .ok (.iaload, 1) := by decide +kernel
theorem dL_law_384 : decode cL_law 384 = .ok (.invokevirtual 56, 3) := by decide +kernel
theorem dL_law_387 : decode cL_law 387 = .ok (.if_icmp .eq 269, 3) := by decide +kernel
theorem dL_law_390 : decode cL_law 390 = .ok (.iconst 0, 1) := by decide +kernel
theorem dL_law_391 : decode cL_law 391 = .ok (.ireturn, 1) := by decide +kernel
theorem dL_law_392 : decode cL_law 392 = .ok (.aload_n 1, 1) := by decide +kernel
theorem dL_law_393 : decode cL_law 393 = .ok (.aload_n 0, 1) := by decide +kernel
theorem dL_law_394 : decode cL_law 394 = .ok (.iload_n 3, 1) := by decide +kernel
theorem dL_law_395 : decode cL_law 395 = .ok (.iconst 1, 1) := by decide +kernel
theorem dL_law_396 : decode cL_law 396 = .ok (.iadd, 1) := by decide +kernel
theorem dL_law_397 : decode cL_law 397 = .ok (.iaload, 1) := by decide +kernel
theorem dL_law_398 : decode cL_law 398 = .ok (.invokevirtual 57, 3) := by decide +kernel
theorem dL_law_401 : decode cL_law 401 = .ok (.aload_n 2, 1) := by decide +kernel
theorem dL_law_402 : decode cL_law 402 = .ok (.aload_n 0, 1) := by decide +kernel
theorem dL_law_403 : decode cL_law 403 = .ok (.iload_n 3, 1) := by decide +kernel
theorem dL_law_404 : decode cL_law 404 = .ok (.iconst 1, 1) := by decide +kernel
theorem dL_law_405 : decode cL_law 405 = .ok (.iadd, 1) := by decide +kernel
theorem dL_law_406 : decode cL_law 406 = .ok (.iaload, 1) := by decide +kernel
theorem dL_law_407 : decode cL_law 407 = .ok (.invokevirtual 60, 3) := by decide +kernel
theorem dL_law_410 : decode cL_law 410 = .ok (.if_icmp .eq 246, 3) := by decide +kernel
theorem dL_law_413 : decode cL_law 413 = .ok (.iconst 0, 1) := by decide +kernel
theorem dL_law_414 : decode cL_law 414 = .ok (.ireturn, 1) := by decide +kernel
theorem dL_law_415 : decode cL_law 415 = .ok (.aload_n 1, 1) := by decide +kernel
theorem dL_law_416 : decode cL_law 416 = .ok (.aload_n 0, 1) := by decide +kernel
theorem dL_law_417 : decode cL_law 417 = .ok (.iload_n 3, 1) := by decide +kernel
theorem dL_law_418 : decode cL_law 418 = .ok (.iconst 1, 1) := by decide +kernel
theorem dL_law_419 : decode cL_law 419 = .ok (.iadd, 1) := by decide +kernel
theorem dL_law_420 : decode cL_law 420 = .ok (.iaload, 1) := by decide +kernel
theorem dL_law_421 : decode cL_law 421 = .ok (.invokevirtual 61, 3) := by decide +kernel
theorem dL_law_424 : decode cL_law 424 = .ok (.aload_n 2, 1) := by decide +kernel
theorem dL_law_425 : decode cL_law 425 = .ok (.aload_n 0, 1) := by decide +kernel
theorem dL_law_426 : decode cL_law 426 = .ok (.iload_n 3, 1) := by decide +kernel
theorem dL_law_427 : decode cL_law 427 = .ok (.iconst 1, 1) := by decide +kernel
theorem dL_law_428 : decode cL_law 428 = .ok (.iadd, 1) := by decide +kernel
theorem dL_law_429 : decode cL_law 429 = .ok (.iaload, 1) := by decide +kernel
theorem dL_law_430 : decode cL_law 430 = .ok (.invokevirtual 64, 3) := by decide +kernel
theorem dL_law_433 : decode cL_law 433 = .ok (.if_icmp .eq 223, 3) := by decide +kernel
theorem dL_law_436 : decode cL_law 436 = .ok (.iconst 0, 1) := by decide +kernel
theorem dL_law_437 : decode cL_law 437 = .ok (.ireturn, 1) := by decide +kernel
theorem dL_law_438 : decode cL_law 438 = .ok (.aload_n 1, 1) := by decide +kernel
theorem dL_law_439 : decode cL_law 439 = .ok (.aload_n 0, 1) := by decide +kernel
theorem dL_law_440 : decode cL_law 440 = .ok (.iload_n 3, 1) := by decide +kernel
theorem dL_law_441 : decode cL_law 441 = .ok (.iconst 1, 1) := by decide +kernel
theorem dL_law_442 : decode cL_law 442 = .ok (.iadd, 1) := by decide +kernel
theorem dL_law_443 : decode cL_law 443 = .ok (.iaload, 1) := by decide +kernel
theorem dL_law_444 : decode cL_law 444 = .ok (.invokevirtual 65, 3) := by decide +kernel
theorem dL_law_447 : decode cL_law 447 = .ok (.aload_n 2, 1) := by decide +kernel
theorem dL_law_448 : decode cL_law 448 = .ok (.aload_n 0, 1) := by decide +kernel
theorem dL_law_449 : decode cL_law 449 = .ok (.iload_n 3, 1) := by decide +kernel
theorem dL_law_450 : decode cL_law 450 = .ok (.iconst 1, 1) := by decide +kernel
theorem dL_law_451 : decode cL_law 451 = .ok (.iadd, 1) := by decide +kernel
theorem dL_law_452 : decode cL_law 452 = .ok (.iaload, 1) := by decide +kernel
theorem dL_law_453 : decode cL_law 453 = .ok (.invokevirtual 68, 3) := by decide +kernel
theorem dL_law_456 : decode cL_law 456 = .ok (.if_icmp .eq 200, 3) := by decide +kernel
theorem dL_law_459 : decode cL_law 459 = .ok (.iconst 0, 1) := by decide +kernel
theorem dL_law_460 : decode cL_law 460 = .ok (.ireturn, 1) := by decide +kernel
theorem dL_law_461 : decode cL_law 461 = .ok (.aload_n 1, 1) := by decide +kernel
theorem dL_law_462 : decode cL_law 462 = .ok (.aload_n 0, 1) := by decide +kernel
theorem dL_law_463 : decode cL_law 463 = .ok (.iload_n 3, 1) := by decide +kernel
theorem dL_law_464 : decode cL_law 464 = .ok (.iconst 1, 1) := by decide +kernel
theorem dL_law_465 : decode cL_law 465 = .ok (.iadd, 1) := by decide +kernel
theorem dL_law_466 : decode cL_law 466 = .ok (.iaload, 1) := by decide +kernel
theorem dL_law_467 : decode cL_law 467 = .ok (.invokevirtual 69, 3) := by decide +kernel
theorem dL_law_470 : decode cL_law 470 = .ok (.aload_n 2, 1) := by decide +kernel
theorem dL_law_471 : decode cL_law 471 = .ok (.aload_n 0, 1) := by decide +kernel
theorem dL_law_472 : decode cL_law 472 = .ok (.iload_n 3, 1) := by decide +kernel
theorem dL_law_473 : decode cL_law 473 = .ok (.iconst 1, 1) := by decide +kernel
theorem dL_law_474 : decode cL_law 474 = .ok (.iadd, 1) := by decide +kernel
theorem dL_law_475 : decode cL_law 475 = .ok (.iaload, 1) := by decide +kernel
theorem dL_law_476 : decode cL_law 476 = .ok (.invokevirtual 72, 3) := by decide +kernel
theorem dL_law_479 : decode cL_law 479 = .ok (.if_icmp .eq 177, 3) := by decide +kernel
theorem dL_law_482 : decode cL_law 482 = .ok (.iconst 0, 1) := by decide +kernel
theorem dL_law_483 : decode cL_law 483 = .ok (.ireturn, 1) := by decide +kernel
theorem dL_law_484 : decode cL_law 484 = .ok (.aload_n 1, 1) := by decide +kernel
theorem dL_law_485 : decode cL_law 485 = .ok (.aload_n 0, 1) := by decide +kernel
theorem dL_law_486 : decode cL_law 486 = .ok (.iload_n 3, 1) := by decide +kernel
theorem dL_law_487 : decode cL_law 487 = .ok (.iconst 1, 1) := by decide +kernel
theorem dL_law_488 : decode cL_law 488 = .ok (.iadd, 1) := by decide +kernel
theorem dL_law_489 : decode cL_law 489 = .ok (.iaload, 1) := by decide +kernel
theorem dL_law_490 : decode cL_law 490 = .ok (.invokevirtual 73, 3) := by decide +kernel
theorem dL_law_493 : decode cL_law 493 = .ok (.aload_n 2, 1) := by decide +kernel
theorem dL_law_494 : decode cL_law 494 = .ok (.aload_n 0, 1) := by decide +kernel
theorem dL_law_495 : decode cL_law 495 = .ok (.iload_n 3, 1) := by decide +kernel
theorem dL_law_496 : decode cL_law 496 = .ok (.iconst 1, 1) := by decide +kernel
theorem dL_law_497 : decode cL_law 497 = .ok (.iadd, 1) := by decide +kernel
theorem dL_law_498 : decode cL_law 498 = .ok (.iaload, 1) := by decide +kernel
theorem dL_law_499 : decode cL_law 499 = .ok (.invokevirtual 76, 3) := by decide +kernel
theorem dL_law_502 : decode cL_law 502 = .ok (.if_icmp .eq 154, 3) := by decide +kernel
theorem dL_law_505 : decode cL_law 505 = .ok (.iconst 0, 1) := by decide +kernel
theorem dL_law_506 : decode cL_law 506 = .ok (.ireturn, 1) := by decide +kernel
theorem dL_law_507 : decode cL_law 507 = .ok (.aload_n 1, 1) := by decide +kernel
theorem dL_law_508 : decode cL_law 508 = .ok (.aload_n 0, 1) := by decide +kernel
theorem dL_law_509 : decode cL_law 509 = .ok (.iload_n 3, 1) := by decide +kernel
theorem dL_law_510 : decode cL_law 510 = .ok (.iconst 1, 1) := by decide +kernel
theorem dL_law_511 : decode cL_law 511 = .ok (.iadd, 1) := by decide +kernel
theorem dL_law_512 : decode cL_law 512 = .ok (.iaload, 1) := by decide +kernel
theorem dL_law_513 : decode cL_law 513 = .ok (.invokevirtual 77, 3) := by decide +kernel
theorem dL_law_516 : decode cL_law 516 = .ok (.aload_n 2, 1) := by decide +kernel
theorem dL_law_517 : decode cL_law 517 = .ok (.aload_n 0, 1) := by decide +kernel
theorem dL_law_518 : decode cL_law 518 = .ok (.iload_n 3, 1) := by decide +kernel
theorem dL_law_519 : decode cL_law 519 = .ok (.iconst 1, 1) := by decide +kernel
theorem dL_law_520 : decode cL_law 520 = .ok (.iadd, 1) := by decide +kernel
theorem dL_law_521 : decode cL_law 521 = .ok (.iaload, 1) := by decide +kernel
theorem dL_law_522 : decode cL_law 522 = .ok (.invokevirtual 81, 3) := by decide +kernel
theorem dL_law_525 : decode cL_law 525 = .ok (.lcmp, 1) := by decide +kernel
theorem dL_law_526 : decode cL_law 526 = .ok (.ifCond .eq 130, 3) := by decide +kernel
theorem dL_law_529 : decode cL_law 529 = .ok (.iconst 0, 1) := by decide +kernel
theorem dL_law_530 : decode cL_law 530 = .ok (.ireturn, 1) := by decide +kernel
theorem dL_law_531 : decode cL_law 531 = .ok (.aload_n 1, 1) := by decide +kernel
theorem dL_law_532 : decode cL_law 532 = .ok (.aload_n 0, 1) := by decide +kernel
theorem dL_law_533 : decode cL_law 533 = .ok (.iload_n 3, 1) := by decide +kernel
theorem dL_law_534 : decode cL_law 534 = .ok (.iconst 1, 1) := by decide +kernel
theorem dL_law_535 : decode cL_law 535 = .ok (.iadd, 1) := by decide +kernel
theorem dL_law_536 : decode cL_law 536 = .ok (.iaload, 1) := by decide +kernel
theorem dL_law_537 : decode cL_law 537 = .ok (.invokevirtual 82, 3) := by decide +kernel
theorem dL_law_540 : decode cL_law 540 = .ok (.aload_n 2, 1) := by decide +kernel
theorem dL_law_541 : decode cL_law 541 = .ok (.aload_n 0, 1) := by decide +kernel
theorem dL_law_542 : decode cL_law 542 = .ok (.iload_n 3, 1) := by decide +kernel
theorem dL_law_543 : decode cL_law 543 = .ok (.iconst 1, 1) := by decide +kernel
theorem dL_law_544 : decode cL_law 544 = .ok (.iadd, 1) := by decide +kernel
theorem dL_law_545 : decode cL_law 545 = .ok (.iaload, 1) := by decide +kernel
theorem dL_law_546 : decode cL_law 546 = .ok (.invokevirtual 85, 3) := by decide +kernel
theorem dL_law_549 : decode cL_law 549 = .ok (.if_icmp .eq 107, 3) := by decide +kernel
theorem dL_law_552 : decode cL_law 552 = .ok (.iconst 0, 1) := by decide +kernel
theorem dL_law_553 : decode cL_law 553 = .ok (.ireturn, 1) := by decide +kernel
theorem dL_law_554 : decode cL_law 554 = .ok (.aload_n 1, 1) := by decide +kernel
theorem dL_law_555 : decode cL_law 555 = .ok (.aload_n 0, 1) := by decide +kernel
theorem dL_law_556 : decode cL_law 556 = .ok (.iload_n 3, 1) := by decide +kernel
theorem dL_law_557 : decode cL_law 557 = .ok (.iconst 1, 1) := by decide +kernel
theorem dL_law_558 : decode cL_law 558 = .ok (.iadd, 1) := by decide +kernel
theorem dL_law_559 : decode cL_law 559 = .ok (.iaload, 1) := by decide +kernel
theorem dL_law_560 : decode cL_law 560 = .ok (.invokevirtual 86, 3) := by decide +kernel
theorem dL_law_563 : decode cL_law 563 = .ok (.aload_n 2, 1) := by decide +kernel
theorem dL_law_564 : decode cL_law 564 = .ok (.aload_n 0, 1) := by decide +kernel
theorem dL_law_565 : decode cL_law 565 = .ok (.iload_n 3, 1) := by decide +kernel
theorem dL_law_566 : decode cL_law 566 = .ok (.iconst 1, 1) := by decide +kernel
theorem dL_law_567 : decode cL_law 567 = .ok (.iadd, 1) := by decide +kernel
theorem dL_law_568 : decode cL_law 568 = .ok (.iaload, 1) := by decide +kernel
theorem dL_law_569 : decode cL_law 569 = .ok (.invokevirtual 89, 3) := by decide +kernel
theorem dL_law_572 : decode cL_law 572 = .ok (.if_icmp .eq 84, 3) := by decide +kernel
theorem dL_law_575 : decode cL_law 575 = .ok (.iconst 0, 1) := by decide +kernel
theorem dL_law_576 : decode cL_law 576 = .ok (.ireturn, 1) := by decide +kernel
theorem dL_law_577 : decode cL_law 577 = .ok (.aload_n 1, 1) := by decide +kernel
theorem dL_law_578 : decode cL_law 578 = .ok (.aload_n 0, 1) := by decide +kernel
theorem dL_law_579 : decode cL_law 579 = .ok (.iload_n 3, 1) := by decide +kernel
theorem dL_law_580 : decode cL_law 580 = .ok (.iconst 1, 1) := by decide +kernel
theorem dL_law_581 : decode cL_law 581 = .ok (.iadd, 1) := by decide +kernel
theorem dL_law_582 : decode cL_law 582 = .ok (.iaload, 1) := by decide +kernel
theorem dL_law_583 : decode cL_law 583 = .ok (.aload_n 0, 1) := by decide +kernel
theorem dL_law_584 : decode cL_law 584 = .ok (.iload_n 3, 1) := by decide +kernel
theorem dL_law_585 : decode cL_law 585 = .ok (.iconst 2, 1) := by decide +kernel
theorem dL_law_586 : decode cL_law 586 = .ok (.iadd, 1) := by decide +kernel
theorem dL_law_587 : decode cL_law 587 = .ok (.iaload, 1) := by decide +kernel
theorem dL_law_588 : decode cL_law 588 = .ok (.invokevirtual 90, 3) := by decide +kernel
theorem dL_law_591 : decode cL_law 591 = .ok (.aload_n 2, 1) := by decide +kernel
theorem dL_law_592 : decode cL_law 592 = .ok (.aload_n 0, 1) := by decide +kernel
theorem dL_law_593 : decode cL_law 593 = .ok (.iload_n 3, 1) := by decide +kernel
theorem dL_law_594 : decode cL_law 594 = .ok (.iconst 1, 1) := by decide +kernel
theorem dL_law_595 : decode cL_law 595 = .ok (.iadd, 1) := by decide +kernel
theorem dL_law_596 : decode cL_law 596 = .ok (.iaload, 1) := by decide +kernel
theorem dL_law_597 : decode cL_law 597 = .ok (.aload_n 0, 1) := by decide +kernel
theorem dL_law_598 : decode cL_law 598 = .ok (.iload_n 3, 1) := by decide +kernel
theorem dL_law_599 : decode cL_law 599 = .ok (.iconst 2, 1) := by decide +kernel
theorem dL_law_600 : decode cL_law 600 = .ok (.iadd, 1) := by decide +kernel
theorem dL_law_601 : decode cL_law 601 = .ok (.iaload, 1) := by decide +kernel
theorem dL_law_602 : decode cL_law 602 = .ok (.invokevirtual 93, 3) := by decide +kernel
theorem dL_law_605 : decode cL_law 605 = .ok (.if_icmp .eq 51, 3) := by decide +kernel
theorem dL_law_608 : decode cL_law 608 = .ok (.iconst 0, 1) := by decide +kernel
theorem dL_law_609 : decode cL_law 609 = .ok (.ireturn, 1) := by decide +kernel
theorem dL_law_610 : decode cL_law 610 = .ok (.aload_n 1, 1) := by decide +kernel
theorem dL_law_611 : decode cL_law 611 = .ok (.aload_n 0, 1) := by decide +kernel
theorem dL_law_612 : decode cL_law 612 = .ok (.iload_n 3, 1) := by decide +kernel
theorem dL_law_613 : decode cL_law 613 = .ok (.iconst 1, 1) := by decide +kernel
theorem dL_law_614 : decode cL_law 614 = .ok (.iadd, 1) := by decide +kernel
theorem dL_law_615 : decode cL_law 615 = .ok (.iaload, 1) := by decide +kernel
theorem dL_law_616 : decode cL_law 616 = .ok (.invokevirtual 94, 3) := by decide +kernel
theorem dL_law_619 : decode cL_law 619 = .ok (.aload_n 2, 1) := by decide +kernel
theorem dL_law_620 : decode cL_law 620 = .ok (.aload_n 0, 1) := by decide +kernel
theorem dL_law_621 : decode cL_law 621 = .ok (.iload_n 3, 1) := by decide +kernel
theorem dL_law_622 : decode cL_law 622 = .ok (.iconst 1, 1) := by decide +kernel
theorem dL_law_623 : decode cL_law 623 = .ok (.iadd, 1) := by decide +kernel
theorem dL_law_624 : decode cL_law 624 = .ok (.iaload, 1) := by decide +kernel
theorem dL_law_625 : decode cL_law 625 = .ok (.invokevirtual 97, 3) := by decide +kernel
theorem dL_law_628 : decode cL_law 628 = .ok (.if_icmp .eq 28, 3) := by decide +kernel
theorem dL_law_631 : decode cL_law 631 = .ok (.iconst 0, 1) := by decide +kernel
theorem dL_law_632 : decode cL_law 632 = .ok (.ireturn, 1) := by decide +kernel
theorem dL_law_633 : decode cL_law 633 = .ok (.aload_n 1, 1) := by decide +kernel
theorem dL_law_634 : decode cL_law 634 = .ok (.aload_n 0, 1) := by decide +kernel
theorem dL_law_635 : decode cL_law 635 = .ok (.iload_n 3, 1) := by decide +kernel
theorem dL_law_636 : decode cL_law 636 = .ok (.iconst 1, 1) := by decide +kernel
theorem dL_law_637 : decode cL_law 637 = .ok (.iadd, 1) := by decide +kernel
theorem dL_law_638 : decode cL_law 638 = .ok (.iaload, 1) := by decide +kernel
theorem dL_law_639 : decode cL_law 639 = .ok (.invokevirtual 98, 3) := by decide +kernel
theorem dL_law_642 : decode cL_law 642 = .ok (.aload_n 2, 1) := by decide +kernel
theorem dL_law_643 : decode cL_law 643 = .ok (.aload_n 0, 1) := by decide +kernel
theorem dL_law_644 : decode cL_law 644 = .ok (.iload_n 3, 1) := by decide +kernel
theorem dL_law_645 : decode cL_law 645 = .ok (.iconst 1, 1) := by decide +kernel
theorem dL_law_646 : decode cL_law 646 = .ok (.iadd, 1) := by decide +kernel
theorem dL_law_647 : decode cL_law 647 = .ok (.iaload, 1) := by decide +kernel
theorem dL_law_648 : decode cL_law 648 = .ok (.invokevirtual 101, 3) := by decide +kernel
theorem dL_law_651 : decode cL_law 651 = .ok (.if_icmp .eq 5, 3) := by decide +kernel
theorem dL_law_654 : decode cL_law 654 = .ok (.iconst 0, 1) := by decide +kernel
theorem dL_law_655 : decode cL_law 655 = .ok (.ireturn, 1) := by decide +kernel
theorem dL_law_656 : decode cL_law 656 = .ok (.iinc 3 5, 3) := by decide +kernel
theorem dL_law_659 : decode cL_law 659 = .ok (.goto (-641), 3) := by decide +kernel
theorem dL_law_662 : decode cL_law 662 = .ok (.iconst 1, 1) := by decide +kernel
theorem dL_law_663 : decode cL_law 663 = .ok (.ireturn, 1) := by decide +kernel
end
section
/-! THE BASE LAYER: worlds in groups, contracts whose answer and new world are told outright, calls in one row. -/
/-- the launch's constants: numbers of classes and slots, the classes of int[] and long[], the texts' addresses, the formatter's value -/
abbrev xE : Type := va_G × ClassId × ClassId × (Nat → Nat) × (Nat → Nat) × Value
def xD (E : xE) : va_G := E.1
def xI (E : xE) : ClassId := E.2.1
def xJ (E : xE) : ClassId := E.2.2.1
def xK (E : xE) : Nat → Nat := E.2.2.2.1
def xV (E : xE) : Nat → Nat := E.2.2.2.2.1
def xF (E : xE) : Value := E.2.2.2.2.2
abbrev xT (E : xE) : List (ClassId × FieldType) := [(xI E, .int), (xJ E, .long)]
def stL : List Nat := [5, 5, 5, 5, 4]
def stB : List (List Int32) := [[102, 105, 120, 101, 100], [115, 104, 97, 114, 101], [115, 112, 105, 107, 101], [100, 114, 105, 102, 116], [109, 101, 97, 110]]
def stI : List Nat := [244, 236, 238, 240, 242]
def stT : List String := ["fixed", "share", "spike", "drift", "mean"]
/-- what every method takes as given: the tables' numbers, the texts, two statics -/
def kE (E : xE) (A : Nat → Prop) (U : State) (H : Heap) : Prop :=
  va_K (xD E) vwCl (xT E) U ∧ vk_S 5 stL stB (xK E) (xV E) A U H ∧ (∀ i : Nat, i < 5 → vk_R RX8 (stI.getD i 0) (stT.getD i "") (xK E i) U) ∧ va_Z "java/lang/String" "COMPACT_STRINGS" "Z" (.int 1) A U H ∧ va_Z "jdk/internal/util/Preconditions" "SIOOBE_FORMATTER" "Ljava/util/function/BiFunction;" (xF E) A U H
theorem kE.kept {E : xE} {A : Nat → Prop} {U : State} {H H1 : Heap} (h : kE E A U H) (hq : ∀ a : Nat, a < H.size → ¬ A a → H1[a]? = H[a]?) : kE E A U H1 :=
  ⟨h.1, h.2.1.kept hq, h.2.2.1, h.2.2.2.1.kept hq, h.2.2.2.2.kept hq⟩
theorem kE.narrow {E : xE} {A B : Nat → Prop} {U : State} {H : Heap} (h : kE E A U H) (hq : ∀ q, B q → A q) : kE E B U H :=
  ⟨h.1, h.2.1.narrow hq, h.2.2.1, h.2.2.2.1.narrow hq, h.2.2.2.2.narrow hq⟩
theorem kE.warm {E : xE} {A : Nat → Prop} {s U : State} {H : Heap} (hW : s.WarmedH U.vm) (h : kE E A s H) : kE E A U H :=
  ⟨va_K.moved hW.alike h.1, vk_S.moved hW.alike h.2.1, fun i hi => vk_R.warm hW (h.2.2.1 i hi), va_Z.moved hW.alike h.2.2.2.1, va_Z.moved hW.alike h.2.2.2.2⟩
theorem kE.same {E : xE} {A : Nat → Prop} {u U : State} {H : Heap} (hv : U.vm = u.vm) (h : kE E A u H) : kE E A U H := by
  have ha : u.vm.Alike U.vm := by rw [hv]; exact Vm.Alike.refl _
  exact ⟨va_K.moved ha h.1, vk_S.moved ha h.2.1, fun i hi => vk_R.same hv (h.2.2.1 i hi), va_Z.moved ha h.2.2.2.1, va_Z.moved ha h.2.2.2.2⟩
/-- a contract's start and end -/
def kP (E : xE) (Gs : List va_W) (sz : Nat) : State → Prop := fun U => U.heap.size = sz ∧ va_P (xD E) vwCl Gs.flatten U.heap ∧ va_D (fun _ => True) Gs.flatten ∧ kE E (va_A Gs.flatten sz) U U.heap
def kQ (E : xE) (A : Nat → Prop) (Gs : List va_W) : State → Prop := fun t => va_P (xD E) vwCl Gs.flatten t.heap ∧ va_D A Gs.flatten
theorem kP_blind {E : xE} {Gs : List va_W} {sz : Nat} {av : List Value} : FrameBlind (va_Pc av (kP E Gs sz)) := by
  intro a U g mk h
  obtain ⟨h0, h1, h2, h3, h4⟩ := h
  exact ⟨h0, h1, h2, h3, kE.same (u := U) rfl h4⟩
def rm0 (f n : Nat) : Room := { frames := f, cells := 0, slots := 0, locals := n }
/-- the answer is an int, a long, a reference, nothing; no cell is made -/
def mI (l : Launch) (y : MethodName) (w : List Cond) (rm : Room) (E : xE) (as : List Value) (Gs : List va_W) (r : Int32) (Gs' : List va_W) : Prop :=
  ∀ sz : Nat, Met l y w rm (va_Pc as (kP E Gs sz)) (va_Qi (fun x (_ : Unit) => x = r) (fun _ => kQ E (va_A Gs.flatten sz) Gs') (va_A Gs.flatten sz)) 0 0 (va_A Gs.flatten sz)
def mL (l : Launch) (y : MethodName) (w : List Cond) (rm : Room) (E : xE) (as : List Value) (Gs : List va_W) (r : Int64) (Gs' : List va_W) : Prop :=
  ∀ sz : Nat, Met l y w rm (va_Pc as (kP E Gs sz)) (va_Ql (fun x (_ : Unit) => x = r) (fun _ => kQ E (va_A Gs.flatten sz) Gs') (va_A Gs.flatten sz)) 0 0 (va_A Gs.flatten sz)
def mV (l : Launch) (y : MethodName) (w : List Cond) (rm : Room) (E : xE) (as : List Value) (Gs : List va_W) (Gs' : List va_W) : Prop :=
  ∀ sz : Nat, Met l y w rm (va_Pc as (kP E Gs sz)) (va_Qv (fun (_ : Unit) => True) (fun _ => kQ E (va_A Gs.flatten sz) Gs') (va_A Gs.flatten sz)) 0 0 (va_A Gs.flatten sz)
def mR (l : Launch) (y : MethodName) (w : List Cond) (rm : Room) (E : xE) (as : List Value) (Gs : List va_W) (r : Nat) (Gs' : List va_W) : Prop :=
  ∀ sz : Nat, Met l y w rm (va_Pc as (kP E Gs sz)) (va_Qr (fun (_ : Unit) => True) (fun _ a t => a = r ∧ kQ E (va_A Gs.flatten sz) Gs' t) (va_A Gs.flatten sz)) 0 0 (va_A Gs.flatten sz)
/-- a constructor: its world behind it is one of a family (new addresses) -/
def mN (l : Launch) (y : MethodName) (w : List Cond) (rm : Room) (E : xE) (as : List Value) (Gs : List va_W) (mc ms : Nat) (F : (Nat → Nat) → List va_W) : Prop :=
  ∀ sz : Nat, Met l y w rm (va_Pc as (kP E Gs sz)) (va_Qv (fun (_ : Nat → Nat) => True) (fun ad => kQ E (va_A Gs.flatten sz) (F ad)) (va_A Gs.flatten sz)) mc ms (va_A Gs.flatten sz)
/-- the memory in the midst of a method -/
def gM (E : xE) (A : Nat → Prop) (H0 : Heap) (Gs : List va_W) (H : Heap) (locs : List Loc) : Prop :=
  va_P (xD E) vwCl Gs.flatten H ∧ va_D A Gs.flatten ∧ va_S A H0 H locs ∧ ∀ q, H0.size ≤ q → A q
theorem va_P_iff {D : va_G} {cl : List vw_C} {ws : va_W} {H : Heap} : va_P D cl ws H ↔ ∀ q ∈ ws, va_at D cl q H :=
  ⟨fun h q hq => by obtain ⟨k, hk⟩ := List.mem_iff_getElem?.mp hq; exact h k q hk, fun h _ q hk => h q (List.mem_of_getElem? hk)⟩
theorem va_D_nd {A : Nat → Prop} {ws : va_W} : va_D A ws ↔ (ws.map Prod.fst).Nodup ∧ ∀ q ∈ ws, A q.1 := by
  constructor
  · intro h
    refine ⟨?_, fun q hq => by obtain ⟨k, hk⟩ := List.mem_iff_getElem?.mp hq; exact h.2 k q hk⟩
    rw [List.nodup_iff_pairwise_ne, List.pairwise_iff_getElem]
    intro i j hi hj hij he
    rw [List.length_map] at hi hj
    rw [List.getElem_map, List.getElem_map] at he
    have := h.1 i j _ _ (List.getElem?_eq_getElem hi) (List.getElem?_eq_getElem hj) he
    omega
  · intro h
    refine ⟨?_, fun k q hk => h.2 q (List.mem_of_getElem? hk)⟩
    intro i j p q hi hj he
    have h1 := h.1
    rw [List.nodup_iff_pairwise_ne, List.pairwise_iff_getElem] at h1
    obtain ⟨li, ei⟩ := List.getElem?_eq_some_iff.mp hi
    obtain ⟨lj, ej⟩ := List.getElem?_eq_some_iff.mp hj
    rcases Nat.lt_trichotomy i j with h2 | h2 | h2
    · exact absurd (by rw [List.getElem_map, List.getElem_map, ei, ej]; exact he) (h1 i j (by rw [List.length_map]; exact li) (by rw [List.length_map]; exact lj) h2)
    · exact h2
    · exact absurd (by rw [List.getElem_map, List.getElem_map, ei, ej]; exact he.symm) (h1 j i (by rw [List.length_map]; exact lj) (by rw [List.length_map]; exact li) h2)
theorem va_A_iff {ws : va_W} {sz q : Nat} : va_A ws sz q ↔ (∃ x ∈ ws, x.1 = q) ∨ sz ≤ q := by
  constructor
  · rintro (⟨k, e, h⟩ | h)
    · exact Or.inl ⟨_, List.mem_of_getElem? h, rfl⟩
    · exact Or.inr h
  · rintro (⟨x, hx, e⟩ | h)
    · obtain ⟨k, hk⟩ := List.mem_iff_getElem?.mp hx
      exact Or.inl ⟨k, x.2, by rw [hk, ← e]⟩
    · exact Or.inr h
/-- the callee's groups out of the caller's -/
theorem gM.cut {E : xE} {A : Nat → Prop} {H0 H : Heap} {locs : List Loc} {Gs L Mid R Gc : List va_W} (M : gM E A H0 Gs H locs) (hG : Gs = L ++ (Mid ++ R)) (hm : Mid.flatten = Gc.flatten) :
    va_P (xD E) vwCl Gc.flatten H ∧ va_D (fun _ => True) Gc.flatten ∧ ∀ q, va_A Gc.flatten H.size q → A q := by
  obtain ⟨hP, hD, hS, hA⟩ := M
  subst hG
  rw [List.flatten_append, List.flatten_append, hm] at hP hD
  rw [va_P_iff] at hP
  rw [va_D_nd, List.map_append, List.map_append] at hD
  refine ⟨va_P_iff.mpr fun q hq => hP q (List.mem_append_right _ (List.mem_append_left _ hq)), va_D_nd.mpr ⟨(List.nodup_append.mp (List.nodup_append.mp hD.1).2.1).1, fun _ _ => trivial⟩, fun q hq => ?_⟩
  rcases va_A_iff.mp hq with ⟨x, hx, e⟩ | h
  · rw [← e]; exact hD.2 x (List.mem_append_right _ (List.mem_append_left _ hx))
  · exact hA q (Nat.le_trans hS.1 h)
/-- behind a call: the callee's new groups in the place of its old ones -/
theorem gM.join {E : xE} {A : Nat → Prop} {H0 H H1 : Heap} {locs locs1 : List Loc} {Gs L Mid R Gc Mid' Gc' : List va_W} (M : gM E A H0 Gs H locs) (hG : Gs = L ++ (Mid ++ R)) (hm : Mid.flatten = Gc.flatten) (hm' : Mid'.flatten = Gc'.flatten)
    (hk : ∀ q : Nat, q < H.size → ¬ va_A Gc.flatten H.size q → H1[q]? = H[q]?) (hP1 : va_P (xD E) vwCl Gc'.flatten H1) (hD1 : va_D (va_A Gc.flatten H.size) Gc'.flatten) (hS1 : va_S A H0 H1 locs1) : gM E A H0 (L ++ (Mid' ++ R)) H1 locs1 := by
  obtain ⟨-, -, hF⟩ := M.cut hG hm
  obtain ⟨hP, hD, hS, hA⟩ := M
  subst hG
  rw [List.flatten_append, List.flatten_append, hm] at hP hD
  rw [va_P_iff] at hP hP1
  rw [va_D_nd, List.map_append, List.map_append] at hD
  rw [va_D_nd] at hD1
  obtain ⟨hN, hIn⟩ := hD
  obtain ⟨nL, nMR, dLMR⟩ := List.nodup_append.mp hN
  obtain ⟨nM, nR, dMR⟩ := List.nodup_append.mp nMR
  have keepL : ∀ q ∈ L.flatten, q.1 < H.size ∧ ¬ va_A Gc.flatten H.size q.1 := by
    intro q hq
    have hl := (hP q (List.mem_append_left _ hq)).lt
    refine ⟨hl, fun h => ?_⟩
    rcases va_A_iff.mp h with ⟨x, hx, e⟩ | h
    · exact dLMR q.1 (List.mem_map_of_mem hq) x.1 (List.mem_append_left _ (List.mem_map_of_mem hx)) e.symm
    · omega
  have keepR : ∀ q ∈ R.flatten, q.1 < H.size ∧ ¬ va_A Gc.flatten H.size q.1 := by
    intro q hq
    have hl := (hP q (List.mem_append_right _ (List.mem_append_right _ hq))).lt
    refine ⟨hl, fun h => ?_⟩
    rcases va_A_iff.mp h with ⟨x, hx, e⟩ | h
    · exact dMR x.1 (List.mem_map_of_mem hx) q.1 (List.mem_map_of_mem hq) e
    · omega
  refine ⟨?_, ?_, hS1, hA⟩
  · rw [List.flatten_append, List.flatten_append, hm', va_P_iff]
    intro q hq
    rcases List.mem_append.mp hq with h | h
    · obtain ⟨g1, g2⟩ := keepL q h
      exact (hP q (List.mem_append_left _ h)).kept (hk q.1 g1 g2)
    · rcases List.mem_append.mp h with h | h
      · exact hP1 q h
      · obtain ⟨g1, g2⟩ := keepR q h
        exact (hP q (List.mem_append_right _ (List.mem_append_right _ h))).kept (hk q.1 g1 g2)
  · rw [List.flatten_append, List.flatten_append, hm', va_D_nd, List.map_append, List.map_append]
    refine ⟨List.nodup_append.mpr ⟨nL, List.nodup_append.mpr ⟨hD1.1, nR, ?_⟩, ?_⟩, ?_⟩
    · intro a ha b hb e
      obtain ⟨x, hx, ex⟩ := List.mem_map.mp ha
      obtain ⟨y, hy, ey⟩ := List.mem_map.mp hb
      have := hD1.2 x hx
      rw [ex, e, ← ey] at this
      exact (keepR y hy).2 this
    · intro a ha b hb e
      obtain ⟨x, hx, ex⟩ := List.mem_map.mp ha
      rcases List.mem_append.mp hb with h | h
      · obtain ⟨y, hy, ey⟩ := List.mem_map.mp h
        have := hD1.2 y hy
        rw [ey, ← e, ← ex] at this
        exact (keepL x hx).2 this
      · exact dLMR a ha b (List.mem_append_right _ h) e
    · intro q hq
      rcases List.mem_append.mp hq with h | h
      · exact hIn q (List.mem_append_left _ h)
      · rcases List.mem_append.mp h with h | h
        · exact hF _ (hD1.2 q h)
        · exact hIn q (List.mem_append_right _ (List.mem_append_right _ h))
/-- what a callee takes as given, out of what the caller has -/
theorem gM.pre {E : xE} {A : Nat → Prop} {s : State} {H : Heap} {locs : List Loc} {Gs L Mid R Gc : List va_W} (hE : kE E A s s.heap) (M : gM E A s.heap Gs H locs) (hG : Gs = L ++ (Mid ++ R)) (hm : Mid.flatten = Gc.flatten) {U : State} (hU : U.heap = H) (hW : s.WarmedH U.vm) : kP E Gc H.size U := by
  obtain ⟨h1, h2, h3⟩ := M.cut hG hm
  refine ⟨by rw [hU], by rw [hU]; exact h1, h2, ?_⟩
  rw [hU]
  exact kE.warm hW ((hE.kept M.2.2.1.2.1).narrow h3)
theorem gM.preS {E : xE} {A : Nat → Prop} {s : State} {H : Heap} {locs : List Loc} {Gs L Mid R Gc : List va_W} (hE : kE E A s s.heap) (M : gM E A s.heap Gs H locs) (hG : Gs = L ++ (Mid ++ R)) (hm : Mid.flatten = Gc.flatten) {As : List Value} : PreS s H (va_Pc As (kP E Gc H.size)) As :=
  ⟨kP_blind, fun _ hU hW => ⟨rfl, gM.pre hE M hG hm hU hW⟩⟩
theorem gM.preV {E : xE} {A : Nat → Prop} {s : State} {H : Heap} {locs : List Loc} {Gs L Mid R Gc : List va_W} (hE : kE E A s s.heap) (M : gM E A s.heap Gs H locs) (hG : Gs = L ++ (Mid ++ R)) (hm : Mid.flatten = Gc.flatten) {As : List Value} {b ci : Nat} {q : vw_C} {fs : List Value} (hc : vwCl[ci]? = some q) (he : Gc.flatten[0]? = some (b, .inr (ci, fs))) : PreV s H q.1 b (va_Pc (.ref b :: As) (kP E Gc H.size)) As :=
  ⟨kP_blind, va_recv hE.1 (M.cut hG hm).1 hc he, fun _ hU hW => ⟨rfl, gM.pre hE M hG hm hU hW⟩⟩
section GC
variable {p : Program} {l : Launch} {e : Env} {R : Room} {s : State} {m : MethodId} {args : Array Value} {below : List Frame} {meth : Method} {c : Code} {H : Heap} {locs : List Loc} {cells slots : Nat} {Q : State → Prop}
variable {pc : Nat} {ls : Array Slot} {rest st0 : List Value} {a : Array Value} {A : Nat → Prop} {mc ms : Nat} {E : xE} {Gs L Mid Rr Gc Mid' Gc' : List va_W}
theorem gcalli {r : Int32} (M : gM E A s.heap Gs H locs) (hG : Gs = L ++ (Mid ++ Rr)) (hm : Mid.flatten = Gc.flatten) (hm' : Mid'.flatten = Gc'.flatten)
    (hr : va_Run p l e R s m args below meth c H locs cells slots mc ms (F0 m pc ls st0) rest (va_Qi (fun x (_ : Unit) => x = r) (fun _ => kQ E (va_A Gc.flatten H.size) Gc') (va_A Gc.flatten H.size) a) (va_A Gc.flatten H.size))
    (kk : ∀ (H1 : Heap) (locs1 : List Loc), gM E A s.heap (L ++ (Mid' ++ Rr)) H1 locs1 → W p l e R s m args below meth c H1 locs1 (cells + mc) (slots + ms) Q (F0 m (pc + 3) ls (.int r :: rest))) : W p l e R s m args below meth c H locs cells slots Q (F0 m pc ls st0) := by
  have hF := (M.cut hG hm).2.2
  refine va_calli hr M.2.2.1 (fun q _ h => hF q h) hF (fun x u t H1 locs1 ht hvm hw hB hz1 hk1 hS => ?_)
  subst hw
  exact kk H1 locs1 (M.join hG hm hm' hk1 (by rw [← ht]; exact hB.1) hB.2 hS)
theorem gcalll {r : Int64} (M : gM E A s.heap Gs H locs) (hG : Gs = L ++ (Mid ++ Rr)) (hm : Mid.flatten = Gc.flatten) (hm' : Mid'.flatten = Gc'.flatten)
    (hr : va_Run p l e R s m args below meth c H locs cells slots mc ms (F0 m pc ls st0) rest (va_Ql (fun x (_ : Unit) => x = r) (fun _ => kQ E (va_A Gc.flatten H.size) Gc') (va_A Gc.flatten H.size) a) (va_A Gc.flatten H.size))
    (kk : ∀ (H1 : Heap) (locs1 : List Loc), gM E A s.heap (L ++ (Mid' ++ Rr)) H1 locs1 → W p l e R s m args below meth c H1 locs1 (cells + mc) (slots + ms) Q (F0 m (pc + 3) ls (.long r :: rest))) : W p l e R s m args below meth c H locs cells slots Q (F0 m pc ls st0) := by
  have hF := (M.cut hG hm).2.2
  refine va_calll hr M.2.2.1 (fun q _ h => hF q h) hF (fun x u t H1 locs1 ht hvm hw hB hz1 hk1 hS => ?_)
  subst hw
  exact kk H1 locs1 (M.join hG hm hm' hk1 (by rw [← ht]; exact hB.1) hB.2 hS)
theorem gcallv (M : gM E A s.heap Gs H locs) (hG : Gs = L ++ (Mid ++ Rr)) (hm : Mid.flatten = Gc.flatten) (hm' : Mid'.flatten = Gc'.flatten)
    (hr : va_Run p l e R s m args below meth c H locs cells slots mc ms (F0 m pc ls st0) rest (va_Qv (fun (_ : Unit) => True) (fun _ => kQ E (va_A Gc.flatten H.size) Gc') (va_A Gc.flatten H.size) a) (va_A Gc.flatten H.size))
    (kk : ∀ (H1 : Heap) (locs1 : List Loc), gM E A s.heap (L ++ (Mid' ++ Rr)) H1 locs1 → W p l e R s m args below meth c H1 locs1 (cells + mc) (slots + ms) Q (F0 m (pc + 3) ls rest)) : W p l e R s m args below meth c H locs cells slots Q (F0 m pc ls st0) := by
  have hF := (M.cut hG hm).2.2
  refine va_callv hr M.2.2.1 (fun q _ h => hF q h) hF (fun u t H1 locs1 ht hvm hw hB hz1 hk1 hS => ?_)
  exact kk H1 locs1 (M.join hG hm hm' hk1 (by rw [← ht]; exact hB.1) hB.2 hS)
theorem gcallr {r : Nat} (M : gM E A s.heap Gs H locs) (hG : Gs = L ++ (Mid ++ Rr)) (hm : Mid.flatten = Gc.flatten) (hm' : Mid'.flatten = Gc'.flatten)
    (hr : va_Run p l e R s m args below meth c H locs cells slots mc ms (F0 m pc ls st0) rest (va_Qr (fun (_ : Unit) => True) (fun _ a t => a = r ∧ kQ E (va_A Gc.flatten H.size) Gc' t) (va_A Gc.flatten H.size) a) (va_A Gc.flatten H.size))
    (kk : ∀ (H1 : Heap) (locs1 : List Loc), gM E A s.heap (L ++ (Mid' ++ Rr)) H1 locs1 → W p l e R s m args below meth c H1 locs1 (cells + mc) (slots + ms) Q (F0 m (pc + 3) ls (.ref r :: rest))) : W p l e R s m args below meth c H locs cells slots Q (F0 m pc ls st0) := by
  have hF := (M.cut hG hm).2.2
  refine va_callr hr M.2.2.1 (fun q _ h => hF q h) hF (fun u ra t H1 locs1 ht hvm hw hB hz1 hk1 hS => ?_)
  obtain ⟨he, hB⟩ := hB
  subst he
  exact kk H1 locs1 (M.join hG hm hm' hk1 (by rw [← ht]; exact hB.1) hB.2 hS)
theorem gcalln {F : (Nat → Nat) → List va_W} {FM : (Nat → Nat) → List va_W} (M : gM E A s.heap Gs H locs) (hG : Gs = L ++ (Mid ++ Rr)) (hm : Mid.flatten = Gc.flatten) (hm' : ∀ ad, (FM ad).flatten = (F ad).flatten)
    (hr : va_Run p l e R s m args below meth c H locs cells slots mc ms (F0 m pc ls st0) rest (va_Qv (fun (_ : Nat → Nat) => True) (fun ad => kQ E (va_A Gc.flatten H.size) (F ad)) (va_A Gc.flatten H.size) a) (va_A Gc.flatten H.size))
    (kk : ∀ (ad : Nat → Nat) (H1 : Heap) (locs1 : List Loc), gM E A s.heap (L ++ (FM ad ++ Rr)) H1 locs1 → W p l e R s m args below meth c H1 locs1 (cells + mc) (slots + ms) Q (F0 m (pc + 3) ls rest)) : W p l e R s m args below meth c H locs cells slots Q (F0 m pc ls st0) := by
  have hF := (M.cut hG hm).2.2
  refine va_callv hr M.2.2.1 (fun q _ h => hF q h) hF (fun u t H1 locs1 ht hvm hw hB hz1 hk1 hS => ?_)
  exact kk u H1 locs1 (M.join hG hm (hm' u) hk1 (by rw [← ht]; exact hB.1) hB.2 hS)
end GC
section GF
variable {p : Program} {l : Launch} {e : Env} {R : Room} {s : State} {m : MethodId} {args : Array Value} {below : List Frame} {meth : Method} {c : Code} {H : Heap} {locs : List Loc} {cells slots : Nat} {Q : State → Prop}
variable {cc : ByteArray} {nL pc : Nat} {ls : Array Slot} {rest : List Value} {A : Nat → Prop} {a : Nat} {E : xE} {Gs Gs' : List va_W} {H0 : Heap} {own : String} {Ts : List Cond}
theorem gget (S : CallFix p m c cc nL s args Ts own) (hE : kE E A s s.heap) (M : gM E A H0 Gs H locs) {C : String} {T : u_T} {N ci index : Nat} (hin : ∀ w ∈ u_ws C T N, w ∈ Ts) (q0 : Nat) {fs : List Value} (he : Gs.flatten[q0]? = some (a, .inr (ci, fs))) (hc : vwCl[ci]? = some (C, T, N)) (k : Nat) (hk : k < N) (hlink : Cond.fieldLink own index (T k).1 (T k).2.1 (T k).2.2.1 ∈ Ts) {v : Value} (hv : fs[k]? = some v) (hdg : decode cc pc = .ok (.getfield index, 3))
    (kk : W p l e R s m args below meth c H locs cells slots Q (F0 m (pc + 3) ls (v :: rest))) : W p l e R s m args below meth c H locs cells slots Q (F0 m pc ls (.ref a :: rest)) :=
  va_get S.1 S.2.1 S.2.2.2.2 hin S.2.2.2.1 hE.1 M.1 q0 he hc k hk (S.2.2.2.2 _ hlink) (fun _ h => h) hv hdg kk
theorem gput (S : CallFix p m c cc nL s args Ts own) (hE : kE E A s s.heap) (M : gM E A H0 Gs H locs) {C : String} {T : u_T} {N ci index : Nat} (hin : ∀ w ∈ u_ws C T N, w ∈ Ts) (ty0 : Nat → FieldType) (hty : ∀ k, k < N → parseFieldDescriptor (T k).2.2.1 = some (ty0 k)) (hnm : ∀ a, a < N → ∀ b, b < N → a ≠ b → (T a).2.1 ≠ (T b).2.1) (q0 : Nat) {fs : List Value} (he : Gs.flatten[q0]? = some (a, .inr (ci, fs))) (hc : vwCl[ci]? = some (C, T, N)) (k : Nat) (hk : k < N) (hlink : Cond.fieldLink own index (T k).1 (T k).2.1 (T k).2.2.1 ∈ Ts) (hfin : (T k).2.2.2 = false) {v : Value} (hn : narrow (ty0 k) v = v) (hfit : fits (ty0 k) v = true) (hl : k < fs.length) (hG : Gs.flatten.set q0 (a, .inr (ci, fs.set k v)) = Gs'.flatten) (hdg : decode cc pc = .ok (.putfield index, 3))
    (kk : ∀ (H1 : Heap) (locs1 : List Loc), gM E A H0 Gs' H1 locs1 → W p l e R s m args below meth c H1 locs1 cells slots Q (F0 m (pc + 3) ls rest)) : W p l e R s m args below meth c H locs cells slots Q (F0 m pc ls (v :: .ref a :: rest)) :=
  va_put S.1 S.2.1 S.2.2.2.2 hin ty0 hty hnm S.2.2.2.1 hE.1 M.1 M.2.1 M.2.2.1 q0 he hc k hk (S.2.2.2.2 _ hlink) (fun _ h => h) hfin (hty k hk) hn hfit hl hdg (fun H1 locs1 h1 h2 h3 => kk H1 locs1 ⟨hG ▸ h1, hG ▸ h2, h3, M.2.2.2⟩)
theorem gputF (S : CallFix p m c cc nL s args Ts own) (hE : kE E A s s.heap) (M : gM E A H0 Gs H locs) {C : String} {T : u_T} {N ci index : Nat} (hin : ∀ w ∈ u_ws C T N, w ∈ Ts) (ty0 : Nat → FieldType) (hty : ∀ k, k < N → parseFieldDescriptor (T k).2.2.1 = some (ty0 k)) (hnm : ∀ a, a < N → ∀ b, b < N → a ≠ b → (T a).2.1 ≠ (T b).2.1) (q0 : Nat) {fs : List Value} (he : Gs.flatten[q0]? = some (a, .inr (ci, fs))) (hc : vwCl[ci]? = some (C, T, N)) (k : Nat) (hk : k < N) (hlink : Cond.fieldLink own index (T k).1 (T k).2.1 (T k).2.2.1 ∈ Ts) (hfin : (T k).2.2.2 = true) (hin2 : meth.name = "<init>") (hdecl : (T k).1 = own) {v : Value} (hn : narrow (ty0 k) v = v) (hfit : fits (ty0 k) v = true) (hl : k < fs.length) (hG : Gs.flatten.set q0 (a, .inr (ci, fs.set k v)) = Gs'.flatten) (hdg : decode cc pc = .ok (.putfield index, 3))
    (kk : ∀ (H1 : Heap) (locs1 : List Loc), gM E A H0 Gs' H1 locs1 → W p l e R s m args below meth c H1 locs1 cells slots Q (F0 m (pc + 3) ls rest)) : W p l e R s m args below meth c H locs cells slots Q (F0 m pc ls (v :: .ref a :: rest)) :=
  va_putF S.1 S.2.1 S.2.2.2.2 hin ty0 hty hnm S.2.2.2.1 hE.1 M.1 M.2.1 M.2.2.1 q0 he hc k hk (S.2.2.2.2 _ hlink) (fun _ h => h) hfin hin2 hdecl (hty k hk) hn hfit hl hdg (fun H1 locs1 h1 h2 h3 => kk H1 locs1 ⟨hG ▸ h1, hG ▸ h2, h3, M.2.2.2⟩)
theorem giald (S : CallFix p m c cc nL s args Ts own) (hE : kE E A s s.heap) (M : gM E A H0 Gs H locs) (q0 : Nat) {n : Nat} {f : Nat → Int32} (he : Gs.flatten[q0]? = some (a, .inl (xI E, n, .inl f))) {i : Int32} (hin : vp_in i n) (hdg : decode cc pc = .ok (.iaload, 1))
    (kk : W p l e R s m args below meth c H locs cells slots Q (F0 m (pc + 1) ls (.int (f i.toNatClampNeg) :: rest))) : W p l e R s m args below meth c H locs cells slots Q (F0 m pc ls (.int i :: .ref a :: rest)) :=
  va_iald S.1 S.2.1 hE.1 M.1 q0 0 he rfl hin hdg kk
theorem glald (S : CallFix p m c cc nL s args Ts own) (hE : kE E A s s.heap) (M : gM E A H0 Gs H locs) (q0 : Nat) {n : Nat} {f : Nat → Int64} (he : Gs.flatten[q0]? = some (a, .inl (xJ E, n, .inr (.inl f)))) {i : Int32} (hin : vp_in i n) (hdg : decode cc pc = .ok (.laload, 1))
    (kk : W p l e R s m args below meth c H locs cells slots Q (F0 m (pc + 1) ls (.long (f i.toNatClampNeg) :: rest))) : W p l e R s m args below meth c H locs cells slots Q (F0 m pc ls (.int i :: .ref a :: rest)) :=
  va_lald S.1 S.2.1 hE.1 M.1 q0 1 he rfl hin hdg kk
theorem giast (S : CallFix p m c cc nL s args Ts own) (hE : kE E A s s.heap) (M : gM E A H0 Gs H locs) (q0 : Nat) {n : Nat} {f : Nat → Int32} (he : Gs.flatten[q0]? = some (a, .inl (xI E, n, .inl f))) {i x : Int32} (hin : vp_in i n) (hG : Gs.flatten.set q0 (a, .inl (xI E, n, .inl (upd f i.toNatClampNeg x))) = Gs'.flatten) (hdg : decode cc pc = .ok (.iastore, 1))
    (kk : ∀ (H1 : Heap) (locs1 : List Loc), gM E A H0 Gs' H1 locs1 → W p l e R s m args below meth c H1 locs1 cells slots Q (F0 m (pc + 1) ls rest)) : W p l e R s m args below meth c H locs cells slots Q (F0 m pc ls (.int x :: .int i :: .ref a :: rest)) :=
  va_iast S.1 S.2.1 hE.1 M.1 M.2.1 M.2.2.1 q0 0 he rfl hin hdg (fun H1 locs1 h1 h2 h3 => kk H1 locs1 ⟨hG ▸ h1, hG ▸ h2, h3, M.2.2.2⟩)
theorem glast (S : CallFix p m c cc nL s args Ts own) (hE : kE E A s s.heap) (M : gM E A H0 Gs H locs) (q0 : Nat) {n : Nat} {f : Nat → Int64} (he : Gs.flatten[q0]? = some (a, .inl (xJ E, n, .inr (.inl f)))) {i : Int32} {x : Int64} (hin : vp_in i n) (hG : Gs.flatten.set q0 (a, .inl (xJ E, n, .inr (.inl (vp_updL f i.toNatClampNeg x)))) = Gs'.flatten) (hdg : decode cc pc = .ok (.lastore, 1))
    (kk : ∀ (H1 : Heap) (locs1 : List Loc), gM E A H0 Gs' H1 locs1 → W p l e R s m args below meth c H1 locs1 cells slots Q (F0 m (pc + 1) ls rest)) : W p l e R s m args below meth c H locs cells slots Q (F0 m pc ls (.long x :: .int i :: .ref a :: rest)) :=
  va_last S.1 S.2.1 hE.1 M.1 M.2.1 M.2.2.1 q0 1 he rfl hin hdg (fun H1 locs1 h1 h2 h3 => kk H1 locs1 ⟨hG ▸ h1, hG ▸ h2, h3, M.2.2.2⟩)
theorem galen (S : CallFix p m c cc nL s args Ts own) (hE : kE E A s s.heap) (M : gM E A H0 Gs H locs) (q0 : Nat) {n : Nat} {f : Nat → Int32} (he : Gs.flatten[q0]? = some (a, .inl (xI E, n, .inl f))) (hdg : decode cc pc = .ok (.arraylength, 1))
    (kk : W p l e R s m args below meth c H locs cells slots Q (F0 m (pc + 1) ls (.int (nI n) :: rest))) : W p l e R s m args below meth c H locs cells slots Q (F0 m pc ls (.ref a :: rest)) :=
  va_alen S.1 S.2.1 hE.1 M.1 q0 0 he rfl rfl hdg kk
end GF
section GE
variable {p : Program} {l : Launch} {e : Env} {s : State} {m : MethodId} {args : Array Value} {below : List Frame} {meth : Method} {c : Code} {R : Room}
/-- a method's entry -/
theorem genter {y : MethodName} {w : List Cond} {rm : Room} {cc : ByteArray} {maxL : Nat} {ret : Option FieldType} {s₁ : State} {E : xE} {as : List Value} {Gs : List va_W} {sz : Nat} (B : BodyLoose p l y (headSpec w rm) cc maxL ret e s m args below meth c s₁) (hml : c.maxLocals = maxL) (hv : va_Pc as (kP E Gs sz) args s) :
    args = as.toArray ∧ CallFix p m c cc maxL s args w y.cls ∧ meth.sig.returnType = ret ∧ meth.locks = false ∧ meth.name = y.name ∧ ∃ A : Nat → Prop, va_A Gs.flatten sz = A ∧ kE E A s s.heap ∧ gM E A s.heap Gs s.heap [] := by
  obtain ⟨h0, h1, h2, h3, h4⟩ := hv
  refine ⟨h0, ⟨B.exec, B.bytes, hml, findClass_of_methodNamed B.named, atoms_spec (ws := w) B.pre⟩, B.returns, B.notSynchronized, (name_of_methodNamed B.named B.method).1, _, rfl, h4, h2, ?_, va_S.rf, fun q h => Or.inr (by rw [← h1]; exact h)⟩
  subst h1
  exact h3.self
theorem gst {as : List Value} {n : Nat} (h : (lg_sl as).length ≤ n) : ∃ ls : Array Slot, entryFrame m as.toArray n = F0 m 0 ls [] ∧ lv_has ls n (lv_args 0 as) :=
  ⟨_, by rw [lg_entry_eq], lv_entry as h⟩
variable {H : Heap} {locs : List Loc} {E : xE} {A : Nat → Prop} {Gs Gs' : List va_W} {cc : ByteArray} {nL pc sz : Nat} {Ts : List Cond} {own : String} {ls : Array Slot}
theorem giret (S : CallFix p m c cc nL s args Ts own) (hr : meth.sig.returnType = some .int) (hlocks : meth.locks = false) (M : gM E A s.heap Gs H locs) {v r : Int32} (hv : v = r) (hG : Gs.flatten = Gs'.flatten) (hdg : decode cc pc = .ok (.ireturn, 1)) :
    W p l e R s m args below meth c H locs 0 0 (MQ below (va_Qi (fun x (_ : Unit) => x = r) (fun _ => kQ E A Gs') A) args s 0 0 A) (F0 m pc ls [.int v]) :=
  W.iret S.1 S.2.1 hr (fun t ht _ => ⟨⟨v, (), rfl, hv, by rw [← hG, ht]; exact M.1, by rw [← hG]; exact M.2.1⟩, M.2.2.1.F ht⟩) M.2.2.1.2.2 hdg hlocks
theorem gzret {ty : FieldType} (S : CallFix p m c cc nL s args Ts own) (hr : meth.sig.returnType = some ty) (hlocks : meth.locks = false) (M : gM E A s.heap Gs H locs) {v r : Int32} (hn : narrow ty (.int v) = .int v) (hv : v = r) (hG : Gs.flatten = Gs'.flatten) (hdg : decode cc pc = .ok (.ireturn, 1)) :
    W p l e R s m args below meth c H locs 0 0 (MQ below (va_Qi (fun x (_ : Unit) => x = r) (fun _ => kQ E A Gs') A) args s 0 0 A) (F0 m pc ls [.int v]) :=
  W.zret S.1 S.2.1 hr hn (fun t ht _ => ⟨⟨v, (), rfl, hv, by rw [← hG, ht]; exact M.1, by rw [← hG]; exact M.2.1⟩, M.2.2.1.F ht⟩) M.2.2.1.2.2 hdg hlocks
theorem glret (S : CallFix p m c cc nL s args Ts own) (hr : meth.sig.returnType = some .long) (hlocks : meth.locks = false) (M : gM E A s.heap Gs H locs) {v r : Int64} (hv : v = r) (hG : Gs.flatten = Gs'.flatten) (hdg : decode cc pc = .ok (.lreturn, 1)) :
    W p l e R s m args below meth c H locs 0 0 (MQ below (va_Ql (fun x (_ : Unit) => x = r) (fun _ => kQ E A Gs') A) args s 0 0 A) (F0 m pc ls [.long v]) :=
  W.lret S.1 S.2.1 hr (fun t ht _ => ⟨⟨v, (), rfl, hv, by rw [← hG, ht]; exact M.1, by rw [← hG]; exact M.2.1⟩, M.2.2.1.F ht⟩) M.2.2.1.2.2 hdg hlocks
theorem gvret (S : CallFix p m c cc nL s args Ts own) (hr : meth.sig.returnType = none) (hlocks : meth.locks = false) (M : gM E A s.heap Gs H locs) (hG : Gs.flatten = Gs'.flatten) (hdg : decode cc pc = .ok (.return_, 1)) :
    W p l e R s m args below meth c H locs 0 0 (MQ below (va_Qv (fun (_ : Unit) => True) (fun _ => kQ E A Gs') A) args s 0 0 A) (F0 m pc ls []) :=
  W.vret S.1 S.2.1 hr (fun t ht _ => ⟨⟨(), rfl, trivial, by rw [← hG, ht]; exact M.1, by rw [← hG]; exact M.2.1⟩, M.2.2.1.F ht⟩) M.2.2.1.2.2 hdg hlocks
theorem garet {rt : FieldType} (S : CallFix p m c cc nL s args Ts own) (hr : meth.sig.returnType = some rt) (hrt : (∃ n, rt = .object n) ∨ ∃ t, rt = .array t) (hlocks : meth.locks = false) (M : gM E A s.heap Gs H locs) {v r : Nat} (hv : v = r) (hG : Gs.flatten = Gs'.flatten) (hdg : decode cc pc = .ok (.areturn, 1)) :
    W p l e R s m args below meth c H locs 0 0 (MQ below (va_Qr (fun (_ : Unit) => True) (fun _ a t => a = r ∧ kQ E A Gs' t) A) args s 0 0 A) (F0 m pc ls [.ref v]) :=
  W.aret S.1 S.2.1 hr hrt (Or.inr ⟨v, rfl⟩) (fun t ht _ => ⟨⟨(), v, rfl, trivial, hv, by rw [← hG, ht]; exact M.1, by rw [← hG]; exact M.2.1⟩, M.2.2.1.F ht⟩) M.2.2.1.2.2 hdg hlocks
theorem gnret {F : (Nat → Nat) → List va_W} {mc ms : Nat} (S : CallFix p m c cc nL s args Ts own) (hr : meth.sig.returnType = none) (hlocks : meth.locks = false) (M : gM E A s.heap Gs H locs) (ad : Nat → Nat) (hG : Gs.flatten = (F ad).flatten) (hdg : decode cc pc = .ok (.return_, 1)) :
    W p l e R s m args below meth c H locs mc ms (MQ below (va_Qv (fun (_ : Nat → Nat) => True) (fun ad => kQ E A (F ad)) A) args s mc ms A) (F0 m pc ls []) :=
  W.vret S.1 S.2.1 hr (fun t ht _ => ⟨⟨ad, rfl, trivial, by rw [← hG, ht]; exact M.1, by rw [← hG]; exact M.2.1⟩, M.2.2.1.F ht⟩) M.2.2.1.2.2 hdg hlocks
end GE
end
