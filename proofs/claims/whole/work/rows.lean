section
-- ===== PART A: goes FIRST, ahead of the names: the tables' words, and 'selects' of the private methods out of them =====
/-- a private method of a class that the tables say can be made, by its rows of tables_1 -/
def lw_okq (q : MethodName × Nat) : Prop := (q.1.cls ≠ "java/lang/invoke/MethodHandle" ∧ q.1.cls ≠ "java/lang/invoke/VarHandle") ∧ Cond.instantiable q.1.cls q.2 ∈ tables_1 ∧ Cond.privateMethod q.1 ∈ tables_1 ∧ Cond.instanceMethod q.1 ∈ tables_1
theorem lw_p0 : lw_okq (⟨"RoundThrow$Ball", "gap", "(LRoundThrow$Track;I)J"⟩, 6) := ⟨⟨by decide +kernel, by decide +kernel⟩, List.mem_of_getElem? (i := 137) (by decide +kernel), List.mem_of_getElem? (i := 428) (by decide +kernel), List.mem_of_getElem? (i := 429) (by decide +kernel)⟩
theorem lw_p1 : lw_okq (⟨"RoundThrow$CatchTable", "bit", "(II)I"⟩, 4) := ⟨⟨by decide +kernel, by decide +kernel⟩, List.mem_of_getElem? (i := 180) (by decide +kernel), List.mem_of_getElem? (i := 464) (by decide +kernel), List.mem_of_getElem? (i := 465) (by decide +kernel)⟩
theorem lw_p2 : lw_okq (⟨"RoundThrow$CatchTable", "neighbours", "(II)I"⟩, 4) := ⟨⟨by decide +kernel, by decide +kernel⟩, List.mem_of_getElem? (i := 180) (by decide +kernel), List.mem_of_getElem? (i := 469) (by decide +kernel), List.mem_of_getElem? (i := 470) (by decide +kernel)⟩
theorem lw_p3 : lw_okq (⟨"RoundThrow$Track", "linesMeet", "(II)Z"⟩, 2) := ⟨⟨by decide +kernel, by decide +kernel⟩, List.mem_of_getElem? (i := 164) (by decide +kernel), List.mem_of_getElem? (i := 488) (by decide +kernel), List.mem_of_getElem? (i := 489) (by decide +kernel)⟩
theorem lw_p4 : lw_okq (⟨"RoundThrow$Track", "isAcross", "(II)Z"⟩, 2) := ⟨⟨by decide +kernel, by decide +kernel⟩, List.mem_of_getElem? (i := 164) (by decide +kernel), List.mem_of_getElem? (i := 499) (by decide +kernel), List.mem_of_getElem? (i := 500) (by decide +kernel)⟩
theorem lw_p5 : lw_okq (⟨"RoundThrow$Track", "side", "(II)J"⟩, 2) := ⟨⟨by decide +kernel, by decide +kernel⟩, List.mem_of_getElem? (i := 164) (by decide +kernel), List.mem_of_getElem? (i := 503) (by decide +kernel), List.mem_of_getElem? (i := 504) (by decide +kernel)⟩
theorem lw_p6 : lw_okq (⟨"RoundThrow$Film", "groundX", "(II)J"⟩, 3) := ⟨⟨by decide +kernel, by decide +kernel⟩, List.mem_of_getElem? (i := 78) (by decide +kernel), List.mem_of_getElem? (i := 574) (by decide +kernel), List.mem_of_getElem? (i := 575) (by decide +kernel)⟩
theorem lw_p7 : lw_okq (⟨"RoundThrow$Film", "groundY", "(II)J"⟩, 3) := ⟨⟨by decide +kernel, by decide +kernel⟩, List.mem_of_getElem? (i := 78) (by decide +kernel), List.mem_of_getElem? (i := 582) (by decide +kernel), List.mem_of_getElem? (i := 583) (by decide +kernel)⟩
theorem lw_p8 : lw_okq (⟨"RoundThrow", "areTwo", "(II)Z"⟩, 8) := ⟨⟨by decide +kernel, by decide +kernel⟩, List.mem_of_getElem? (i := 18) (by decide +kernel), List.mem_of_getElem? (i := 614) (by decide +kernel), List.mem_of_getElem? (i := 615) (by decide +kernel)⟩
theorem lw_p9 : lw_okq (⟨"RoundThrow", "learnsAtFirst", "(III)Z"⟩, 8) := ⟨⟨by decide +kernel, by decide +kernel⟩, List.mem_of_getElem? (i := 18) (by decide +kernel), List.mem_of_getElem? (i := 618) (by decide +kernel), List.mem_of_getElem? (i := 619) (by decide +kernel)⟩
theorem lw_p10 : lw_okq (⟨"RoundThrow", "tries", "(IIII)Z"⟩, 8) := ⟨⟨by decide +kernel, by decide +kernel⟩, List.mem_of_getElem? (i := 18) (by decide +kernel), List.mem_of_getElem? (i := 631) (by decide +kernel), List.mem_of_getElem? (i := 632) (by decide +kernel)⟩
theorem lw_p11 : lw_okq (⟨"RoundThrowModel", "setNow", "(I)I"⟩, 35) := ⟨⟨by decide +kernel, by decide +kernel⟩, List.mem_of_getElem? (i := 686) (by decide +kernel), List.mem_of_getElem? (i := 807) (by decide +kernel), List.mem_of_getElem? (i := 808) (by decide +kernel)⟩
theorem lw_p12 : lw_okq (⟨"RoundThrowModel", "layTurns", "()V"⟩, 35) := ⟨⟨by decide +kernel, by decide +kernel⟩, List.mem_of_getElem? (i := 686) (by decide +kernel), List.mem_of_getElem? (i := 847) (by decide +kernel), List.mem_of_getElem? (i := 848) (by decide +kernel)⟩
theorem lw_p13 : lw_okq (⟨"RoundThrowModel", "turnPoint", "(III)V"⟩, 35) := ⟨⟨by decide +kernel, by decide +kernel⟩, List.mem_of_getElem? (i := 686) (by decide +kernel), List.mem_of_getElem? (i := 863) (by decide +kernel), List.mem_of_getElem? (i := 864) (by decide +kernel)⟩
theorem lw_p14 : lw_okq (⟨"RoundThrowModel", "isOne", "(I)Z"⟩, 35) := ⟨⟨by decide +kernel, by decide +kernel⟩, List.mem_of_getElem? (i := 686) (by decide +kernel), List.mem_of_getElem? (i := 872) (by decide +kernel), List.mem_of_getElem? (i := 873) (by decide +kernel)⟩
theorem lw_p15 : lw_okq (⟨"RoundThrowModel", "layOne", "(II)V"⟩, 35) := ⟨⟨by decide +kernel, by decide +kernel⟩, List.mem_of_getElem? (i := 686) (by decide +kernel), List.mem_of_getElem? (i := 879) (by decide +kernel), List.mem_of_getElem? (i := 880) (by decide +kernel)⟩
def lw_privs_1 : List (MethodName × Nat) := [(⟨"RoundThrow$Ball", "gap", "(LRoundThrow$Track;I)J"⟩, 6), (⟨"RoundThrow$CatchTable", "bit", "(II)I"⟩, 4), (⟨"RoundThrow$CatchTable", "neighbours", "(II)I"⟩, 4), (⟨"RoundThrow$Track", "linesMeet", "(II)Z"⟩, 2), (⟨"RoundThrow$Track", "isAcross", "(II)Z"⟩, 2), (⟨"RoundThrow$Track", "side", "(II)J"⟩, 2), (⟨"RoundThrow$Film", "groundX", "(II)J"⟩, 3), (⟨"RoundThrow$Film", "groundY", "(II)J"⟩, 3), (⟨"RoundThrow", "areTwo", "(II)Z"⟩, 8), (⟨"RoundThrow", "learnsAtFirst", "(III)Z"⟩, 8), (⟨"RoundThrow", "tries", "(IIII)Z"⟩, 8), (⟨"RoundThrowModel", "setNow", "(I)I"⟩, 35), (⟨"RoundThrowModel", "layTurns", "()V"⟩, 35), (⟨"RoundThrowModel", "turnPoint", "(III)V"⟩, 35), (⟨"RoundThrowModel", "isOne", "(I)Z"⟩, 35), (⟨"RoundThrowModel", "layOne", "(II)V"⟩, 35)]
theorem lw_r1 : ∀ q ∈ lw_privs_1, lw_okq q := List.forall_mem_cons.mpr ⟨lw_p0, List.forall_mem_cons.mpr ⟨lw_p1, List.forall_mem_cons.mpr ⟨lw_p2, List.forall_mem_cons.mpr ⟨lw_p3, List.forall_mem_cons.mpr ⟨lw_p4, List.forall_mem_cons.mpr ⟨lw_p5, List.forall_mem_cons.mpr ⟨lw_p6, List.forall_mem_cons.mpr ⟨lw_p7, List.forall_mem_cons.mpr ⟨lw_p8, List.forall_mem_cons.mpr ⟨lw_p9, List.forall_mem_cons.mpr ⟨lw_p10, List.forall_mem_cons.mpr ⟨lw_p11, List.forall_mem_cons.mpr ⟨lw_p12, List.forall_mem_cons.mpr ⟨lw_p13, List.forall_mem_cons.mpr ⟨lw_p14, List.forall_mem_cons.mpr ⟨lw_p15, fun _ h => absurd h List.not_mem_nil⟩⟩⟩⟩⟩⟩⟩⟩⟩⟩⟩⟩⟩⟩⟩⟩
theorem lw_p16 : lw_okq (⟨"RoundThrowModel", "wayAt", "(I)I"⟩, 35) := ⟨⟨by decide +kernel, by decide +kernel⟩, List.mem_of_getElem? (i := 686) (by decide +kernel), List.mem_of_getElem? (i := 883) (by decide +kernel), List.mem_of_getElem? (i := 884) (by decide +kernel)⟩
theorem lw_p17 : lw_okq (⟨"RoundThrowModel", "layThrow", "(III)V"⟩, 35) := ⟨⟨by decide +kernel, by decide +kernel⟩, List.mem_of_getElem? (i := 686) (by decide +kernel), List.mem_of_getElem? (i := 895) (by decide +kernel), List.mem_of_getElem? (i := 896) (by decide +kernel)⟩
theorem lw_p18 : lw_okq (⟨"RoundThrowModel", "ballX", "(I)I"⟩, 35) := ⟨⟨by decide +kernel, by decide +kernel⟩, List.mem_of_getElem? (i := 686) (by decide +kernel), List.mem_of_getElem? (i := 899) (by decide +kernel), List.mem_of_getElem? (i := 900) (by decide +kernel)⟩
theorem lw_p19 : lw_okq (⟨"RoundThrowModel", "ballY", "(I)I"⟩, 35) := ⟨⟨by decide +kernel, by decide +kernel⟩, List.mem_of_getElem? (i := 686) (by decide +kernel), List.mem_of_getElem? (i := 903) (by decide +kernel), List.mem_of_getElem? (i := 904) (by decide +kernel)⟩
theorem lw_p20 : lw_okq (⟨"RoundThrowModel", "seeBall", "(I)V"⟩, 35) := ⟨⟨by decide +kernel, by decide +kernel⟩, List.mem_of_getElem? (i := 686) (by decide +kernel), List.mem_of_getElem? (i := 907) (by decide +kernel), List.mem_of_getElem? (i := 908) (by decide +kernel)⟩
theorem lw_p21 : lw_okq (⟨"RoundThrowModel", "caughtOf", "(IIII)I"⟩, 35) := ⟨⟨by decide +kernel, by decide +kernel⟩, List.mem_of_getElem? (i := 686) (by decide +kernel), List.mem_of_getElem? (i := 915) (by decide +kernel), List.mem_of_getElem? (i := 916) (by decide +kernel)⟩
theorem lw_p22 : lw_okq (⟨"RoundThrowModel", "farFrom", "(II)I"⟩, 35) := ⟨⟨by decide +kernel, by decide +kernel⟩, List.mem_of_getElem? (i := 686) (by decide +kernel), List.mem_of_getElem? (i := 919) (by decide +kernel), List.mem_of_getElem? (i := 920) (by decide +kernel)⟩
theorem lw_p23 : lw_okq (⟨"RoundThrowModel", "neighbours", "(II)I"⟩, 35) := ⟨⟨by decide +kernel, by decide +kernel⟩, List.mem_of_getElem? (i := 686) (by decide +kernel), List.mem_of_getElem? (i := 930) (by decide +kernel), List.mem_of_getElem? (i := 931) (by decide +kernel)⟩
theorem lw_p24 : lw_okq (⟨"RoundThrowModel", "meet", "(II)Z"⟩, 35) := ⟨⟨by decide +kernel, by decide +kernel⟩, List.mem_of_getElem? (i := 686) (by decide +kernel), List.mem_of_getElem? (i := 938) (by decide +kernel), List.mem_of_getElem? (i := 939) (by decide +kernel)⟩
theorem lw_p25 : lw_okq (⟨"RoundThrowModel", "side", "(III)I"⟩, 35) := ⟨⟨by decide +kernel, by decide +kernel⟩, List.mem_of_getElem? (i := 686) (by decide +kernel), List.mem_of_getElem? (i := 942) (by decide +kernel), List.mem_of_getElem? (i := 943) (by decide +kernel)⟩
theorem lw_p26 : lw_okq (⟨"RoundThrowModel", "lies", "(III)Z"⟩, 35) := ⟨⟨by decide +kernel, by decide +kernel⟩, List.mem_of_getElem? (i := 686) (by decide +kernel), List.mem_of_getElem? (i := 946) (by decide +kernel), List.mem_of_getElem? (i := 947) (by decide +kernel)⟩
theorem lw_p27 : lw_okq (⟨"RoundThrowModel", "beginRoll", "(IIII)V"⟩, 35) := ⟨⟨by decide +kernel, by decide +kernel⟩, List.mem_of_getElem? (i := 686) (by decide +kernel), List.mem_of_getElem? (i := 960) (by decide +kernel), List.mem_of_getElem? (i := 961) (by decide +kernel)⟩
theorem lw_p28 : lw_okq (⟨"RoundThrowModel", "roll", "()V"⟩, 35) := ⟨⟨by decide +kernel, by decide +kernel⟩, List.mem_of_getElem? (i := 686) (by decide +kernel), List.mem_of_getElem? (i := 964) (by decide +kernel), List.mem_of_getElem? (i := 965) (by decide +kernel)⟩
theorem lw_p29 : lw_okq (⟨"RoundThrowModel", "isOff", "()Z"⟩, 35) := ⟨⟨by decide +kernel, by decide +kernel⟩, List.mem_of_getElem? (i := 686) (by decide +kernel), List.mem_of_getElem? (i := 972) (by decide +kernel), List.mem_of_getElem? (i := 973) (by decide +kernel)⟩
theorem lw_p30 : lw_okq (⟨"RoundThrowModel", "leansOf", "(I)I"⟩, 35) := ⟨⟨by decide +kernel, by decide +kernel⟩, List.mem_of_getElem? (i := 686) (by decide +kernel), List.mem_of_getElem? (i := 980) (by decide +kernel), List.mem_of_getElem? (i := 981) (by decide +kernel)⟩
theorem lw_p31 : lw_okq (⟨"RoundThrowModel", "bentOf", "(I)I"⟩, 35) := ⟨⟨by decide +kernel, by decide +kernel⟩, List.mem_of_getElem? (i := 686) (by decide +kernel), List.mem_of_getElem? (i := 1006) (by decide +kernel), List.mem_of_getElem? (i := 1007) (by decide +kernel)⟩
def lw_privs_2 : List (MethodName × Nat) := [(⟨"RoundThrowModel", "wayAt", "(I)I"⟩, 35), (⟨"RoundThrowModel", "layThrow", "(III)V"⟩, 35), (⟨"RoundThrowModel", "ballX", "(I)I"⟩, 35), (⟨"RoundThrowModel", "ballY", "(I)I"⟩, 35), (⟨"RoundThrowModel", "seeBall", "(I)V"⟩, 35), (⟨"RoundThrowModel", "caughtOf", "(IIII)I"⟩, 35), (⟨"RoundThrowModel", "farFrom", "(II)I"⟩, 35), (⟨"RoundThrowModel", "neighbours", "(II)I"⟩, 35), (⟨"RoundThrowModel", "meet", "(II)Z"⟩, 35), (⟨"RoundThrowModel", "side", "(III)I"⟩, 35), (⟨"RoundThrowModel", "lies", "(III)Z"⟩, 35), (⟨"RoundThrowModel", "beginRoll", "(IIII)V"⟩, 35), (⟨"RoundThrowModel", "roll", "()V"⟩, 35), (⟨"RoundThrowModel", "isOff", "()Z"⟩, 35), (⟨"RoundThrowModel", "leansOf", "(I)I"⟩, 35), (⟨"RoundThrowModel", "bentOf", "(I)I"⟩, 35)]
theorem lw_r2 : ∀ q ∈ lw_privs_2, lw_okq q := List.forall_mem_cons.mpr ⟨lw_p16, List.forall_mem_cons.mpr ⟨lw_p17, List.forall_mem_cons.mpr ⟨lw_p18, List.forall_mem_cons.mpr ⟨lw_p19, List.forall_mem_cons.mpr ⟨lw_p20, List.forall_mem_cons.mpr ⟨lw_p21, List.forall_mem_cons.mpr ⟨lw_p22, List.forall_mem_cons.mpr ⟨lw_p23, List.forall_mem_cons.mpr ⟨lw_p24, List.forall_mem_cons.mpr ⟨lw_p25, List.forall_mem_cons.mpr ⟨lw_p26, List.forall_mem_cons.mpr ⟨lw_p27, List.forall_mem_cons.mpr ⟨lw_p28, List.forall_mem_cons.mpr ⟨lw_p29, List.forall_mem_cons.mpr ⟨lw_p30, List.forall_mem_cons.mpr ⟨lw_p31, fun _ h => absurd h List.not_mem_nil⟩⟩⟩⟩⟩⟩⟩⟩⟩⟩⟩⟩⟩⟩⟩⟩
theorem lw_p32 : lw_okq (⟨"RoundThrowModel", "turnedBy", "()I"⟩, 35) := ⟨⟨by decide +kernel, by decide +kernel⟩, List.mem_of_getElem? (i := 686) (by decide +kernel), List.mem_of_getElem? (i := 1015) (by decide +kernel), List.mem_of_getElem? (i := 1016) (by decide +kernel)⟩
theorem lw_p33 : lw_okq (⟨"RoundThrowModel", "areTwo", "(II)Z"⟩, 35) := ⟨⟨by decide +kernel, by decide +kernel⟩, List.mem_of_getElem? (i := 686) (by decide +kernel), List.mem_of_getElem? (i := 1027) (by decide +kernel), List.mem_of_getElem? (i := 1028) (by decide +kernel)⟩
theorem lw_p34 : lw_okq (⟨"RoundThrowModel", "firstWay", "(III)I"⟩, 35) := ⟨⟨by decide +kernel, by decide +kernel⟩, List.mem_of_getElem? (i := 686) (by decide +kernel), List.mem_of_getElem? (i := 1031) (by decide +kernel), List.mem_of_getElem? (i := 1032) (by decide +kernel)⟩
theorem lw_p35 : lw_okq (⟨"RoundThrowModel", "triesFrom", "(IIII)I"⟩, 35) := ⟨⟨by decide +kernel, by decide +kernel⟩, List.mem_of_getElem? (i := 686) (by decide +kernel), List.mem_of_getElem? (i := 1035) (by decide +kernel), List.mem_of_getElem? (i := 1036) (by decide +kernel)⟩
theorem lw_p36 : lw_okq (⟨"RoundThrowModel", "nextWay", "(II)I"⟩, 35) := ⟨⟨by decide +kernel, by decide +kernel⟩, List.mem_of_getElem? (i := 686) (by decide +kernel), List.mem_of_getElem? (i := 1039) (by decide +kernel), List.mem_of_getElem? (i := 1040) (by decide +kernel)⟩
theorem lw_p37 : lw_okq (⟨"RoundThrowModel", "passAll", "()V"⟩, 35) := ⟨⟨by decide +kernel, by decide +kernel⟩, List.mem_of_getElem? (i := 686) (by decide +kernel), List.mem_of_getElem? (i := 1052) (by decide +kernel), List.mem_of_getElem? (i := 1053) (by decide +kernel)⟩
theorem lw_p38 : lw_okq (⟨"RoundThrowModel", "pass", "(I)I"⟩, 35) := ⟨⟨by decide +kernel, by decide +kernel⟩, List.mem_of_getElem? (i := 686) (by decide +kernel), List.mem_of_getElem? (i := 1056) (by decide +kernel), List.mem_of_getElem? (i := 1057) (by decide +kernel)⟩
def lw_privs_3 : List (MethodName × Nat) := [(⟨"RoundThrowModel", "turnedBy", "()I"⟩, 35), (⟨"RoundThrowModel", "areTwo", "(II)Z"⟩, 35), (⟨"RoundThrowModel", "firstWay", "(III)I"⟩, 35), (⟨"RoundThrowModel", "triesFrom", "(IIII)I"⟩, 35), (⟨"RoundThrowModel", "nextWay", "(II)I"⟩, 35), (⟨"RoundThrowModel", "passAll", "()V"⟩, 35), (⟨"RoundThrowModel", "pass", "(I)I"⟩, 35)]
theorem lw_r3 : ∀ q ∈ lw_privs_3, lw_okq q := List.forall_mem_cons.mpr ⟨lw_p32, List.forall_mem_cons.mpr ⟨lw_p33, List.forall_mem_cons.mpr ⟨lw_p34, List.forall_mem_cons.mpr ⟨lw_p35, List.forall_mem_cons.mpr ⟨lw_p36, List.forall_mem_cons.mpr ⟨lw_p37, List.forall_mem_cons.mpr ⟨lw_p38, fun _ h => absurd h List.not_mem_nil⟩⟩⟩⟩⟩⟩⟩
def lw_privs : List (MethodName × Nat) := lw_privs_1 ++ (lw_privs_2 ++ (lw_privs_3))
def lw_tbl : List Cond := k2_sels lw_privs ++ tables_1
theorem lw_privs_ok : ∀ q ∈ lw_privs, lw_okq q := by
  show ∀ q ∈ lw_privs_1 ++ (lw_privs_2 ++ (lw_privs_3)), lw_okq q
  exact List.forall_mem_append.mpr ⟨lw_r1, List.forall_mem_append.mpr ⟨lw_r2, lw_r3⟩⟩
/-! ===== BEGIN words of one list among another's, by their places ===== -/
theorem goodIn_r {big : List Cond} (ws : List Cond) (ps : List Nat) (hp : ws = ps.filterMap (fun i => big[i]?)) (h : ws.all goodWord = true) : GoodIn big ws := by
  intro w hw
  have h1 := List.all_eq_true.mp h w hw
  rw [hp] at hw
  obtain ⟨i, -, hi⟩ := List.mem_filterMap.mp hw
  have hm : w ∈ big := by first | exact List.mem_of_getElem? hi | exact List.getElem?_mem hi
  exact ⟨hm, good_of_word h1⟩
theorem goodIn_app {big a b : List Cond} (ha : GoodIn big a) (hb : GoodIn big b) : GoodIn big (a ++ b) := fun w h => (List.mem_append.mp h).elim (ha w) (hb w)
theorem goodIn_ca {big a b : List Cond} {c : Cond} (ha : GoodIn big (c :: a)) (hb : GoodIn big b) : GoodIn big (c :: (a ++ b)) := fun w h => (List.mem_cons.mp h).elim (fun e => ha w (List.mem_cons.mpr (Or.inl e))) (fun h => (List.mem_append.mp h).elim (fun h => ha w (List.mem_cons.mpr (Or.inr h))) (hb w))
theorem goodIn_sub {big ws : List Cond} (hm : ∀ w ∈ ws, w ∈ big) (h : ws.all goodWord = true) : GoodIn big ws := fun w hw => ⟨hm w hw, good_of_word (List.all_eq_true.mp h w hw)⟩
/-! ===== END ===== -/

/-! ===== BEGIN printed: names, fields, word lists, decode rows ===== -/
def RX0 : String := "RoundThrow$Ball"
def TX0 : u_T := fun k => match k with
  | 0 => ("RoundThrow$Ball", "x", "J", false)
  | 1 => ("RoundThrow$Ball", "y", "J", false)
  | 2 => ("RoundThrow$Ball", "stepX", "J", false)
  | 3 => ("RoundThrow$Ball", "stepY", "J", false)
  | 4 => ("RoundThrow$Ball", "besidesX", "J", false)
  | _ => ("RoundThrow$Ball", "besidesY", "J", false)
def tyX0 : Nat → FieldType := fun k => match k with
  | 0 => .long
  | 1 => .long
  | 2 => .long
  | 3 => .long
  | 4 => .long
  | _ => .long
abbrev wsX00 : List Cond := u_ws RX0 TX0 6
theorem nmX0 : ∀ a, a < 6 → ∀ b, b < 6 → a ≠ b → (TX0 a).2.1 ≠ (TX0 b).2.1 := by decide +kernel
theorem tyX0_ok : ∀ k, k < 6 → parseFieldDescriptor (TX0 k).2.2.1 = some (tyX0 k) := by decide +kernel
abbrev cX0_init : ByteArray := prog_2_method_1_code
def yX0_init : MethodName := ⟨RX0, "<init>", "()V"⟩
abbrev cX0_launch : ByteArray := prog_2_method_2_code
def yX0_launch : MethodName := ⟨RX0, "launch", "(IIIILRoundThrow$Platform;)V"⟩
abbrev cX0_throwAnew : ByteArray := prog_2_method_3_code
def yX0_throwAnew : MethodName := ⟨RX0, "throwAnew", "(II)V"⟩
abbrev cX0_xBehind : ByteArray := prog_2_method_4_code
def yX0_xBehind : MethodName := ⟨RX0, "xBehind", "(I)J"⟩
abbrev cX0_yBehind : ByteArray := prog_2_method_5_code
def yX0_yBehind : MethodName := ⟨RX0, "yBehind", "(I)J"⟩
abbrev cX0_gap : ByteArray := prog_2_method_6_code
def yX0_gap : MethodName := ⟨RX0, "gap", "(LRoundThrow$Track;I)J"⟩
abbrev cX0_tickCaught : ByteArray := prog_2_method_7_code
def yX0_tickCaught : MethodName := ⟨RX0, "tickCaught", "(LRoundThrow$Track;I)I"⟩
abbrev cX0_tickNearest : ByteArray := prog_2_method_8_code
def yX0_tickNearest : MethodName := ⟨RX0, "tickNearest", "(LRoundThrow$Track;)I"⟩
abbrev cX0_isRightOf : ByteArray := prog_2_method_9_code
def yX0_isRightOf : MethodName := ⟨RX0, "isRightOf", "(LRoundThrow$Track;I)Z"⟩
abbrev cX0_rollOn : ByteArray := prog_2_method_10_code
def yX0_rollOn : MethodName := ⟨RX0, "rollOn", "(IILRoundThrow$Platform;)V"⟩
abbrev cX0_isBeyond : ByteArray := prog_2_method_11_code
def yX0_isBeyond : MethodName := ⟨RX0, "isBeyond", "(J)Z"⟩
def RX1 : String := "RoundThrow$CatchTable"
def TX1 : u_T := fun k => match k with
  | 0 => ("RoundThrow$CatchTable", "rows", "[I", true)
  | 1 => ("RoundThrow$CatchTable", "safeSpeed", "I", false)
  | 2 => ("RoundThrow$CatchTable", "safeWay", "I", false)
  | _ => ("RoundThrow$CatchTable", "safeNeighbours", "I", false)
def tyX1 : Nat → FieldType := fun k => match k with
  | 0 => .array .int
  | 1 => .int
  | 2 => .int
  | _ => .int
abbrev wsX10 : List Cond := u_ws RX1 TX1 4
theorem nmX1 : ∀ a, a < 4 → ∀ b, b < 4 → a ≠ b → (TX1 a).2.1 ≠ (TX1 b).2.1 := by decide +kernel
theorem tyX1_ok : ∀ k, k < 4 → parseFieldDescriptor (TX1 k).2.2.1 = some (tyX1 k) := by decide +kernel
abbrev cX1_init : ByteArray := prog_3_method_1_code
def yX1_init : MethodName := ⟨RX1, "<init>", "()V"⟩
abbrev cX1_fill : ByteArray := prog_3_method_2_code
def yX1_fill : MethodName := ⟨RX1, "fill", "(LRoundThrow$Ball;LRoundThrow$Track;I)V"⟩
abbrev cX1_howMany : ByteArray := prog_3_method_3_code
def yX1_howMany : MethodName := ⟨RX1, "howMany", "()I"⟩
abbrev cX1_findSafe : ByteArray := prog_3_method_4_code
def yX1_findSafe : MethodName := ⟨RX1, "findSafe", "()V"⟩
abbrev cX1_neighbours : ByteArray := prog_3_method_5_code
def yX1_neighbours : MethodName := ⟨RX1, "neighbours", "(II)I"⟩
abbrev cX1_bit : ByteArray := prog_3_method_6_code
def yX1_bit : MethodName := ⟨RX1, "bit", "(II)I"⟩
def RX2 : String := "RoundThrow$Film"
def TX2 : u_T := fun k => match k with
  | 0 => ("RoundThrow$Film", "xs", "[I", true)
  | 1 => ("RoundThrow$Film", "ys", "[I", true)
  | _ => ("RoundThrow$Film", "points", "I", false)
def tyX2 : Nat → FieldType := fun k => match k with
  | 0 => .array .int
  | 1 => .array .int
  | _ => .int
abbrev wsX20 : List Cond := u_ws RX2 TX2 3
theorem nmX2 : ∀ a, a < 3 → ∀ b, b < 3 → a ≠ b → (TX2 a).2.1 ≠ (TX2 b).2.1 := by decide +kernel
theorem tyX2_ok : ∀ k, k < 3 → parseFieldDescriptor (TX2 k).2.2.1 = some (tyX2 k) := by decide +kernel
abbrev cX2_init : ByteArray := prog_4_method_1_code
def yX2_init : MethodName := ⟨RX2, "<init>", "()V"⟩
abbrev cX2_add : ByteArray := prog_4_method_2_code
def yX2_add : MethodName := ⟨RX2, "add", "(II)Z"⟩
abbrev cX2_tells : ByteArray := prog_4_method_3_code
def yX2_tells : MethodName := ⟨RX2, "tells", "()Z"⟩
abbrev cX2_bend : ByteArray := prog_4_method_4_code
def yX2_bend : MethodName := ⟨RX2, "bend", "(I)I"⟩
abbrev cX2_groundX : ByteArray := prog_4_method_5_code
def yX2_groundX : MethodName := ⟨RX2, "groundX", "(II)J"⟩
abbrev cX2_groundY : ByteArray := prog_4_method_6_code
def yX2_groundY : MethodName := ⟨RX2, "groundY", "(II)J"⟩
abbrev cX2_likeliestPace : ByteArray := prog_4_method_7_code
def yX2_likeliestPace : MethodName := ⟨RX2, "likeliestPace", "()I"⟩
abbrev cX2_farthestPace : ByteArray := prog_4_method_8_code
def yX2_farthestPace : MethodName := ⟨RX2, "farthestPace", "(II)I"⟩
abbrev cX2_become : ByteArray := prog_4_method_9_code
def yX2_become : MethodName := ⟨RX2, "become", "(LRoundThrow$Film;)V"⟩
def RX3 : String := "RoundThrow$Learner"
def TX3 : u_T := fun k => match k with
  | 0 => ("RoundThrow$Learner", "way", "I", false)
  | _ => ("RoundThrow$Learner", "tries", "I", false)
def tyX3 : Nat → FieldType := fun k => match k with
  | 0 => .int
  | _ => .int
abbrev wsX30 : List Cond := u_ws RX3 TX3 2
theorem nmX3 : ∀ a, a < 2 → ∀ b, b < 2 → a ≠ b → (TX3 a).2.1 ≠ (TX3 b).2.1 := by decide +kernel
theorem tyX3_ok : ∀ k, k < 2 → parseFieldDescriptor (TX3 k).2.2.1 = some (tyX3 k) := by decide +kernel
abbrev cX3_init : ByteArray := prog_5_method_1_code
def yX3_init : MethodName := ⟨RX3, "<init>", "()V"⟩
abbrev cX3_aim : ByteArray := prog_5_method_2_code
def yX3_aim : MethodName := ⟨RX3, "aim", "(III)V"⟩
abbrev cX3_product : ByteArray := prog_5_method_3_code
def yX3_product : MethodName := ⟨RX3, "product", "(IIII)J"⟩
abbrev cX3_practise : ByteArray := prog_5_method_4_code
def yX3_practise : MethodName := ⟨RX3, "practise", "(LRoundThrow$Ball;ILRoundThrow$Track;I)Z"⟩
def RX4 : String := "RoundThrow$Pad"
def TX4 : u_T := fun k => match k with
  | 0 => ("RoundThrow$Pad", "signs", "[I", true)
  | _ => ("RoundThrow$Pad", "length", "I", false)
def tyX4 : Nat → FieldType := fun k => match k with
  | 0 => .array .int
  | _ => .int
abbrev wsX40 : List Cond := u_ws RX4 TX4 2
theorem nmX4 : ∀ a, a < 2 → ∀ b, b < 2 → a ≠ b → (TX4 a).2.1 ≠ (TX4 b).2.1 := by decide +kernel
theorem tyX4_ok : ∀ k, k < 2 → parseFieldDescriptor (TX4 k).2.2.1 = some (tyX4 k) := by decide +kernel
abbrev cX4_init : ByteArray := prog_6_method_1_code
def yX4_init : MethodName := ⟨RX4, "<init>", "()V"⟩
abbrev cX4_add : ByteArray := prog_6_method_2_code
def yX4_add : MethodName := ⟨RX4, "add", "(I)Z"⟩
abbrev cX4_faultPlace : ByteArray := prog_6_method_3_code
def yX4_faultPlace : MethodName := ⟨RX4, "faultPlace", "()I"⟩
abbrev cX4_behind : ByteArray := prog_6_method_4_code
def yX4_behind : MethodName := ⟨RX4, "behind", "(II)I"⟩
abbrev cX4_isDigit : ByteArray := prog_6_method_5_code
def yX4_isDigit : MethodName := ⟨RX4, "isDigit", "(I)Z"⟩
def RX5 : String := "RoundThrow$Platform"
def TX5 : u_T := fun k => match k with
  | 0 => ("RoundThrow$Platform", "angles", "[I", true)
  | _ => ("RoundThrow$Platform", "paces", "[I", true)
def tyX5 : Nat → FieldType := fun k => match k with
  | 0 => .array .int
  | _ => .array .int
abbrev wsX50 : List Cond := u_ws RX5 TX5 2
theorem nmX5 : ∀ a, a < 2 → ∀ b, b < 2 → a ≠ b → (TX5 a).2.1 ≠ (TX5 b).2.1 := by decide +kernel
theorem tyX5_ok : ∀ k, k < 2 → parseFieldDescriptor (TX5 k).2.2.1 = some (tyX5 k) := by decide +kernel
abbrev cX5_init : ByteArray := prog_7_method_1_code
def yX5_init : MethodName := ⟨RX5, "<init>", "()V"⟩
abbrev cX5_run : ByteArray := prog_7_method_2_code
def yX5_run : MethodName := ⟨RX5, "run", "(LRoundThrow$Setup;I)V"⟩
abbrev cX5_nearerToZero : ByteArray := prog_7_method_3_code
def yX5_nearerToZero : MethodName := ⟨RX5, "nearerToZero", "(II)I"⟩
abbrev cX5_wayOf : ByteArray := prog_7_method_4_code
def yX5_wayOf : MethodName := ⟨RX5, "wayOf", "(I)I"⟩
abbrev cX5_wayBehind : ByteArray := prog_7_method_5_code
def yX5_wayBehind : MethodName := ⟨RX5, "wayBehind", "(I)I"⟩
abbrev cX5_wayBack : ByteArray := prog_7_method_6_code
def yX5_wayBack : MethodName := ⟨RX5, "wayBack", "(I)I"⟩
def RX6 : String := "RoundThrow$Pushes"
def TX6 : u_T := fun k => match k with
  | 0 => ("RoundThrow$Pushes", "ticks", "[I", true)
  | 1 => ("RoundThrow$Pushes", "sizes", "[I", true)
  | 2 => ("RoundThrow$Pushes", "count", "I", false)
  | _ => ("RoundThrow$Pushes", "parts", "I", false)
def tyX6 : Nat → FieldType := fun k => match k with
  | 0 => .array .int
  | 1 => .array .int
  | 2 => .int
  | _ => .int
abbrev wsX60 : List Cond := u_ws RX6 TX6 4
theorem nmX6 : ∀ a, a < 4 → ∀ b, b < 4 → a ≠ b → (TX6 a).2.1 ≠ (TX6 b).2.1 := by decide +kernel
theorem tyX6_ok : ∀ k, k < 4 → parseFieldDescriptor (TX6 k).2.2.1 = some (tyX6 k) := by decide +kernel
abbrev cX6_init : ByteArray := prog_8_method_1_code
def yX6_init : MethodName := ⟨RX6, "<init>", "()V"⟩
abbrev cX6_read : ByteArray := prog_8_method_2_code
def yX6_read : MethodName := ⟨RX6, "read", "(LRoundThrow$Pad;)V"⟩
abbrev cX6_numberBehind : ByteArray := prog_8_method_3_code
def yX6_numberBehind : MethodName := ⟨RX6, "numberBehind", "(LRoundThrow$Pad;I)I"⟩
abbrev cX6_paceAt : ByteArray := prog_8_method_4_code
def yX6_paceAt : MethodName := ⟨RX6, "paceAt", "(II)I"⟩
abbrev cX6_become : ByteArray := prog_8_method_5_code
def yX6_become : MethodName := ⟨RX6, "become", "(LRoundThrow$Pushes;)V"⟩
def RX7 : String := "RoundThrow$Setup"
def TX7 : u_T := fun k => match k with
  | 0 => ("RoundThrow$Setup", "settings", "[I", true)
  | 1 => ("RoundThrow$Setup", "pushes", "LRoundThrow$Pushes;", true)
  | 2 => ("RoundThrow$Setup", "film", "LRoundThrow$Film;", true)
  | 3 => ("RoundThrow$Setup", "oneX", "[I", true)
  | 4 => ("RoundThrow$Setup", "oneY", "[I", true)
  | _ => ("RoundThrow$Setup", "ones", "I", false)
def tyX7 : Nat → FieldType := fun k => match k with
  | 0 => .array .int
  | 1 => .object "RoundThrow$Pushes"
  | 2 => .object "RoundThrow$Film"
  | 3 => .array .int
  | 4 => .array .int
  | _ => .int
abbrev wsX70 : List Cond := u_ws RX7 TX7 6
theorem nmX7 : ∀ a, a < 6 → ∀ b, b < 6 → a ≠ b → (TX7 a).2.1 ≠ (TX7 b).2.1 := by decide +kernel
theorem tyX7_ok : ∀ k, k < 6 → parseFieldDescriptor (TX7 k).2.2.1 = some (tyX7 k) := by decide +kernel
abbrev cX7_init : ByteArray := prog_9_method_1_code
def yX7_init : MethodName := ⟨RX7, "<init>", "()V"⟩
abbrev cX7_takes : ByteArray := prog_9_method_2_code
def yX7_takes : MethodName := ⟨RX7, "takes", "(II)Z"⟩
abbrev cX7_pace : ByteArray := prog_9_method_3_code
def yX7_pace : MethodName := ⟨RX7, "pace", "()I"⟩
abbrev cX7_slows : ByteArray := prog_9_method_4_code
def yX7_slows : MethodName := ⟨RX7, "slows", "()I"⟩
abbrev cX7_reach : ByteArray := prog_9_method_5_code
def yX7_reach : MethodName := ⟨RX7, "reach", "()I"⟩
abbrev cX7_rub : ByteArray := prog_9_method_6_code
def yX7_rub : MethodName := ⟨RX7, "rub", "()I"⟩
abbrev cX7_rim : ByteArray := prog_9_method_7_code
def yX7_rim : MethodName := ⟨RX7, "rim", "()I"⟩
abbrev cX7_hasOne : ByteArray := prog_9_method_8_code
def yX7_hasOne : MethodName := ⟨RX7, "hasOne", "(I)Z"⟩
abbrev cX7_seat : ByteArray := prog_9_method_9_code
def yX7_seat : MethodName := ⟨RX7, "seat", "(II)I"⟩
abbrev cX7_become : ByteArray := prog_9_method_10_code
def yX7_become : MethodName := ⟨RX7, "become", "(LRoundThrow$Setup;)V"⟩
def RX8 : String := "RoundThrow$Track"
def TX8 : u_T := fun k => match k with
  | 0 => ("RoundThrow$Track", "xs", "[J", true)
  | _ => ("RoundThrow$Track", "ys", "[J", true)
def tyX8 : Nat → FieldType := fun k => match k with
  | 0 => .array .long
  | _ => .array .long
abbrev wsX80 : List Cond := u_ws RX8 TX8 2
theorem nmX8 : ∀ a, a < 2 → ∀ b, b < 2 → a ≠ b → (TX8 a).2.1 ≠ (TX8 b).2.1 := by decide +kernel
theorem tyX8_ok : ∀ k, k < 2 → parseFieldDescriptor (TX8 k).2.2.1 = some (tyX8 k) := by decide +kernel
abbrev cX8_init : ByteArray := prog_10_method_1_code
def yX8_init : MethodName := ⟨RX8, "<init>", "()V"⟩
abbrev cX8_followSeat : ByteArray := prog_10_method_2_code
def yX8_followSeat : MethodName := ⟨RX8, "followSeat", "(IILRoundThrow$Platform;)V"⟩
abbrev cX8_followSeen : ByteArray := prog_10_method_3_code
def yX8_followSeen : MethodName := ⟨RX8, "followSeen", "(LRoundThrow$Ball;LRoundThrow$Platform;)V"⟩
abbrev cX8_crossesItself : ByteArray := prog_10_method_4_code
def yX8_crossesItself : MethodName := ⟨RX8, "crossesItself", "()Z"⟩
abbrev cX8_linesMeet : ByteArray := prog_10_method_5_code
def yX8_linesMeet : MethodName := ⟨RX8, "linesMeet", "(II)Z"⟩
abbrev cX8_spansMeet : ByteArray := prog_10_method_6_code
def yX8_spansMeet : MethodName := ⟨RX8, "spansMeet", "([JII)Z"⟩
abbrev cX8_isAcross : ByteArray := prog_10_method_7_code
def yX8_isAcross : MethodName := ⟨RX8, "isAcross", "(II)Z"⟩
abbrev cX8_side : ByteArray := prog_10_method_8_code
def yX8_side : MethodName := ⟨RX8, "side", "(II)J"⟩
def RX9 : String := "RoundThrow$Ways"
def TX9 : u_T := fun k => match k with
  | _ => ("", "", "", false)
def tyX9 : Nat → FieldType := fun k => match k with
  | _ => .int
abbrev wsX90 : List Cond := u_ws RX9 TX9 0
theorem nmX9 : ∀ a, a < 0 → ∀ b, b < 0 → a ≠ b → (TX9 a).2.1 ≠ (TX9 b).2.1 := by decide +kernel
theorem tyX9_ok : ∀ k, k < 0 → parseFieldDescriptor (TX9 k).2.2.1 = some (tyX9 k) := by decide +kernel
abbrev cX9_sine : ByteArray := prog_11_method_2_code
def yX9_sine : MethodName := ⟨RX9, "sine", "(I)J"⟩
abbrev cX9_cosine : ByteArray := prog_11_method_3_code
def yX9_cosine : MethodName := ⟨RX9, "cosine", "(I)J"⟩
abbrev cX9_turnX : ByteArray := prog_11_method_4_code
def yX9_turnX : MethodName := ⟨RX9, "turnX", "(JJI)J"⟩
abbrev cX9_turnY : ByteArray := prog_11_method_5_code
def yX9_turnY : MethodName := ⟨RX9, "turnY", "(JJI)J"⟩
def RX10 : String := "RoundThrow"
def TX10 : u_T := fun k => match k with
  | 0 => ("RoundThrow", "pad", "LRoundThrow$Pad;", true)
  | 1 => ("RoundThrow", "setup", "LRoundThrow$Setup;", true)
  | 2 => ("RoundThrow", "images", "[LRoundThrow$Setup;", true)
  | 3 => ("RoundThrow", "platform", "LRoundThrow$Platform;", true)
  | 4 => ("RoundThrow", "thrown", "LRoundThrow$Ball;", true)
  | 5 => ("RoundThrow", "track", "LRoundThrow$Track;", true)
  | 6 => ("RoundThrow", "table", "LRoundThrow$CatchTable;", true)
  | _ => ("RoundThrow", "learner", "LRoundThrow$Learner;", true)
def tyX10 : Nat → FieldType := fun k => match k with
  | 0 => .object "RoundThrow$Pad"
  | 1 => .object "RoundThrow$Setup"
  | 2 => .array (.object "RoundThrow$Setup")
  | 3 => .object "RoundThrow$Platform"
  | 4 => .object "RoundThrow$Ball"
  | 5 => .object "RoundThrow$Track"
  | 6 => .object "RoundThrow$CatchTable"
  | _ => .object "RoundThrow$Learner"
abbrev wsX100 : List Cond := u_ws RX10 TX10 8
theorem nmX10 : ∀ a, a < 8 → ∀ b, b < 8 → a ≠ b → (TX10 a).2.1 ≠ (TX10 b).2.1 := by decide +kernel
theorem tyX10_ok : ∀ k, k < 8 → parseFieldDescriptor (TX10 k).2.2.1 = some (tyX10 k) := by decide +kernel
abbrev cX10_init : ByteArray := prog_1_method_1_code
def yX10_init : MethodName := ⟨RX10, "<init>", "()V"⟩
abbrev cX10_set : ByteArray := prog_1_method_2_code
def yX10_set : MethodName := ⟨RX10, "set", "(II)I"⟩
abbrev cX10_say : ByteArray := prog_1_method_3_code
def yX10_say : MethodName := ⟨RX10, "say", "(I)I"⟩
abbrev cX10_wipe : ByteArray := prog_1_method_4_code
def yX10_wipe : MethodName := ⟨RX10, "wipe", "()I"⟩
abbrev cX10_fault : ByteArray := prog_1_method_5_code
def yX10_fault : MethodName := ⟨RX10, "fault", "()I"⟩
abbrev cX10_push : ByteArray := prog_1_method_6_code
def yX10_push : MethodName := ⟨RX10, "push", "()I"⟩
abbrev cX10_turn : ByteArray := prog_1_method_7_code
def yX10_turn : MethodName := ⟨RX10, "turn", "(II)I"⟩
abbrev cX10_sit : ByteArray := prog_1_method_8_code
def yX10_sit : MethodName := ⟨RX10, "sit", "(II)I"⟩
abbrev cX10_point : ByteArray := prog_1_method_9_code
def yX10_point : MethodName := ⟨RX10, "point", "(III)I"⟩
abbrev cX10_ball : ByteArray := prog_1_method_10_code
def yX10_ball : MethodName := ⟨RX10, "ball", "(IIIII)I"⟩
abbrev cX10_caught : ByteArray := prog_1_method_11_code
def yX10_caught : MethodName := ⟨RX10, "caught", "(IIII)I"⟩
abbrev cX10_all : ByteArray := prog_1_method_12_code
def yX10_all : MethodName := ⟨RX10, "all", "(III)I"⟩
abbrev cX10_loops : ByteArray := prog_1_method_13_code
def yX10_loops : MethodName := ⟨RX10, "loops", "(III)I"⟩
abbrev cX10_rolled : ByteArray := prog_1_method_14_code
def yX10_rolled : MethodName := ⟨RX10, "rolled", "(IIIIII)I"⟩
abbrev cX10_off : ByteArray := prog_1_method_15_code
def yX10_off : MethodName := ⟨RX10, "off", "(IIII)I"⟩
abbrev cX10_leans : ByteArray := prog_1_method_16_code
def yX10_leans : MethodName := ⟨RX10, "leans", "(I)I"⟩
abbrev cX10_stays : ByteArray := prog_1_method_17_code
def yX10_stays : MethodName := ⟨RX10, "stays", "(I)I"⟩
abbrev cX10_hut : ByteArray := prog_1_method_18_code
def yX10_hut : MethodName := ⟨RX10, "hut", "(III)I"⟩
abbrev cX10_film : ByteArray := prog_1_method_19_code
def yX10_film : MethodName := ⟨RX10, "film", "(II)I"⟩
abbrev cX10_clear : ByteArray := prog_1_method_20_code
def yX10_clear : MethodName := ⟨RX10, "clear", "()I"⟩
abbrev cX10_bent : ByteArray := prog_1_method_21_code
def yX10_bent : MethodName := ⟨RX10, "bent", "(I)I"⟩
abbrev cX10_turned : ByteArray := prog_1_method_22_code
def yX10_turned : MethodName := ⟨RX10, "turned", "()I"⟩
abbrev cX10_span : ByteArray := prog_1_method_23_code
def yX10_span : MethodName := ⟨RX10, "span", "(II)I"⟩
abbrev cX10_learns : ByteArray := prog_1_method_24_code
def yX10_learns : MethodName := ⟨RX10, "learns", "(IIII)I"⟩
abbrev cX10_along : ByteArray := prog_1_method_25_code
def yX10_along : MethodName := ⟨RX10, "along", "(IIII)I"⟩
abbrev cX10_image : ByteArray := prog_1_method_26_code
def yX10_image : MethodName := ⟨RX10, "image", "(I)I"⟩
abbrev cX10_restore : ByteArray := prog_1_method_27_code
def yX10_restore : MethodName := ⟨RX10, "restore", "(I)I"⟩
abbrev cX10_told : ByteArray := prog_1_method_28_code
def yX10_told : MethodName := ⟨RX10, "told", "(I)I"⟩
abbrev cX10_learnsAtFirst : ByteArray := prog_1_method_29_code
def yX10_learnsAtFirst : MethodName := ⟨RX10, "learnsAtFirst", "(III)Z"⟩
abbrev cX10_tries : ByteArray := prog_1_method_30_code
def yX10_tries : MethodName := ⟨RX10, "tries", "(IIII)Z"⟩
abbrev cX10_areTwo : ByteArray := prog_1_method_31_code
def yX10_areTwo : MethodName := ⟨RX10, "areTwo", "(II)Z"⟩
abbrev cX10_within : ByteArray := prog_1_method_32_code
def yX10_within : MethodName := ⟨RX10, "within", "(III)Z"⟩
abbrev cX10_isWay : ByteArray := prog_1_method_33_code
def yX10_isWay : MethodName := ⟨RX10, "isWay", "(I)Z"⟩
abbrev cX10_isTick : ByteArray := prog_1_method_34_code
def yX10_isTick : MethodName := ⟨RX10, "isTick", "(I)Z"⟩
abbrev cX10_isThrow : ByteArray := prog_1_method_35_code
def yX10_isThrow : MethodName := ⟨RX10, "isThrow", "(II)Z"⟩
abbrev cX10_isPlace : ByteArray := prog_1_method_36_code
def yX10_isPlace : MethodName := ⟨RX10, "isPlace", "(II)Z"⟩
abbrev cX10_isImage : ByteArray := prog_1_method_37_code
def yX10_isImage : MethodName := ⟨RX10, "isImage", "(I)Z"⟩
abbrev cX10_lean : ByteArray := prog_1_method_38_code
def yX10_lean : MethodName := ⟨RX10, "lean", "(II)I"⟩
def RX11 : String := "RoundThrowModel"
def TX11 : u_T := fun k => match k with
  | 0 => ("RoundThrowModel", "sines", "[I", true)
  | 1 => ("RoundThrowModel", "turnedX", "I", false)
  | 2 => ("RoundThrowModel", "turnedY", "I", false)
  | 3 => ("RoundThrowModel", "sets", "[I", true)
  | 4 => ("RoundThrowModel", "angles", "[I", true)
  | 5 => ("RoundThrowModel", "paces", "[I", true)
  | 6 => ("RoundThrowModel", "signs", "[I", true)
  | 7 => ("RoundThrowModel", "signMany", "I", false)
  | 8 => ("RoundThrowModel", "pushAt", "[I", true)
  | 9 => ("RoundThrowModel", "pushBy", "[I", true)
  | 10 => ("RoundThrowModel", "pushMany", "I", false)
  | 11 => ("RoundThrowModel", "partMany", "I", false)
  | 12 => ("RoundThrowModel", "oneX", "[I", true)
  | 13 => ("RoundThrowModel", "oneY", "[I", true)
  | 14 => ("RoundThrowModel", "ones", "I", false)
  | 15 => ("RoundThrowModel", "fromX", "I", false)
  | 16 => ("RoundThrowModel", "fromY", "I", false)
  | 17 => ("RoundThrowModel", "goX", "I", false)
  | 18 => ("RoundThrowModel", "goY", "I", false)
  | 19 => ("RoundThrowModel", "isCaught", "[Z", true)
  | 20 => ("RoundThrowModel", "seenX", "[I", true)
  | 21 => ("RoundThrowModel", "seenY", "[I", true)
  | 22 => ("RoundThrowModel", "rollX", "I", false)
  | 23 => ("RoundThrowModel", "rollY", "I", false)
  | 24 => ("RoundThrowModel", "rollTick", "I", false)
  | 25 => ("RoundThrowModel", "filmX", "[I", true)
  | 26 => ("RoundThrowModel", "filmY", "[I", true)
  | 27 => ("RoundThrowModel", "filmMany", "I", false)
  | 28 => ("RoundThrowModel", "groundX", "[I", true)
  | 29 => ("RoundThrowModel", "groundY", "[I", true)
  | 30 => ("RoundThrowModel", "lastWay", "I", false)
  | 31 => ("RoundThrowModel", "kept", "[I", true)
  | 32 => ("RoundThrowModel", "isKept", "[Z", true)
  | 33 => ("RoundThrowModel", "keptAt", "I", false)
  | _ => ("RoundThrowModel", "isWriting", "Z", false)
def tyX11 : Nat → FieldType := fun k => match k with
  | 0 => .array .int
  | 1 => .int
  | 2 => .int
  | 3 => .array .int
  | 4 => .array .int
  | 5 => .array .int
  | 6 => .array .int
  | 7 => .int
  | 8 => .array .int
  | 9 => .array .int
  | 10 => .int
  | 11 => .int
  | 12 => .array .int
  | 13 => .array .int
  | 14 => .int
  | 15 => .int
  | 16 => .int
  | 17 => .int
  | 18 => .int
  | 19 => .array .boolean
  | 20 => .array .int
  | 21 => .array .int
  | 22 => .int
  | 23 => .int
  | 24 => .int
  | 25 => .array .int
  | 26 => .array .int
  | 27 => .int
  | 28 => .array .int
  | 29 => .array .int
  | 30 => .int
  | 31 => .array .int
  | 32 => .array .boolean
  | 33 => .int
  | _ => .boolean
abbrev wsX110 : List Cond := u_ws RX11 TX11 35
theorem nmX11 : ∀ a, a < 35 → ∀ b, b < 35 → a ≠ b → (TX11 a).2.1 ≠ (TX11 b).2.1 := by decide +kernel
theorem tyX11_ok : ∀ k, k < 35 → parseFieldDescriptor (TX11 k).2.2.1 = some (tyX11 k) := by decide +kernel
abbrev cX11_init : ByteArray := prog_13_method_1_code
def yX11_init : MethodName := ⟨RX11, "<init>", "()V"⟩
abbrev cX11_in : ByteArray := prog_13_method_3_code
def yX11_in : MethodName := ⟨RX11, "in", "(JJJ)Z"⟩
abbrev cX11_size : ByteArray := prog_13_method_4_code
def yX11_size : MethodName := ⟨RX11, "size", "(I)I"⟩
abbrev cX11_isWay : ByteArray := prog_13_method_5_code
def yX11_isWay : MethodName := ⟨RX11, "isWay", "(I)Z"⟩
abbrev cX11_isTick : ByteArray := prog_13_method_6_code
def yX11_isTick : MethodName := ⟨RX11, "isTick", "(I)Z"⟩
abbrev cX11_isEnd : ByteArray := prog_13_method_7_code
def yX11_isEnd : MethodName := ⟨RX11, "isEnd", "(I)Z"⟩
abbrev cX11_turnPoint : ByteArray := prog_13_method_8_code
def yX11_turnPoint : MethodName := ⟨RX11, "turnPoint", "(III)V"⟩
abbrev cX11_set : ByteArray := prog_13_method_9_code
def yX11_set : MethodName := ⟨RX11, "set", "(II)I"⟩
abbrev cX11_setNow : ByteArray := prog_13_method_10_code
def yX11_setNow : MethodName := ⟨RX11, "setNow", "(I)I"⟩
abbrev cX11_say : ByteArray := prog_13_method_11_code
def yX11_say : MethodName := ⟨RX11, "say", "(I)I"⟩
abbrev cX11_wipe : ByteArray := prog_13_method_12_code
def yX11_wipe : MethodName := ⟨RX11, "wipe", "()I"⟩
abbrev cX11_isDigit : ByteArray := prog_13_method_13_code
def yX11_isDigit : MethodName := ⟨RX11, "isDigit", "(I)Z"⟩
abbrev cX11_fault : ByteArray := prog_13_method_14_code
def yX11_fault : MethodName := ⟨RX11, "fault", "()I"⟩
abbrev cX11_push : ByteArray := prog_13_method_15_code
def yX11_push : MethodName := ⟨RX11, "push", "()I"⟩
abbrev cX11_held : ByteArray := prog_13_method_16_code
def yX11_held : MethodName := ⟨RX11, "held", "(I)I"⟩
abbrev cX11_layTurns : ByteArray := prog_13_method_17_code
def yX11_layTurns : MethodName := ⟨RX11, "layTurns", "()V"⟩
abbrev cX11_wayAt : ByteArray := prog_13_method_18_code
def yX11_wayAt : MethodName := ⟨RX11, "wayAt", "(I)I"⟩
abbrev cX11_turn : ByteArray := prog_13_method_19_code
def yX11_turn : MethodName := ⟨RX11, "turn", "(II)I"⟩
abbrev cX11_sit : ByteArray := prog_13_method_20_code
def yX11_sit : MethodName := ⟨RX11, "sit", "(II)I"⟩
abbrev cX11_isOne : ByteArray := prog_13_method_21_code
def yX11_isOne : MethodName := ⟨RX11, "isOne", "(I)Z"⟩
abbrev cX11_layOne : ByteArray := prog_13_method_22_code
def yX11_layOne : MethodName := ⟨RX11, "layOne", "(II)V"⟩
abbrev cX11_point : ByteArray := prog_13_method_23_code
def yX11_point : MethodName := ⟨RX11, "point", "(III)I"⟩
abbrev cX11_layThrow : ByteArray := prog_13_method_24_code
def yX11_layThrow : MethodName := ⟨RX11, "layThrow", "(III)V"⟩
abbrev cX11_ballX : ByteArray := prog_13_method_25_code
def yX11_ballX : MethodName := ⟨RX11, "ballX", "(I)I"⟩
abbrev cX11_ballY : ByteArray := prog_13_method_26_code
def yX11_ballY : MethodName := ⟨RX11, "ballY", "(I)I"⟩
abbrev cX11_seeBall : ByteArray := prog_13_method_27_code
def yX11_seeBall : MethodName := ⟨RX11, "seeBall", "(I)V"⟩
abbrev cX11_isThrow : ByteArray := prog_13_method_28_code
def yX11_isThrow : MethodName := ⟨RX11, "isThrow", "(II)Z"⟩
abbrev cX11_ball : ByteArray := prog_13_method_29_code
def yX11_ball : MethodName := ⟨RX11, "ball", "(IIIII)I"⟩
abbrev cX11_farFrom : ByteArray := prog_13_method_30_code
def yX11_farFrom : MethodName := ⟨RX11, "farFrom", "(II)I"⟩
abbrev cX11_caughtOf : ByteArray := prog_13_method_31_code
def yX11_caughtOf : MethodName := ⟨RX11, "caughtOf", "(IIII)I"⟩
abbrev cX11_caught : ByteArray := prog_13_method_32_code
def yX11_caught : MethodName := ⟨RX11, "caught", "(IIII)I"⟩
abbrev cX11_neighbours : ByteArray := prog_13_method_33_code
def yX11_neighbours : MethodName := ⟨RX11, "neighbours", "(II)I"⟩
abbrev cX11_all : ByteArray := prog_13_method_34_code
def yX11_all : MethodName := ⟨RX11, "all", "(III)I"⟩
abbrev cX11_side : ByteArray := prog_13_method_35_code
def yX11_side : MethodName := ⟨RX11, "side", "(III)I"⟩
abbrev cX11_isBetween : ByteArray := prog_13_method_36_code
def yX11_isBetween : MethodName := ⟨RX11, "isBetween", "(III)Z"⟩
abbrev cX11_lies : ByteArray := prog_13_method_37_code
def yX11_lies : MethodName := ⟨RX11, "lies", "(III)Z"⟩
abbrev cX11_meet : ByteArray := prog_13_method_38_code
def yX11_meet : MethodName := ⟨RX11, "meet", "(II)Z"⟩
abbrev cX11_loops : ByteArray := prog_13_method_39_code
def yX11_loops : MethodName := ⟨RX11, "loops", "(III)I"⟩
abbrev cX11_beginRoll : ByteArray := prog_13_method_40_code
def yX11_beginRoll : MethodName := ⟨RX11, "beginRoll", "(IIII)V"⟩
abbrev cX11_roll : ByteArray := prog_13_method_41_code
def yX11_roll : MethodName := ⟨RX11, "roll", "()V"⟩
abbrev cX11_isPlace : ByteArray := prog_13_method_42_code
def yX11_isPlace : MethodName := ⟨RX11, "isPlace", "(III)Z"⟩
abbrev cX11_rolled : ByteArray := prog_13_method_43_code
def yX11_rolled : MethodName := ⟨RX11, "rolled", "(IIIIII)I"⟩
abbrev cX11_isOff : ByteArray := prog_13_method_44_code
def yX11_isOff : MethodName := ⟨RX11, "isOff", "()Z"⟩
abbrev cX11_off : ByteArray := prog_13_method_45_code
def yX11_off : MethodName := ⟨RX11, "off", "(IIII)I"⟩
abbrev cX11_leansOf : ByteArray := prog_13_method_46_code
def yX11_leansOf : MethodName := ⟨RX11, "leansOf", "(I)I"⟩
abbrev cX11_leans : ByteArray := prog_13_method_47_code
def yX11_leans : MethodName := ⟨RX11, "leans", "(I)I"⟩
abbrev cX11_stays : ByteArray := prog_13_method_48_code
def yX11_stays : MethodName := ⟨RX11, "stays", "(I)I"⟩
abbrev cX11_hut : ByteArray := prog_13_method_49_code
def yX11_hut : MethodName := ⟨RX11, "hut", "(III)I"⟩
abbrev cX11_film : ByteArray := prog_13_method_50_code
def yX11_film : MethodName := ⟨RX11, "film", "(II)I"⟩
abbrev cX11_clear : ByteArray := prog_13_method_51_code
def yX11_clear : MethodName := ⟨RX11, "clear", "()I"⟩
abbrev cX11_bentOf : ByteArray := prog_13_method_52_code
def yX11_bentOf : MethodName := ⟨RX11, "bentOf", "(I)I"⟩
abbrev cX11_bent : ByteArray := prog_13_method_53_code
def yX11_bent : MethodName := ⟨RX11, "bent", "(I)I"⟩
abbrev cX11_turnedBy : ByteArray := prog_13_method_54_code
def yX11_turnedBy : MethodName := ⟨RX11, "turnedBy", "()I"⟩
abbrev cX11_turned : ByteArray := prog_13_method_55_code
def yX11_turned : MethodName := ⟨RX11, "turned", "()I"⟩
abbrev cX11_span : ByteArray := prog_13_method_56_code
def yX11_span : MethodName := ⟨RX11, "span", "(II)I"⟩
abbrev cX11_firstWay : ByteArray := prog_13_method_57_code
def yX11_firstWay : MethodName := ⟨RX11, "firstWay", "(III)I"⟩
abbrev cX11_nextWay : ByteArray := prog_13_method_58_code
def yX11_nextWay : MethodName := ⟨RX11, "nextWay", "(II)I"⟩
abbrev cX11_triesFrom : ByteArray := prog_13_method_59_code
def yX11_triesFrom : MethodName := ⟨RX11, "triesFrom", "(IIII)I"⟩
abbrev cX11_areTwo : ByteArray := prog_13_method_60_code
def yX11_areTwo : MethodName := ⟨RX11, "areTwo", "(II)Z"⟩
abbrev cX11_learns : ByteArray := prog_13_method_61_code
def yX11_learns : MethodName := ⟨RX11, "learns", "(IIII)I"⟩
abbrev cX11_along : ByteArray := prog_13_method_62_code
def yX11_along : MethodName := ⟨RX11, "along", "(IIII)I"⟩
abbrev cX11_pass : ByteArray := prog_13_method_63_code
def yX11_pass : MethodName := ⟨RX11, "pass", "(I)I"⟩
abbrev cX11_passAll : ByteArray := prog_13_method_64_code
def yX11_passAll : MethodName := ⟨RX11, "passAll", "()V"⟩
abbrev cX11_image : ByteArray := prog_13_method_65_code
def yX11_image : MethodName := ⟨RX11, "image", "(I)I"⟩
abbrev cX11_restore : ByteArray := prog_13_method_66_code
def yX11_restore : MethodName := ⟨RX11, "restore", "(I)I"⟩
abbrev cX11_told : ByteArray := prog_13_method_67_code
def yX11_told : MethodName := ⟨RX11, "told", "(I)I"⟩
def RJx8e188 : String := "java/lang/Cloneable"
def TJx8e188 : u_T := fun k => match k with
  | _ => ("", "", "", false)
def tyJx8e188 : Nat → FieldType := fun k => match k with
  | _ => .int
abbrev wsJx8e1880 : List Cond := u_ws RJx8e188 TJx8e188 0
theorem nmJx8e188 : ∀ a, a < 0 → ∀ b, b < 0 → a ≠ b → (TJx8e188 a).2.1 ≠ (TJx8e188 b).2.1 := by decide +kernel
theorem tyJx8e188_ok : ∀ k, k < 0 → parseFieldDescriptor (TJx8e188 k).2.2.1 = some (tyJx8e188 k) := by decide +kernel
def RJ6 : String := "java/lang/Integer"
def TJ6 : u_T := fun k => match k with
  | _ => ("", "", "", false)
def tyJ6 : Nat → FieldType := fun k => match k with
  | _ => .int
abbrev wsJ60 : List Cond := u_ws RJ6 TJ6 0
theorem nmJ6 : ∀ a, a < 0 → ∀ b, b < 0 → a ≠ b → (TJ6 a).2.1 ≠ (TJ6 b).2.1 := by decide +kernel
theorem tyJ6_ok : ∀ k, k < 0 → parseFieldDescriptor (TJ6 k).2.2.1 = some (tyJ6 k) := by decide +kernel
abbrev cJ6_bitCount_0f7a4 : ByteArray := prog_15_method_49_code
def yJ6_bitCount_0f7a4 : MethodName := ⟨RJ6, "bitCount", "(I)I"⟩
def RJ13 : String := "java/lang/Long"
def TJ13 : u_T := fun k => match k with
  | _ => ("", "", "", false)
def tyJ13 : Nat → FieldType := fun k => match k with
  | _ => .int
abbrev wsJ130 : List Cond := u_ws RJ13 TJ13 0
theorem nmJ13 : ∀ a, a < 0 → ∀ b, b < 0 → a ≠ b → (TJ13 a).2.1 ≠ (TJ13 b).2.1 := by decide +kernel
theorem tyJ13_ok : ∀ k, k < 0 → parseFieldDescriptor (TJ13 k).2.2.1 = some (tyJ13 k) := by decide +kernel
abbrev cJ13_signum_95d88 : ByteArray := prog_16_method_57_code
def yJ13_signum_95d88 : MethodName := ⟨RJ13, "signum", "(J)I"⟩
def RJ9 : String := "java/lang/Math"
def TJ9 : u_T := fun k => match k with
  | _ => ("", "", "", false)
def tyJ9 : Nat → FieldType := fun k => match k with
  | _ => .int
abbrev wsJ90 : List Cond := u_ws RJ9 TJ9 0
theorem nmJ9 : ∀ a, a < 0 → ∀ b, b < 0 → a ≠ b → (TJ9 a).2.1 ≠ (TJ9 b).2.1 := by decide +kernel
theorem tyJ9_ok : ∀ k, k < 0 → parseFieldDescriptor (TJ9 k).2.2.1 = some (tyJ9 k) := by decide +kernel
abbrev cJ9_floorMod_7cf53 : ByteArray := prog_17_method_50_code
def yJ9_floorMod_7cf53 : MethodName := ⟨RJ9, "floorMod", "(II)I"⟩
abbrev cJ9_abs_067f4 : ByteArray := prog_17_method_61_code
def yJ9_abs_067f4 : MethodName := ⟨RJ9, "abs", "(J)J"⟩
abbrev cJ9_max_7cf53 : ByteArray := prog_17_method_65_code
def yJ9_max_7cf53 : MethodName := ⟨RJ9, "max", "(II)I"⟩
abbrev cJ9_max_f86c9 : ByteArray := prog_17_method_66_code
def yJ9_max_f86c9 : MethodName := ⟨RJ9, "max", "(JJ)J"⟩
abbrev cJ9_min_7cf53 : ByteArray := prog_17_method_69_code
def yJ9_min_7cf53 : MethodName := ⟨RJ9, "min", "(II)I"⟩
abbrev cJ9_min_f86c9 : ByteArray := prog_17_method_70_code
def yJ9_min_f86c9 : MethodName := ⟨RJ9, "min", "(JJ)J"⟩
def RJ10 : String := "java/lang/System"
def TJ10 : u_T := fun k => match k with
  | _ => ("", "", "", false)
def tyJ10 : Nat → FieldType := fun k => match k with
  | _ => .int
abbrev wsJ100 : List Cond := u_ws RJ10 TJ10 0
theorem nmJ10 : ∀ a, a < 0 → ∀ b, b < 0 → a ≠ b → (TJ10 a).2.1 ≠ (TJ10 b).2.1 := by decide +kernel
theorem tyJ10_ok : ∀ k, k < 0 → parseFieldDescriptor (TJ10 k).2.2.1 = some (tyJ10 k) := by decide +kernel
def RL : String := "RoundThrowLaw"
abbrev cL_law : ByteArray := code
def yL_law : MethodName := ⟨RL, "law", "([I)Z"⟩
def wsL_law_r1 : List Cond := [Cond.classLink RL 7 RX10, Cond.instantiable RX10 8, Cond.initialized RX10, Cond.classLink RL 10 RX11, Cond.instantiable RX11 35, Cond.initialized RX11, Cond.methodLink RL 9 yX10_init, Cond.instanceMethod yX10_init, Cond.code yX10_init cX10_init 1 none, Cond.methodLink RX10 1 objectInit, Cond.instanceMethod objectInit, Cond.code objectInit ⟨#[0xb1]⟩ 1 none, Cond.classLink RX10 7 RX4, Cond.instantiable RX4 2, Cond.initialized RX4, Cond.fieldLink RX10 10 "RoundThrow" "pad" "LRoundThrow$Pad;", Cond.classLink RX10 16 RX7, Cond.instantiable RX7 6, Cond.initialized RX7, Cond.fieldLink RX10 19 "RoundThrow" "setup" "LRoundThrow$Setup;", Cond.fieldLink RX10 23 "RoundThrow" "images" "[LRoundThrow$Setup;", Cond.classLink RX10 27 RX5, Cond.instantiable RX5 2, Cond.initialized RX5]
def wsL_law_r2 : List Cond := [Cond.fieldLink RX10 30 "RoundThrow" "platform" "LRoundThrow$Platform;", Cond.classLink RX10 34 RX0, Cond.instantiable RX0 6, Cond.initialized RX0, Cond.fieldLink RX10 37 "RoundThrow" "thrown" "LRoundThrow$Ball;", Cond.classLink RX10 41 RX8, Cond.instantiable RX8 2, Cond.initialized RX8, Cond.fieldLink RX10 44 "RoundThrow" "track" "LRoundThrow$Track;", Cond.classLink RX10 48 RX1, Cond.instantiable RX1 4, Cond.initialized RX1, Cond.fieldLink RX10 51 "RoundThrow" "table" "LRoundThrow$CatchTable;", Cond.classLink RX10 55 RX3, Cond.instantiable RX3 2, Cond.initialized RX3, Cond.fieldLink RX10 58 "RoundThrow" "learner" "LRoundThrow$Learner;", Cond.instanceMethod yX4_init, Cond.code yX4_init cX4_init 1 none, Cond.methodLink RX4 3 objectInit, Cond.arrayClass .int, Cond.fieldLink RX4 11 "RoundThrow$Pad" "signs" "[I", Cond.instanceMethod yX7_init, Cond.code yX7_init cX7_init 1 none]
def wsL_law_r3 : List Cond := [Cond.methodLink RX7 1 objectInit, Cond.fieldLink RX7 7 "RoundThrow$Setup" "FIRST" "[I", Cond.methodLink RX7 13 ⟨"[I", "clone", "()Ljava/lang/Object;"⟩, Cond.sameMethod "[I" "java/lang/Object" "clone" "()Ljava/lang/Object;", Cond.native ⟨"java/lang/Object", "clone", "()Ljava/lang/Object;"⟩, Cond.instanceMethod ⟨"java/lang/Object", "clone", "()Ljava/lang/Object;"⟩, Cond.selects "[I" ⟨"[I", "clone", "()Ljava/lang/Object;"⟩ ⟨"java/lang/Object", "clone", "()Ljava/lang/Object;"⟩, Cond.classLink RX7 14 "[I", Cond.fieldLink RX7 18 "RoundThrow$Setup" "settings" "[I", Cond.classLink RX7 21 RX6, Cond.instantiable RX6 4, Cond.initialized RX6, Cond.fieldLink RX7 24 "RoundThrow$Setup" "pushes" "LRoundThrow$Pushes;", Cond.classLink RX7 28 RX2, Cond.instantiable RX2 3, Cond.initialized RX2, Cond.fieldLink RX7 31 "RoundThrow$Setup" "film" "LRoundThrow$Film;", Cond.fieldLink RX7 35 "RoundThrow$Setup" "oneX" "[I", Cond.fieldLink RX7 38 "RoundThrow$Setup" "oneY" "[I", Cond.instanceMethod yX6_init, Cond.code yX6_init cX6_init 1 none, Cond.methodLink RX6 5 objectInit, Cond.fieldLink RX6 13 "RoundThrow$Pushes" "ticks" "[I", Cond.fieldLink RX6 17 "RoundThrow$Pushes" "sizes" "[I"]
def wsL_law_r4 : List Cond := [Cond.instanceMethod yX2_init, Cond.code yX2_init cX2_init 1 none, Cond.methodLink RX2 1 objectInit, Cond.fieldLink RX2 9 "RoundThrow$Film" "xs" "[I", Cond.fieldLink RX2 13 "RoundThrow$Film" "ys" "[I", Cond.instanceMethod yX5_init, Cond.code yX5_init cX5_init 1 none, Cond.methodLink RX5 3 objectInit, Cond.fieldLink RX5 9 "RoundThrow$Platform" "angles" "[I", Cond.fieldLink RX5 15 "RoundThrow$Platform" "paces" "[I", Cond.instanceMethod yX0_init, Cond.code yX0_init cX0_init 1 none, Cond.methodLink RX0 3 objectInit, Cond.instanceMethod yX8_init, Cond.code yX8_init cX8_init 1 none, Cond.methodLink RX8 3 objectInit, Cond.arrayClass .long, Cond.fieldLink RX8 9 "RoundThrow$Track" "xs" "[J", Cond.fieldLink RX8 15 "RoundThrow$Track" "ys" "[J", Cond.instanceMethod yX1_init, Cond.code yX1_init cX1_init 1 none, Cond.methodLink RX1 3 objectInit, Cond.fieldLink RX1 11 "RoundThrow$CatchTable" "rows" "[I", Cond.instanceMethod yX3_init]
def wsL_law_r5 : List Cond := [Cond.code yX3_init cX3_init 1 none, Cond.methodLink RX3 3 objectInit, Cond.methodLink RL 12 yX11_init, Cond.instanceMethod yX11_init, Cond.code yX11_init cX11_init 2 none, Cond.methodLink RX11 1 objectInit, Cond.fieldLink RX11 7 "RoundThrowModel" "sines" "[I", Cond.fieldLink RX11 13 "RoundThrowModel" "sets" "[I", Cond.fieldLink RX11 16 "RoundThrowModel" "angles" "[I", Cond.fieldLink RX11 19 "RoundThrowModel" "paces" "[I", Cond.fieldLink RX11 22 "RoundThrowModel" "signs" "[I", Cond.fieldLink RX11 25 "RoundThrowModel" "pushAt" "[I", Cond.fieldLink RX11 28 "RoundThrowModel" "pushBy" "[I", Cond.fieldLink RX11 31 "RoundThrowModel" "oneX" "[I", Cond.fieldLink RX11 34 "RoundThrowModel" "oneY" "[I", Cond.arrayClass .boolean, Cond.fieldLink RX11 37 "RoundThrowModel" "isCaught" "[Z", Cond.fieldLink RX11 41 "RoundThrowModel" "seenX" "[I", Cond.fieldLink RX11 44 "RoundThrowModel" "seenY" "[I", Cond.fieldLink RX11 47 "RoundThrowModel" "filmX" "[I", Cond.fieldLink RX11 50 "RoundThrowModel" "filmY" "[I", Cond.fieldLink RX11 53 "RoundThrowModel" "groundX" "[I", Cond.fieldLink RX11 56 "RoundThrowModel" "groundY" "[I", Cond.fieldLink RX11 59 "RoundThrowModel" "kept" "[I"]
def wsL_law_r6 : List Cond := [Cond.fieldLink RX11 62 "RoundThrowModel" "isKept" "[Z", Cond.methodLink RL 13 yX10_set, Cond.instanceMethod yX10_set, Cond.selects RX10 yX10_set yX10_set, Cond.code yX10_set cX10_set 4 (some .int), Cond.fieldLink RX10 66 "RoundThrow$Setup" "settings" "[I", Cond.methodLink RX10 62 yX7_takes, Cond.static yX7_takes, Cond.code yX7_takes cX7_takes 2 (some .boolean), Cond.fieldLink RX7 47 "RoundThrow$Setup" "LEAST" "[I", Cond.fieldLink RX7 50 "RoundThrow$Setup" "MOST" "[I", Cond.static yX10_within, Cond.code yX10_within cX10_within 3 (some .boolean), Cond.methodLink RL 17 yX11_set, Cond.instanceMethod yX11_set, Cond.selects RX11 yX11_set yX11_set, Cond.code yX11_set cX11_set 6 (some .int), Cond.constantLong RX11 82 (4), Cond.methodLink RX11 67 yX11_in, Cond.static yX11_in, Cond.code yX11_in cX11_in 6 (some .boolean), Cond.methodLink RX11 84 yX11_setNow, Cond.instanceMethod yX11_setNow, Cond.selects RX11 yX11_setNow yX11_setNow]
def wsL_law_r7 : List Cond := [Cond.code yX11_setNow cX11_setNow 2 (some .int), Cond.methodLink RL 18 yX10_say, Cond.instanceMethod yX10_say, Cond.selects RX10 yX10_say yX10_say, Cond.code yX10_say cX10_say 2 (some .int), Cond.fieldLink RX10 78 "RoundThrow$Pad" "length" "I", Cond.methodLink RX10 70 yX10_within, Cond.methodLink RX10 74 yX4_add, Cond.instanceMethod yX4_add, Cond.selects RX4 yX4_add yX4_add, Cond.code yX4_add cX4_add 2 (some .boolean), Cond.fieldLink RX4 15 "RoundThrow$Pad" "length" "I", Cond.methodLink RL 22 yX11_say, Cond.instanceMethod yX11_say, Cond.selects RX11 yX11_say yX11_say, Cond.code yX11_say cX11_say 2 (some .int), Cond.constantLong RX11 88 (33), Cond.constantLong RX11 90 (126), Cond.fieldLink RX11 92 "RoundThrowModel" "signMany" "I", Cond.methodLink RL 23 yX10_wipe, Cond.instanceMethod yX10_wipe, Cond.selects RX10 yX10_wipe yX10_wipe, Cond.code yX10_wipe cX10_wipe 2 (some .int), Cond.methodLink RL 27 yX11_wipe]
def wsL_law_r8 : List Cond := [Cond.instanceMethod yX11_wipe, Cond.selects RX11 yX11_wipe yX11_wipe, Cond.code yX11_wipe cX11_wipe 2 (some .int), Cond.methodLink RL 28 yX10_fault, Cond.instanceMethod yX10_fault, Cond.selects RX10 yX10_fault yX10_fault, Cond.code yX10_fault cX10_fault 1 (some .int), Cond.methodLink RX10 82 yX4_faultPlace, Cond.instanceMethod yX4_faultPlace, Cond.selects RX4 yX4_faultPlace yX4_faultPlace, Cond.code yX4_faultPlace cX4_faultPlace 3 (some .int), Cond.methodLink RX4 19 yX4_behind, Cond.static yX4_behind, Cond.code yX4_behind cX4_behind 3 (some .int), Cond.methodLink RX4 23 yX4_isDigit, Cond.static yX4_isDigit, Cond.code yX4_isDigit cX4_isDigit 1 (some .boolean), Cond.methodLink RL 31 yX11_fault, Cond.instanceMethod yX11_fault, Cond.selects RX11 yX11_fault yX11_fault, Cond.code yX11_fault cX11_fault 4 (some .int), Cond.constantLong RX11 99 (49), Cond.constantLong RX11 97 (57), Cond.methodLink RX11 101 yX11_isDigit]
def wsL_law_r9 : List Cond := [Cond.static yX11_isDigit, Cond.code yX11_isDigit cX11_isDigit 1 (some .boolean), Cond.constantLong RX11 95 (48), Cond.methodLink RL 32 yX10_push, Cond.instanceMethod yX10_push, Cond.selects RX10 yX10_push yX10_push, Cond.code yX10_push cX10_push 1 (some .int), Cond.fieldLink RX10 86 "RoundThrow$Setup" "pushes" "LRoundThrow$Pushes;", Cond.fieldLink RX10 96 "RoundThrow$Pushes" "parts" "I", Cond.methodLink RX10 90 yX6_read, Cond.instanceMethod yX6_read, Cond.selects RX6 yX6_read yX6_read, Cond.code yX6_read cX6_read 6 none, Cond.fieldLink RX6 20 "RoundThrow$Pushes" "count" "I", Cond.fieldLink RX6 24 "RoundThrow$Pushes" "parts" "I", Cond.fieldLink RX6 27 "RoundThrow$Pad" "length" "I", Cond.fieldLink RX6 30 "RoundThrow$Pad" "signs" "[I", Cond.methodLink RX6 33 yX4_isDigit, Cond.methodLink RX6 37 yX6_numberBehind, Cond.static yX6_numberBehind, Cond.code yX6_numberBehind cX6_numberBehind 4 (some .int), Cond.methodLink RL 35 yX11_push, Cond.instanceMethod yX11_push, Cond.selects RX11 yX11_push yX11_push]
def wsL_law_r10 : List Cond := [Cond.code yX11_push cX11_push 5 (some .int), Cond.fieldLink RX11 109 "RoundThrowModel" "pushMany" "I", Cond.fieldLink RX11 112 "RoundThrowModel" "partMany" "I", Cond.methodLink RX11 105 yX11_fault, Cond.methodLink RL 36 yX10_turn, Cond.instanceMethod yX10_turn, Cond.selects RX10 yX10_turn yX10_turn, Cond.code yX10_turn cX10_turn 3 (some .int), Cond.fieldLink RX10 109 "RoundThrow$Platform" "angles" "[I", Cond.fieldLink RX10 112 "RoundThrow$Platform" "paces" "[I", Cond.methodLink RX10 99 yX10_isTick, Cond.static yX10_isTick, Cond.code yX10_isTick cX10_isTick 1 (some .boolean), Cond.methodLink RX10 102 yX7_pace, Cond.instanceMethod yX7_pace, Cond.selects RX7 yX7_pace yX7_pace, Cond.code yX7_pace cX7_pace 1 (some .int), Cond.methodLink RX10 105 yX5_run, Cond.instanceMethod yX5_run, Cond.selects RX5 yX5_run yX5_run, Cond.code yX5_run cX5_run 5 none, Cond.fieldLink RX5 18 "RoundThrow$Setup" "pushes" "LRoundThrow$Pushes;", Cond.methodLink RX5 24 yX6_paceAt, Cond.instanceMethod yX6_paceAt]
def wsL_law_r11 : List Cond := [Cond.selects RX6 yX6_paceAt yX6_paceAt, Cond.code yX6_paceAt cX6_paceAt 5 (some .int), Cond.methodLink RX6 41 Lib.Math.min.name, Cond.static Lib.Math.min.name, Cond.initialized "java/lang/Math", Cond.code Lib.Math.min.name Lib.Math.min.code 2 (some .int), Cond.methodLink RX6 47 Lib.Math.max.name, Cond.static Lib.Math.max.name, Cond.code Lib.Math.max.name Lib.Math.max.code 2 (some .int), Cond.methodLink RX5 30 yJ9_floorMod_7cf53, Cond.static yJ9_floorMod_7cf53, Cond.initialized RJ9, Cond.code yJ9_floorMod_7cf53 cJ9_floorMod_7cf53 3 (some .int), Cond.methodLink RX5 35 yX7_slows, Cond.instanceMethod yX7_slows, Cond.selects RX7 yX7_slows yX7_slows, Cond.code yX7_slows cX7_slows 1 (some .int), Cond.methodLink RX5 39 yX5_nearerToZero, Cond.static yX5_nearerToZero, Cond.code yX5_nearerToZero cX5_nearerToZero 2 (some .int), Cond.methodLink RX5 42 Lib.Math.max.name, Cond.methodLink RX5 45 Lib.Math.min.name, Cond.methodLink RL 39 yX11_turn, Cond.instanceMethod yX11_turn]
def wsL_law_r12 : List Cond := [Cond.selects RX11 yX11_turn yX11_turn, Cond.code yX11_turn cX11_turn 3 (some .int), Cond.methodLink RX11 118 yX11_isTick, Cond.static yX11_isTick, Cond.code yX11_isTick cX11_isTick 1 (some .boolean), Cond.constantLong RX11 71 (60), Cond.methodLink RX11 121 yX11_isEnd, Cond.static yX11_isEnd, Cond.code yX11_isEnd cX11_isEnd 1 (some .boolean), Cond.methodLink RX11 124 yX11_layTurns, Cond.instanceMethod yX11_layTurns, Cond.selects RX11 yX11_layTurns yX11_layTurns, Cond.code yX11_layTurns cX11_layTurns 5 none, Cond.methodLink RX11 115 yX11_held, Cond.static yX11_held, Cond.code yX11_held cX11_held 1 (some .int), Cond.methodLink RL 40 yX10_sit, Cond.instanceMethod yX10_sit, Cond.selects RX10 yX10_sit yX10_sit, Cond.code yX10_sit cX10_sit 3 (some .int), Cond.fieldLink RX10 118 "RoundThrow$Setup" "ones" "I", Cond.methodLink RX10 115 yX10_isWay, Cond.static yX10_isWay, Cond.code yX10_isWay cX10_isWay 1 (some .boolean)]
def wsL_law_r13 : List Cond := [Cond.methodLink RX10 121 yX7_seat, Cond.instanceMethod yX7_seat, Cond.selects RX7 yX7_seat yX7_seat, Cond.code yX7_seat cX7_seat 4 (some .int), Cond.fieldLink RX7 53 "RoundThrow$Setup" "ones" "I", Cond.methodLink RX7 57 yX9_turnX, Cond.static yX9_turnX, Cond.initialized RX9, Cond.code yX9_turnX cX9_turnX 5 (some .long), Cond.constantLong RX9 28 (10000), Cond.methodLink RX9 21 yX9_cosine, Cond.static yX9_cosine, Cond.code yX9_cosine cX9_cosine 1 (some .long), Cond.fieldLink RX9 9 "RoundThrow$Ways" "SINES" "[I", Cond.methodLink RX9 15 yJ9_floorMod_7cf53, Cond.methodLink RX9 25 yX9_sine, Cond.static yX9_sine, Cond.code yX9_sine cX9_sine 1 (some .long), Cond.methodLink RX7 63 yX9_turnY, Cond.static yX9_turnY, Cond.code yX9_turnY cX9_turnY 5 (some .long), Cond.methodLink RL 43 yX11_sit, Cond.instanceMethod yX11_sit, Cond.selects RX11 yX11_sit yX11_sit]
def wsL_law_r14 : List Cond := [Cond.code yX11_sit cX11_sit 3 (some .int), Cond.constantLong RX11 127 (1000), Cond.fieldLink RX11 132 "RoundThrowModel" "ones" "I", Cond.fieldLink RX11 75 "RoundThrowModel" "turnedX" "I", Cond.fieldLink RX11 79 "RoundThrowModel" "turnedY" "I", Cond.methodLink RX11 129 yX11_isWay, Cond.static yX11_isWay, Cond.code yX11_isWay cX11_isWay 1 (some .boolean), Cond.constantLong RX11 65 (23), Cond.methodLink RX11 135 yX11_turnPoint, Cond.instanceMethod yX11_turnPoint, Cond.selects RX11 yX11_turnPoint yX11_turnPoint, Cond.code yX11_turnPoint cX11_turnPoint 8 none, Cond.constantLong RX11 73 (10000), Cond.methodLink RL 44 yX10_point, Cond.instanceMethod yX10_point, Cond.selects RX10 yX10_point yX10_point, Cond.code yX10_point cX10_point 7 (some .int), Cond.constant RX10 128 (-100000001), Cond.constant RX10 129 (-100000002), Cond.fieldLink RX10 130 "RoundThrow$Setup" "oneX" "[I", Cond.fieldLink RX10 133 "RoundThrow$Setup" "oneY" "[I", Cond.methodLink RX10 125 yX7_hasOne, Cond.instanceMethod yX7_hasOne]
def wsL_law_r15 : List Cond := [Cond.selects RX7 yX7_hasOne yX7_hasOne, Cond.code yX7_hasOne cX7_hasOne 2 (some .boolean), Cond.methodLink RX10 136 yX5_wayBehind, Cond.instanceMethod yX5_wayBehind, Cond.selects RX5 yX5_wayBehind yX5_wayBehind, Cond.code yX5_wayBehind cX5_wayBehind 2 (some .int), Cond.methodLink RX5 48 yX5_wayOf, Cond.static yX5_wayOf, Cond.code yX5_wayOf cX5_wayOf 1 (some .int), Cond.methodLink RX10 140 yX9_turnX, Cond.methodLink RX10 146 yX9_turnY, Cond.methodLink RL 48 yX11_point, Cond.instanceMethod yX11_point, Cond.selects RX11 yX11_point yX11_point, Cond.code yX11_point cX11_point 4 (some .int), Cond.constant RX11 145 (-100000001), Cond.constantLong RX11 146 (3), Cond.constant RX11 148 (-100000002), Cond.methodLink RX11 142 yX11_isOne, Cond.instanceMethod yX11_isOne, Cond.selects RX11 yX11_isOne yX11_isOne, Cond.code yX11_isOne cX11_isOne 2 (some .boolean), Cond.methodLink RX11 149 yX11_layOne, Cond.instanceMethod yX11_layOne]
def wsL_law_r16 : List Cond := [Cond.selects RX11 yX11_layOne yX11_layOne, Cond.code yX11_layOne cX11_layOne 3 none, Cond.methodLink RX11 139 yX11_wayAt, Cond.instanceMethod yX11_wayAt, Cond.selects RX11 yX11_wayAt yX11_wayAt, Cond.code yX11_wayAt cX11_wayAt 2 (some .int), Cond.methodLink RL 49 yX10_ball, Cond.instanceMethod yX10_ball, Cond.selects RX10 yX10_ball yX10_ball, Cond.code yX10_ball cX10_ball 11 (some .int), Cond.methodLink RX10 149 yX10_isThrow, Cond.static yX10_isThrow, Cond.code yX10_isThrow cX10_isThrow 2 (some .boolean), Cond.methodLink RX10 152 yX0_launch, Cond.instanceMethod yX0_launch, Cond.selects RX0 yX0_launch yX0_launch, Cond.code yX0_launch cX0_launch 7 none, Cond.fieldLink RX0 15 "RoundThrow$Ball" "x" "J", Cond.fieldLink RX0 21 "RoundThrow$Ball" "y" "J", Cond.fieldLink RX0 30 "RoundThrow$Ball" "besidesX" "J", Cond.fieldLink RX0 36 "RoundThrow$Ball" "besidesY" "J", Cond.methodLink RX0 9 yX5_wayBehind, Cond.methodLink RX0 24 yX9_turnX, Cond.methodLink RX0 33 yX9_turnY]
def wsL_law_r17 : List Cond := [Cond.methodLink RX0 39 yX0_throwAnew, Cond.instanceMethod yX0_throwAnew, Cond.selects RX0 yX0_throwAnew yX0_throwAnew, Cond.code yX0_throwAnew cX0_throwAnew 3 none, Cond.fieldLink RX0 43 "RoundThrow$Ball" "stepX" "J", Cond.fieldLink RX0 46 "RoundThrow$Ball" "stepY" "J", Cond.methodLink RX10 156 yX0_xBehind, Cond.instanceMethod yX0_xBehind, Cond.selects RX0 yX0_xBehind yX0_xBehind, Cond.code yX0_xBehind cX0_xBehind 2 (some .long), Cond.methodLink RX10 160 yX0_yBehind, Cond.instanceMethod yX0_yBehind, Cond.selects RX0 yX0_yBehind yX0_yBehind, Cond.code yX0_yBehind cX0_yBehind 2 (some .long), Cond.methodLink RX10 163 yX5_wayBack, Cond.instanceMethod yX5_wayBack, Cond.selects RX5 yX5_wayBack yX5_wayBack, Cond.code yX5_wayBack cX5_wayBack 2 (some .int), Cond.methodLink RX5 52 yX5_wayBehind, Cond.methodLink RL 53 yX11_ball, Cond.instanceMethod yX11_ball, Cond.selects RX11 yX11_ball yX11_ball, Cond.code yX11_ball cX11_ball 6 (some .int), Cond.methodLink RX11 173 yX11_isThrow]
def wsL_law_r18 : List Cond := [Cond.static yX11_isThrow, Cond.code yX11_isThrow cX11_isThrow 2 (some .boolean), Cond.constantLong RX11 171 (200), Cond.methodLink RX11 177 yX11_layThrow, Cond.instanceMethod yX11_layThrow, Cond.selects RX11 yX11_layThrow yX11_layThrow, Cond.code yX11_layThrow cX11_layThrow 4 none, Cond.fieldLink RX11 153 "RoundThrowModel" "fromX" "I", Cond.fieldLink RX11 156 "RoundThrowModel" "fromY" "I", Cond.fieldLink RX11 159 "RoundThrowModel" "goX" "I", Cond.fieldLink RX11 162 "RoundThrowModel" "goY" "I", Cond.methodLink RX11 165 yX11_ballX, Cond.instanceMethod yX11_ballX, Cond.selects RX11 yX11_ballX yX11_ballX, Cond.code yX11_ballX cX11_ballX 2 (some .int), Cond.methodLink RX11 168 yX11_ballY, Cond.instanceMethod yX11_ballY, Cond.selects RX11 yX11_ballY yX11_ballY, Cond.code yX11_ballY cX11_ballY 2 (some .int), Cond.methodLink RX11 180 yX11_seeBall, Cond.instanceMethod yX11_seeBall, Cond.selects RX11 yX11_seeBall yX11_seeBall, Cond.code yX11_seeBall cX11_seeBall 2 none, Cond.methodLink RL 54 yX10_caught]
def wsL_law_r19 : List Cond := [Cond.instanceMethod yX10_caught, Cond.selects RX10 yX10_caught yX10_caught, Cond.code yX10_caught cX10_caught 5 (some .int), Cond.methodLink RX10 166 yX8_followSeat, Cond.instanceMethod yX8_followSeat, Cond.selects RX8 yX8_followSeat yX8_followSeat, Cond.code yX8_followSeat cX8_followSeat 6 none, Cond.methodLink RX8 18 yX5_wayBehind, Cond.methodLink RX8 24 yX9_turnX, Cond.methodLink RX8 30 yX9_turnY, Cond.methodLink RX10 170 yX7_reach, Cond.instanceMethod yX7_reach, Cond.selects RX7 yX7_reach yX7_reach, Cond.code yX7_reach cX7_reach 1 (some .int), Cond.methodLink RX10 173 yX0_tickCaught, Cond.instanceMethod yX0_tickCaught, Cond.selects RX0 yX0_tickCaught yX0_tickCaught, Cond.code yX0_tickCaught cX0_tickCaught 4 (some .int), Cond.methodLink RX0 75 yX0_gap, Cond.instanceMethod yX0_gap, Cond.selects RX0 yX0_gap yX0_gap, Cond.code yX0_gap cX0_gap 3 (some .long), Cond.fieldLink RX0 53 "RoundThrow$Track" "xs" "[J", Cond.methodLink RX0 59 Lib.MathLoose.abs_long.x]
def wsL_law_r20 : List Cond := [Cond.static Lib.MathLoose.abs_long.x, Cond.code Lib.MathLoose.abs_long.x Lib.MathLoose.abs_long.code 2 (some .long), Cond.fieldLink RX0 68 "RoundThrow$Track" "ys" "[J", Cond.methodLink RX0 71 Lib.MathLoose.max_long.x, Cond.static Lib.MathLoose.max_long.x, Cond.code Lib.MathLoose.max_long.x Lib.MathLoose.max_long.code 4 (some .long), Cond.methodLink RX0 49 yX0_xBehind, Cond.methodLink RX0 65 yX0_yBehind, Cond.methodLink RL 58 yX11_caught, Cond.instanceMethod yX11_caught, Cond.selects RX11 yX11_caught yX11_caught, Cond.code yX11_caught cX11_caught 5 (some .int), Cond.methodLink RX11 191 yX11_caughtOf, Cond.instanceMethod yX11_caughtOf, Cond.selects RX11 yX11_caughtOf yX11_caughtOf, Cond.code yX11_caughtOf cX11_caughtOf 6 (some .int), Cond.methodLink RX11 187 yX11_farFrom, Cond.instanceMethod yX11_farFrom, Cond.selects RX11 yX11_farFrom yX11_farFrom, Cond.code yX11_farFrom cX11_farFrom 5 (some .int), Cond.methodLink RX11 184 yX11_size, Cond.static yX11_size, Cond.code yX11_size cX11_size 1 (some .int), Cond.methodLink RL 59 yX10_all]
def wsL_law_r21 : List Cond := [Cond.instanceMethod yX10_all, Cond.selects RX10 yX10_all yX10_all, Cond.code yX10_all cX10_all 4 (some .int), Cond.fieldLink RX10 187 "RoundThrow$CatchTable" "safeSpeed" "I", Cond.fieldLink RX10 190 "RoundThrow$CatchTable" "safeWay" "I", Cond.fieldLink RX10 193 "RoundThrow$CatchTable" "safeNeighbours" "I", Cond.methodLink RX10 177 yX1_fill, Cond.instanceMethod yX1_fill, Cond.selects RX1 yX1_fill yX1_fill, Cond.code yX1_fill cX1_fill 7 none, Cond.methodLink RX1 15 yX0_throwAnew, Cond.methodLink RX1 21 yX0_tickCaught, Cond.methodLink RX10 181 yX1_howMany, Cond.instanceMethod yX1_howMany, Cond.selects RX1 yX1_howMany yX1_howMany, Cond.code yX1_howMany cX1_howMany 3 (some .int), Cond.methodLink RX1 25 yJ6_bitCount_0f7a4, Cond.static yJ6_bitCount_0f7a4, Cond.initialized RJ6, Cond.code yJ6_bitCount_0f7a4 cJ6_bitCount_0f7a4 1 (some .int), Cond.constant RJ6 265 (1431655765), Cond.constant RJ6 266 (858993459), Cond.constant RJ6 267 (252645135), Cond.methodLink RX10 184 yX1_findSafe]
def wsL_law_r22 : List Cond := [Cond.instanceMethod yX1_findSafe, Cond.selects RX1 yX1_findSafe yX1_findSafe, Cond.code yX1_findSafe cX1_findSafe 3 none, Cond.fieldLink RX1 31 "RoundThrow$CatchTable" "safeSpeed" "I", Cond.fieldLink RX1 35 "RoundThrow$CatchTable" "safeWay" "I", Cond.fieldLink RX1 38 "RoundThrow$CatchTable" "safeNeighbours" "I", Cond.methodLink RX1 41 yX1_bit, Cond.instanceMethod yX1_bit, Cond.selects RX1 yX1_bit yX1_bit, Cond.code yX1_bit cX1_bit 3 (some .int), Cond.methodLink RX1 48 yJ9_floorMod_7cf53, Cond.methodLink RX1 45 yX1_neighbours, Cond.instanceMethod yX1_neighbours, Cond.selects RX1 yX1_neighbours yX1_neighbours, Cond.code yX1_neighbours cX1_neighbours 5 (some .int), Cond.methodLink RL 62 yX11_all, Cond.instanceMethod yX11_all, Cond.selects RX11 yX11_all yX11_all, Cond.code yX11_all cX11_all 9 (some .int), Cond.methodLink RX11 195 yX11_neighbours, Cond.instanceMethod yX11_neighbours, Cond.selects RX11 yX11_neighbours yX11_neighbours, Cond.code yX11_neighbours cX11_neighbours 7 (some .int), Cond.methodLink RL 63 yX10_loops]
def wsL_law_r23 : List Cond := [Cond.instanceMethod yX10_loops, Cond.selects RX10 yX10_loops yX10_loops, Cond.code yX10_loops cX10_loops 4 (some .int), Cond.methodLink RX10 196 yX8_followSeen, Cond.instanceMethod yX8_followSeen, Cond.selects RX8 yX8_followSeen yX8_followSeen, Cond.code yX8_followSeen cX8_followSeen 5 none, Cond.methodLink RX8 33 yX5_wayBack, Cond.methodLink RX8 36 yX0_xBehind, Cond.methodLink RX8 42 yX0_yBehind, Cond.methodLink RX10 200 yX8_crossesItself, Cond.instanceMethod yX8_crossesItself, Cond.selects RX8 yX8_crossesItself yX8_crossesItself, Cond.code yX8_crossesItself cX8_crossesItself 3 (some .boolean), Cond.methodLink RX8 45 yX8_linesMeet, Cond.instanceMethod yX8_linesMeet, Cond.selects RX8 yX8_linesMeet yX8_linesMeet, Cond.code yX8_linesMeet cX8_linesMeet 3 (some .boolean), Cond.methodLink RX8 49 yX8_spansMeet, Cond.static yX8_spansMeet, Cond.code yX8_spansMeet cX8_spansMeet 3 (some .boolean), Cond.methodLink RX8 56 Lib.MathLoose.min_long.x, Cond.static Lib.MathLoose.min_long.x, Cond.code Lib.MathLoose.min_long.x Lib.MathLoose.min_long.code 4 (some .long)]
def wsL_law_r24 : List Cond := [Cond.methodLink RX8 62 Lib.MathLoose.max_long.x, Cond.methodLink RX8 53 yX8_isAcross, Cond.instanceMethod yX8_isAcross, Cond.selects RX8 yX8_isAcross yX8_isAcross, Cond.code yX8_isAcross cX8_isAcross 3 (some .boolean), Cond.methodLink RX8 65 yX8_side, Cond.instanceMethod yX8_side, Cond.selects RX8 yX8_side yX8_side, Cond.code yX8_side cX8_side 3 (some .long), Cond.methodLink RX8 69 yJ13_signum_95d88, Cond.static yJ13_signum_95d88, Cond.initialized RJ13, Cond.code yJ13_signum_95d88 cJ13_signum_95d88 2 (some .int), Cond.methodLink RL 66 yX11_loops, Cond.instanceMethod yX11_loops, Cond.selects RX11 yX11_loops yX11_loops, Cond.code yX11_loops cX11_loops 7 (some .int), Cond.methodLink RX11 209 yX11_meet, Cond.instanceMethod yX11_meet, Cond.selects RX11 yX11_meet yX11_meet, Cond.code yX11_meet cX11_meet 9 (some .boolean), Cond.methodLink RX11 202 yX11_side, Cond.instanceMethod yX11_side, Cond.selects RX11 yX11_side yX11_side]
def wsL_law_r25 : List Cond := [Cond.code yX11_side cX11_side 6 (some .int), Cond.methodLink RX11 206 yX11_lies, Cond.instanceMethod yX11_lies, Cond.selects RX11 yX11_lies yX11_lies, Cond.code yX11_lies cX11_lies 4 (some .boolean), Cond.methodLink RX11 198 yX11_isBetween, Cond.static yX11_isBetween, Cond.code yX11_isBetween cX11_isBetween 3 (some .boolean), Cond.methodLink RL 67 yX10_rolled, Cond.instanceMethod yX10_rolled, Cond.selects RX10 yX10_rolled yX10_rolled, Cond.code yX10_rolled cX10_rolled 8 (some .int), Cond.fieldLink RX10 213 "RoundThrow$Ball" "x" "J", Cond.fieldLink RX10 217 "RoundThrow$Ball" "y" "J", Cond.methodLink RX10 204 yX10_isPlace, Cond.static yX10_isPlace, Cond.code yX10_isPlace cX10_isPlace 2 (some .boolean), Cond.methodLink RX10 207 yX7_rub, Cond.instanceMethod yX7_rub, Cond.selects RX7 yX7_rub yX7_rub, Cond.code yX7_rub cX7_rub 1 (some .int), Cond.methodLink RX10 210 yX0_rollOn, Cond.instanceMethod yX0_rollOn, Cond.selects RX0 yX0_rollOn yX0_rollOn]
def wsL_law_r26 : List Cond := [Cond.code yX0_rollOn cX0_rollOn 15 none, Cond.constantLong RX0 82 (100), Cond.methodLink RX0 79 yX5_wayBack, Cond.methodLink RL 71 yX11_rolled, Cond.instanceMethod yX11_rolled, Cond.selects RX11 yX11_rolled yX11_rolled, Cond.code yX11_rolled cX11_rolled 7 (some .int), Cond.fieldLink RX11 218 "RoundThrowModel" "rollTick" "I", Cond.fieldLink RX11 212 "RoundThrowModel" "rollX" "I", Cond.fieldLink RX11 215 "RoundThrowModel" "rollY" "I", Cond.methodLink RX11 221 yX11_isPlace, Cond.static yX11_isPlace, Cond.code yX11_isPlace cX11_isPlace 3 (some .boolean), Cond.methodLink RX11 224 yX11_beginRoll, Cond.instanceMethod yX11_beginRoll, Cond.selects RX11 yX11_beginRoll yX11_beginRoll, Cond.code yX11_beginRoll cX11_beginRoll 5 none, Cond.methodLink RX11 228 yX11_roll, Cond.instanceMethod yX11_roll, Cond.selects RX11 yX11_roll yX11_roll, Cond.code yX11_roll cX11_roll 5 none, Cond.methodLink RL 72 yX10_off, Cond.instanceMethod yX10_off, Cond.selects RX10 yX10_off yX10_off]
def wsL_law_r27 : List Cond := [Cond.code yX10_off cX10_off 6 (some .int), Cond.methodLink RX10 220 yX7_rim, Cond.instanceMethod yX7_rim, Cond.selects RX7 yX7_rim yX7_rim, Cond.code yX7_rim cX7_rim 1 (some .int), Cond.methodLink RX10 223 yX0_isBeyond, Cond.instanceMethod yX0_isBeyond, Cond.selects RX0 yX0_isBeyond yX0_isBeyond, Cond.code yX0_isBeyond cX0_isBeyond 3 (some .boolean), Cond.methodLink RL 75 yX11_off, Cond.instanceMethod yX11_off, Cond.selects RX11 yX11_off yX11_off, Cond.code yX11_off cX11_off 5 (some .int), Cond.methodLink RX11 231 yX11_isOff, Cond.instanceMethod yX11_isOff, Cond.selects RX11 yX11_isOff yX11_isOff, Cond.code yX11_isOff cX11_isOff 1 (some .boolean), Cond.methodLink RL 76 yX10_leans, Cond.instanceMethod yX10_leans, Cond.selects RX10 yX10_leans yX10_leans, Cond.code yX10_leans cX10_leans 2 (some .int), Cond.methodLink RX10 227 yX10_lean, Cond.static yX10_lean, Cond.code yX10_lean cX10_lean 2 (some .int)]
def wsL_law_r28 : List Cond := [Cond.methodLink RL 79 yX11_leans, Cond.instanceMethod yX11_leans, Cond.selects RX11 yX11_leans yX11_leans, Cond.code yX11_leans cX11_leans 2 (some .int), Cond.methodLink RX11 235 yX11_leansOf, Cond.instanceMethod yX11_leansOf, Cond.selects RX11 yX11_leansOf yX11_leansOf, Cond.code yX11_leansOf cX11_leansOf 2 (some .int), Cond.methodLink RL 80 yX10_stays, Cond.instanceMethod yX10_stays, Cond.selects RX10 yX10_stays yX10_stays, Cond.code yX10_stays cX10_stays 3 (some .int), Cond.methodLink RL 83 yX11_stays, Cond.instanceMethod yX11_stays, Cond.selects RX11 yX11_stays yX11_stays, Cond.code yX11_stays cX11_stays 3 (some .int), Cond.constantLong RX11 238 (9999), Cond.methodLink RL 84 yX10_hut, Cond.instanceMethod yX10_hut, Cond.selects RX10 yX10_hut yX10_hut, Cond.code yX10_hut cX10_hut 6 (some .int), Cond.methodLink RL 87 yX11_hut, Cond.instanceMethod yX11_hut, Cond.selects RX11 yX11_hut yX11_hut]
def wsL_law_r29 : List Cond := [Cond.code yX11_hut cX11_hut 6 (some .int), Cond.methodLink RL 88 yX10_film, Cond.instanceMethod yX10_film, Cond.selects RX10 yX10_film yX10_film, Cond.code yX10_film cX10_film 3 (some .int), Cond.fieldLink RX10 232 "RoundThrow$Setup" "film" "LRoundThrow$Film;", Cond.fieldLink RX10 238 "RoundThrow$Film" "points" "I", Cond.methodLink RX10 236 yX2_add, Cond.instanceMethod yX2_add, Cond.selects RX2 yX2_add yX2_add, Cond.code yX2_add cX2_add 3 (some .boolean), Cond.fieldLink RX2 16 "RoundThrow$Film" "points" "I", Cond.methodLink RL 91 yX11_film, Cond.instanceMethod yX11_film, Cond.selects RX11 yX11_film yX11_film, Cond.code yX11_film cX11_film 3 (some .int), Cond.fieldLink RX11 240 "RoundThrowModel" "filmMany" "I", Cond.methodLink RL 92 yX10_clear, Cond.instanceMethod yX10_clear, Cond.selects RX10 yX10_clear yX10_clear, Cond.code yX10_clear cX10_clear 2 (some .int), Cond.methodLink RL 95 yX11_clear, Cond.instanceMethod yX11_clear, Cond.selects RX11 yX11_clear yX11_clear]
def wsL_law_r30 : List Cond := [Cond.code yX11_clear cX11_clear 2 (some .int), Cond.methodLink RL 96 yX10_bent, Cond.instanceMethod yX10_bent, Cond.selects RX10 yX10_bent yX10_bent, Cond.code yX10_bent cX10_bent 2 (some .int), Cond.methodLink RX10 241 yX2_bend, Cond.instanceMethod yX2_bend, Cond.selects RX2 yX2_bend yX2_bend, Cond.code yX2_bend cX2_bend 5 (some .int), Cond.constantLong RX2 24 (2), Cond.methodLink RX2 26 Lib.MathLoose.abs_long.x, Cond.methodLink RX2 20 yX2_groundX, Cond.instanceMethod yX2_groundX, Cond.selects RX2 yX2_groundX yX2_groundX, Cond.code yX2_groundX cX2_groundX 3 (some .long), Cond.methodLink RX2 35 yX5_wayOf, Cond.methodLink RX2 41 yX9_turnX, Cond.methodLink RX2 32 yX2_groundY, Cond.instanceMethod yX2_groundY, Cond.selects RX2 yX2_groundY yX2_groundY, Cond.code yX2_groundY cX2_groundY 3 (some .long), Cond.methodLink RX2 47 yX9_turnY, Cond.methodLink RL 99 yX11_bent, Cond.instanceMethod yX11_bent]
def wsL_law_r31 : List Cond := [Cond.selects RX11 yX11_bent yX11_bent, Cond.code yX11_bent cX11_bent 2 (some .int), Cond.constantLong RX11 243 (-60), Cond.methodLink RX11 245 yX11_bentOf, Cond.instanceMethod yX11_bentOf, Cond.selects RX11 yX11_bentOf yX11_bentOf, Cond.code yX11_bentOf cX11_bentOf 6 (some .int), Cond.methodLink RL 100 yX10_turned, Cond.instanceMethod yX10_turned, Cond.selects RX10 yX10_turned yX10_turned, Cond.code yX10_turned cX10_turned 1 (some .int), Cond.constant RX10 250 (-100000003), Cond.methodLink RX10 244 yX2_tells, Cond.instanceMethod yX2_tells, Cond.selects RX2 yX2_tells yX2_tells, Cond.code yX2_tells cX2_tells 1 (some .boolean), Cond.methodLink RX10 247 yX2_likeliestPace, Cond.instanceMethod yX2_likeliestPace, Cond.selects RX2 yX2_likeliestPace yX2_likeliestPace, Cond.code yX2_likeliestPace cX2_likeliestPace 7 (some .int), Cond.methodLink RX2 50 yX2_bend, Cond.methodLink RL 103 yX11_turned, Cond.instanceMethod yX11_turned, Cond.selects RX11 yX11_turned yX11_turned]
def wsL_law_r32 : List Cond := [Cond.code yX11_turned cX11_turned 1 (some .int), Cond.constant RX11 248 (-100000003), Cond.methodLink RX11 249 yX11_turnedBy, Cond.instanceMethod yX11_turnedBy, Cond.selects RX11 yX11_turnedBy yX11_turnedBy, Cond.code yX11_turnedBy cX11_turnedBy 3 (some .int), Cond.methodLink RL 104 yX10_span, Cond.instanceMethod yX10_span, Cond.selects RX10 yX10_span yX10_span, Cond.code yX10_span cX10_span 3 (some .int), Cond.methodLink RX10 251 yX2_farthestPace, Cond.instanceMethod yX2_farthestPace, Cond.selects RX2 yX2_farthestPace yX2_farthestPace, Cond.code yX2_farthestPace cX2_farthestPace 6 (some .int), Cond.methodLink RX2 53 yX2_likeliestPace, Cond.methodLink RL 107 yX11_span, Cond.instanceMethod yX11_span, Cond.selects RX11 yX11_span yX11_span, Cond.code yX11_span cX11_span 6 (some .int), Cond.methodLink RL 108 yX10_learns, Cond.instanceMethod yX10_learns, Cond.selects RX10 yX10_learns yX10_learns, Cond.code yX10_learns cX10_learns 5 (some .int), Cond.fieldLink RX10 260 "RoundThrow$Learner" "tries" "I"]
def wsL_law_r33 : List Cond := [Cond.fieldLink RX10 263 "RoundThrow$Learner" "way" "I", Cond.methodLink RX10 254 yX10_areTwo, Cond.instanceMethod yX10_areTwo, Cond.selects RX10 yX10_areTwo yX10_areTwo, Cond.code yX10_areTwo cX10_areTwo 3 (some .boolean), Cond.methodLink RX10 257 yX10_learnsAtFirst, Cond.instanceMethod yX10_learnsAtFirst, Cond.selects RX10 yX10_learnsAtFirst yX10_learnsAtFirst, Cond.code yX10_learnsAtFirst cX10_learnsAtFirst 4 (some .boolean), Cond.methodLink RX10 276 yX3_aim, Cond.instanceMethod yX3_aim, Cond.selects RX3 yX3_aim yX3_aim, Cond.code yX3_aim cX3_aim 5 none, Cond.fieldLink RX3 9 "RoundThrow$Learner" "way" "I", Cond.methodLink RX3 15 yX3_product, Cond.static yX3_product, Cond.code yX3_product cX3_product 4 (some .long), Cond.methodLink RX3 19 yX9_turnX, Cond.methodLink RX3 25 yX9_turnY, Cond.methodLink RX10 266 yX10_tries, Cond.instanceMethod yX10_tries, Cond.selects RX10 yX10_tries yX10_tries, Cond.code yX10_tries cX10_tries 5 (some .boolean), Cond.methodLink RX10 280 yX3_practise]
def wsL_law_r34 : List Cond := [Cond.instanceMethod yX3_practise, Cond.selects RX3 yX3_practise yX3_practise, Cond.code yX3_practise cX3_practise 7 (some .boolean), Cond.fieldLink RX3 28 "RoundThrow$Learner" "tries" "I", Cond.methodLink RX3 31 yX0_throwAnew, Cond.methodLink RX3 37 yX0_tickCaught, Cond.methodLink RX3 41 yX0_tickNearest, Cond.instanceMethod yX0_tickNearest, Cond.selects RX0 yX0_tickNearest yX0_tickNearest, Cond.code yX0_tickNearest cX0_tickNearest 8 (some .int), Cond.methodLink RX3 45 yX0_isRightOf, Cond.instanceMethod yX0_isRightOf, Cond.selects RX0 yX0_isRightOf yX0_isRightOf, Cond.code yX0_isRightOf cX0_isRightOf 3 (some .boolean), Cond.methodLink RX3 49 yJ9_floorMod_7cf53, Cond.methodLink RL 111 yX11_learns, Cond.instanceMethod yX11_learns, Cond.selects RX11 yX11_learns yX11_learns, Cond.code yX11_learns cX11_learns 6 (some .int), Cond.fieldLink RX11 252 "RoundThrowModel" "lastWay" "I", Cond.methodLink RX11 258 yX11_areTwo, Cond.instanceMethod yX11_areTwo, Cond.selects RX11 yX11_areTwo yX11_areTwo, Cond.code yX11_areTwo cX11_areTwo 3 (some .boolean)]
def wsL_law_r35 : List Cond := [Cond.methodLink RX11 261 yX11_firstWay, Cond.instanceMethod yX11_firstWay, Cond.selects RX11 yX11_firstWay yX11_firstWay, Cond.code yX11_firstWay cX11_firstWay 10 (some .int), Cond.methodLink RX11 264 yX11_triesFrom, Cond.instanceMethod yX11_triesFrom, Cond.selects RX11 yX11_triesFrom yX11_triesFrom, Cond.code yX11_triesFrom cX11_triesFrom 6 (some .int), Cond.methodLink RX11 255 yX11_nextWay, Cond.instanceMethod yX11_nextWay, Cond.selects RX11 yX11_nextWay yX11_nextWay, Cond.code yX11_nextWay cX11_nextWay 7 (some .int), Cond.methodLink RL 112 yX10_along, Cond.instanceMethod yX10_along, Cond.selects RX10 yX10_along yX10_along, Cond.code yX10_along cX10_along 5 (some .int), Cond.methodLink RL 115 yX11_along, Cond.instanceMethod yX11_along, Cond.selects RX11 yX11_along yX11_along, Cond.code yX11_along cX11_along 7 (some .int), Cond.constantLong RX11 267 (198), Cond.methodLink RL 116 yX10_image, Cond.instanceMethod yX10_image, Cond.selects RX10 yX10_image yX10_image]
def wsL_law_r36 : List Cond := [Cond.code yX10_image cX10_image 2 (some .int), Cond.methodLink RX10 269 yX10_isImage, Cond.static yX10_isImage, Cond.code yX10_isImage cX10_isImage 1 (some .boolean), Cond.methodLink RX10 272 yX7_become, Cond.instanceMethod yX7_become, Cond.selects RX7 yX7_become yX7_become, Cond.code yX7_become cX7_become 2 none, Cond.methodLink RX7 66 arraycopyName, Cond.native arraycopyName, Cond.static arraycopyName, Cond.initialized "java/lang/System", Cond.methodLink RX7 72 yX6_become, Cond.instanceMethod yX6_become, Cond.selects RX6 yX6_become yX6_become, Cond.code yX6_become cX6_become 2 none, Cond.methodLink RX6 50 arraycopyName, Cond.methodLink RX7 76 yX2_become, Cond.instanceMethod yX2_become, Cond.selects RX2 yX2_become yX2_become, Cond.code yX2_become cX2_become 2 none, Cond.methodLink RX2 57 arraycopyName, Cond.methodLink RL 119 yX11_image, Cond.instanceMethod yX11_image]
def wsL_law_r37 : List Cond := [Cond.selects RX11 yX11_image yX11_image, Cond.code yX11_image cX11_image 2 (some .int), Cond.fieldLink RX11 273 "RoundThrowModel" "keptAt" "I", Cond.fieldLink RX11 269 "RoundThrowModel" "isWriting" "Z", Cond.methodLink RX11 279 yX11_passAll, Cond.instanceMethod yX11_passAll, Cond.selects RX11 yX11_passAll yX11_passAll, Cond.code yX11_passAll cX11_passAll 2 none, Cond.methodLink RX11 276 yX11_pass, Cond.instanceMethod yX11_pass, Cond.selects RX11 yX11_pass yX11_pass, Cond.code yX11_pass cX11_pass 3 (some .int), Cond.methodLink RL 120 yX10_restore, Cond.instanceMethod yX10_restore, Cond.selects RX10 yX10_restore yX10_restore, Cond.code yX10_restore cX10_restore 2 (some .int), Cond.methodLink RL 123 yX11_restore, Cond.instanceMethod yX11_restore, Cond.selects RX11 yX11_restore yX11_restore, Cond.code yX11_restore cX11_restore 2 (some .int), Cond.methodLink RL 124 yX10_told, Cond.instanceMethod yX10_told, Cond.selects RX10 yX10_told yX10_told, Cond.code yX10_told cX10_told 2 (some .int)]
def wsL_law_r38 : List Cond := [Cond.methodLink RL 127 yX11_told, Cond.instanceMethod yX11_told, Cond.selects RX11 yX11_told yX11_told, Cond.code yX11_told cX11_told 2 (some .int), Cond.constantLong RX11 282 (8)]
def wsL_law : List Cond := (wsL_law_r1 ++ (wsL_law_r2 ++ (wsL_law_r3 ++ (wsL_law_r4 ++ (wsL_law_r5 ++ (wsL_law_r6 ++ (wsL_law_r7 ++ (wsL_law_r8 ++ (wsL_law_r9 ++ (wsL_law_r10 ++ (wsL_law_r11 ++ (wsL_law_r12 ++ (wsL_law_r13 ++ (wsL_law_r14 ++ (wsL_law_r15 ++ (wsL_law_r16 ++ (wsL_law_r17 ++ (wsL_law_r18 ++ (wsL_law_r19 ++ (wsL_law_r20 ++ (wsL_law_r21 ++ (wsL_law_r22 ++ (wsL_law_r23 ++ (wsL_law_r24 ++ (wsL_law_r25 ++ (wsL_law_r26 ++ (wsL_law_r27 ++ (wsL_law_r28 ++ (wsL_law_r29 ++ (wsL_law_r30 ++ (wsL_law_r31 ++ (wsL_law_r32 ++ (wsL_law_r33 ++ (wsL_law_r34 ++ (wsL_law_r35 ++ (wsL_law_r36 ++ (wsL_law_r37 ++ wsL_law_r38))))))))))))))))))))))))))))))))))))) ++ wsX100 ++ wsX110 ++ wsX40 ++ wsX70 ++ wsX50 ++ wsX00 ++ wsX80 ++ wsX10 ++ wsX30 ++ wsX60 ++ wsX20 ++ ([] : List Cond)
theorem inlX0 : ∀ w ∈ wsX00, w ∈ wsL_law := fun _ h => List.mem_append_left _ (List.mem_append_left _ (List.mem_append_left _ (List.mem_append_left _ (List.mem_append_left _ (List.mem_append_left _ (List.mem_append_right _ h))))))
theorem inlX1 : ∀ w ∈ wsX10, w ∈ wsL_law := fun _ h => List.mem_append_left _ (List.mem_append_left _ (List.mem_append_left _ (List.mem_append_left _ (List.mem_append_right _ h))))
theorem inlX2 : ∀ w ∈ wsX20, w ∈ wsL_law := fun _ h => List.mem_append_left _ (List.mem_append_right _ h)
theorem inlX3 : ∀ w ∈ wsX30, w ∈ wsL_law := fun _ h => List.mem_append_left _ (List.mem_append_left _ (List.mem_append_left _ (List.mem_append_right _ h)))
theorem inlX4 : ∀ w ∈ wsX40, w ∈ wsL_law := fun _ h => List.mem_append_left _ (List.mem_append_left _ (List.mem_append_left _ (List.mem_append_left _ (List.mem_append_left _ (List.mem_append_left _ (List.mem_append_left _ (List.mem_append_left _ (List.mem_append_left _ (List.mem_append_right _ h)))))))))
theorem inlX5 : ∀ w ∈ wsX50, w ∈ wsL_law := fun _ h => List.mem_append_left _ (List.mem_append_left _ (List.mem_append_left _ (List.mem_append_left _ (List.mem_append_left _ (List.mem_append_left _ (List.mem_append_left _ (List.mem_append_right _ h)))))))
theorem inlX6 : ∀ w ∈ wsX60, w ∈ wsL_law := fun _ h => List.mem_append_left _ (List.mem_append_left _ (List.mem_append_right _ h))
theorem inlX7 : ∀ w ∈ wsX70, w ∈ wsL_law := fun _ h => List.mem_append_left _ (List.mem_append_left _ (List.mem_append_left _ (List.mem_append_left _ (List.mem_append_left _ (List.mem_append_left _ (List.mem_append_left _ (List.mem_append_left _ (List.mem_append_right _ h))))))))
theorem inlX8 : ∀ w ∈ wsX80, w ∈ wsL_law := fun _ h => List.mem_append_left _ (List.mem_append_left _ (List.mem_append_left _ (List.mem_append_left _ (List.mem_append_left _ (List.mem_append_right _ h)))))
theorem inlX10 : ∀ w ∈ wsX100, w ∈ wsL_law := fun _ h => List.mem_append_left _ (List.mem_append_left _ (List.mem_append_left _ (List.mem_append_left _ (List.mem_append_left _ (List.mem_append_left _ (List.mem_append_left _ (List.mem_append_left _ (List.mem_append_left _ (List.mem_append_left _ (List.mem_append_left _ (List.mem_append_right _ h)))))))))))
theorem inlX11 : ∀ w ∈ wsX110, w ∈ wsL_law := fun _ h => List.mem_append_left _ (List.mem_append_left _ (List.mem_append_left _ (List.mem_append_left _ (List.mem_append_left _ (List.mem_append_left _ (List.mem_append_left _ (List.mem_append_left _ (List.mem_append_left _ (List.mem_append_left _ (List.mem_append_right _ h))))))))))
theorem inJx8e188 : ∀ w ∈ wsJx8e1880, w ∈ lw_tbl := by decide +kernel
theorem inJ6 : ∀ w ∈ wsJ60, w ∈ lw_tbl := by decide +kernel
theorem inJ13 : ∀ w ∈ wsJ130, w ∈ lw_tbl := by decide +kernel
theorem inJ9 : ∀ w ∈ wsJ90, w ∈ lw_tbl := by decide +kernel
theorem inJ10 : ∀ w ∈ wsJ100, w ∈ lw_tbl := by decide +kernel
abbrev vwCl : List vw_C := [(RX0, TX0, 6), (RX1, TX1, 4), (RX2, TX2, 3), (RX3, TX3, 2), (RX4, TX4, 2), (RX5, TX5, 2), (RX6, TX6, 4), (RX7, TX7, 6), (RX8, TX8, 2), (RX10, TX10, 8), (RX11, TX11, 35)]
end
section
theorem dX0_init_0 : decode cX0_init 0 = .ok (.aload_n 0, 1) := by decide +kernel
theorem dX0_init_1 : decode cX0_init 1 = .ok (.invokespecial 3, 3) := by decide +kernel
theorem dX0_init_4 : decode cX0_init 4 = .ok (.return_, 1) := by decide +kernel
theorem dX0_launch_0 : decode cX0_launch 0 = .ok (.aload 5, 2) := by decide +kernel
theorem dX0_launch_2 : decode cX0_launch 2 = .ok (.iconst 1, 1) := by decide +kernel
theorem dX0_launch_3 : decode cX0_launch 3 = .ok (.invokevirtual 9, 3) := by decide +kernel
theorem dX0_launch_6 : decode cX0_launch 6 = .ok (.istore 6, 2) := by decide +kernel
theorem dX0_launch_8 : decode cX0_launch 8 = .ok (.aload_n 0, 1) := by decide +kernel
theorem dX0_launch_9 : decode cX0_launch 9 = .ok (.iload_n 1, 1) := by decide +kernel
theorem dX0_launch_10 : decode cX0_launch 10 = .ok (.i2l, 1) := by decide +kernel
theorem dX0_launch_11 : decode cX0_launch 11 = .ok (.putfield 15, 3) := by decide +kernel
theorem dX0_launch_14 : decode cX0_launch 14 = .ok (.aload_n 0, 1) := by decide +kernel
theorem dX0_launch_15 : decode cX0_launch 15 = .ok (.iload_n 2, 1) := by decide +kernel
theorem dX0_launch_16 : decode cX0_launch 16 = .ok (.i2l, 1) := by decide +kernel
theorem dX0_launch_17 : decode cX0_launch 17 = .ok (.putfield 21, 3) := by decide +kernel
theorem dX0_launch_20 : decode cX0_launch 20 = .ok (.aload_n 0, 1) := by decide +kernel
theorem dX0_launch_21 : decode cX0_launch 21 = .ok (.aload_n 0, 1) := by decide +kernel
theorem dX0_launch_22 : decode cX0_launch 22 = .ok (.getfield 15, 3) := by decide +kernel
theorem dX0_launch_25 : decode cX0_launch 25 = .ok (.aload_n 0, 1) := by decide +kernel
theorem dX0_launch_26 : decode cX0_launch 26 = .ok (.getfield 21, 3) := by decide +kernel
theorem dX0_launch_29 : decode cX0_launch 29 = .ok (.iload 6, 2) := by decide +kernel
theorem dX0_launch_31 : decode cX0_launch 31 = .ok (.invokestatic 24, 3) := by decide +kernel
theorem dX0_launch_34 : decode cX0_launch 34 = .ok (.aload_n 0, 1) := by decide +kernel
theorem dX0_launch_35 : decode cX0_launch 35 = .ok (.getfield 15, 3) := by decide +kernel
theorem dX0_launch_38 : decode cX0_launch 38 = .ok (.lsub, 1) := by decide +kernel
theorem dX0_launch_39 : decode cX0_launch 39 = .ok (.putfield 30, 3) := by decide +kernel
theorem dX0_launch_42 : decode cX0_launch 42 = .ok (.aload_n 0, 1) := by decide +kernel
theorem dX0_launch_43 : decode cX0_launch 43 = .ok (.aload_n 0, 1) := by decide +kernel
theorem dX0_launch_44 : decode cX0_launch 44 = .ok (.getfield 15, 3) := by decide +kernel
theorem dX0_launch_47 : decode cX0_launch 47 = .ok (.aload_n 0, 1) := by decide +kernel
theorem dX0_launch_48 : decode cX0_launch 48 = .ok (.getfield 21, 3) := by decide +kernel
theorem dX0_launch_51 : decode cX0_launch 51 = .ok (.iload 6, 2) := by decide +kernel
theorem dX0_launch_53 : decode cX0_launch 53 = .ok (.invokestatic 33, 3) := by decide +kernel
theorem dX0_launch_56 : decode cX0_launch 56 = .ok (.aload_n 0, 1) := by decide +kernel
theorem dX0_launch_57 : decode cX0_launch 57 = .ok (.getfield 21, 3) := by decide +kernel
theorem dX0_launch_60 : decode cX0_launch 60 = .ok (.lsub, 1) := by decide +kernel
theorem dX0_launch_61 : decode cX0_launch 61 = .ok (.putfield 36, 3) := by decide +kernel
theorem dX0_launch_64 : decode cX0_launch 64 = .ok (.aload_n 0, 1) := by decide +kernel
theorem dX0_launch_65 : decode cX0_launch 65 = .ok (.iload_n 3, 1) := by decide +kernel
theorem dX0_launch_66 : decode cX0_launch 66 = .ok (.iload 4, 2) := by decide +kernel
theorem dX0_launch_68 : decode cX0_launch 68 = .ok (.invokevirtual 39, 3) := by decide +kernel
theorem dX0_launch_71 : decode cX0_launch 71 = .ok (.return_, 1) := by decide +kernel
theorem dX0_throwAnew_0 : decode cX0_throwAnew 0 = .ok (.aload_n 0, 1) := by decide +kernel
theorem dX0_throwAnew_1 : decode cX0_throwAnew 1 = .ok (.iload_n 1, 1) := by decide +kernel
theorem dX0_throwAnew_2 : decode cX0_throwAnew 2 = .ok (.i2l, 1) := by decide +kernel
theorem dX0_throwAnew_3 : decode cX0_throwAnew 3 = .ok (.lconst 0, 1) := by decide +kernel
theorem dX0_throwAnew_4 : decode cX0_throwAnew 4 = .ok (.iload_n 2, 1) := by decide +kernel
theorem dX0_throwAnew_5 : decode cX0_throwAnew 5 = .ok (.invokestatic 24, 3) := by decide +kernel
theorem dX0_throwAnew_8 : decode cX0_throwAnew 8 = .ok (.aload_n 0, 1) := by decide +kernel
theorem dX0_throwAnew_9 : decode cX0_throwAnew 9 = .ok (.getfield 30, 3) := by decide +kernel
theorem dX0_throwAnew_12 : decode cX0_throwAnew 12 = .ok (.ladd, 1) := by decide +kernel
theorem dX0_throwAnew_13 : decode cX0_throwAnew 13 = .ok (.putfield 43, 3) := by decide +kernel
theorem dX0_throwAnew_16 : decode cX0_throwAnew 16 = .ok (.aload_n 0, 1) := by decide +kernel
theorem dX0_throwAnew_17 : decode cX0_throwAnew 17 = .ok (.iload_n 1, 1) := by decide +kernel
theorem dX0_throwAnew_18 : decode cX0_throwAnew 18 = .ok (.i2l, 1) := by decide +kernel
theorem dX0_throwAnew_19 : decode cX0_throwAnew 19 = .ok (.lconst 0, 1) := by decide +kernel
theorem dX0_throwAnew_20 : decode cX0_throwAnew 20 = .ok (.iload_n 2, 1) := by decide +kernel
theorem dX0_throwAnew_21 : decode cX0_throwAnew 21 = .ok (.invokestatic 33, 3) := by decide +kernel
theorem dX0_throwAnew_24 : decode cX0_throwAnew 24 = .ok (.aload_n 0, 1) := by decide +kernel
theorem dX0_throwAnew_25 : decode cX0_throwAnew 25 = .ok (.getfield 36, 3) := by decide +kernel
theorem dX0_throwAnew_28 : decode cX0_throwAnew 28 = .ok (.ladd, 1) := by decide +kernel
theorem dX0_throwAnew_29 : decode cX0_throwAnew 29 = .ok (.putfield 46, 3) := by decide +kernel
theorem dX0_throwAnew_32 : decode cX0_throwAnew 32 = .ok (.return_, 1) := by decide +kernel
theorem dX0_xBehind_0 : decode cX0_xBehind 0 = .ok (.aload_n 0, 1) := by decide +kernel
theorem dX0_xBehind_1 : decode cX0_xBehind 1 = .ok (.getfield 15, 3) := by decide +kernel
theorem dX0_xBehind_4 : decode cX0_xBehind 4 = .ok (.iload_n 1, 1) := by decide +kernel
theorem dX0_xBehind_5 : decode cX0_xBehind 5 = .ok (.i2l, 1) := by decide +kernel
theorem dX0_xBehind_6 : decode cX0_xBehind 6 = .ok (.aload_n 0, 1) := by decide +kernel
theorem dX0_xBehind_7 : decode cX0_xBehind 7 = .ok (.getfield 43, 3) := by decide +kernel
theorem dX0_xBehind_10 : decode cX0_xBehind 10 = .ok (.lmul, 1) := by decide +kernel
theorem dX0_xBehind_11 : decode cX0_xBehind 11 = .ok (.ladd, 1) := by decide +kernel
theorem dX0_xBehind_12 : decode cX0_xBehind 12 = .ok (.lreturn, 1) := by decide +kernel
theorem dX0_yBehind_0 : decode cX0_yBehind 0 = .ok (.aload_n 0, 1) := by decide +kernel
theorem dX0_yBehind_1 : decode cX0_yBehind 1 = .ok (.getfield 21, 3) := by decide +kernel
theorem dX0_yBehind_4 : decode cX0_yBehind 4 = .ok (.iload_n 1, 1) := by decide +kernel
theorem dX0_yBehind_5 : decode cX0_yBehind 5 = .ok (.i2l, 1) := by decide +kernel
theorem dX0_yBehind_6 : decode cX0_yBehind 6 = .ok (.aload_n 0, 1) := by decide +kernel
theorem dX0_yBehind_7 : decode cX0_yBehind 7 = .ok (.getfield 46, 3) := by decide +kernel
theorem dX0_yBehind_10 : decode cX0_yBehind 10 = .ok (.lmul, 1) := by decide +kernel
theorem dX0_yBehind_11 : decode cX0_yBehind 11 = .ok (.ladd, 1) := by decide +kernel
theorem dX0_yBehind_12 : decode cX0_yBehind 12 = .ok (.lreturn, 1) := by decide +kernel
theorem dX0_gap_0 : decode cX0_gap 0 = .ok (.aload_n 0, 1) := by decide +kernel
theorem dX0_gap_1 : decode cX0_gap 1 = .ok (.iload_n 2, 1) := by decide +kernel
theorem dX0_gap_2 : decode cX0_gap 2 = .ok (.invokevirtual 49, 3) := by decide +kernel
theorem dX0_gap_5 : decode cX0_gap 5 = .ok (.aload_n 1, 1) := by decide +kernel
theorem dX0_gap_6 : decode cX0_gap 6 = .ok (.getfield 53, 3) := by decide +kernel
theorem dX0_gap_9 : decode cX0_gap 9 = .ok (.iload_n 2, 1) := by decide +kernel
theorem dX0_gap_10 : decode cX0_gap 10 = .ok (.laload, 1) := by decide +kernel
theorem dX0_gap_11 : decode cX0_gap 11 = .ok (.lsub, 1) := by decide +kernel
theorem dX0_gap_12 : decode cX0_gap 12 = .ok (.invokestatic 59, 3) := by decide +kernel
theorem dX0_gap_15 : decode cX0_gap 15 = .ok (.aload_n 0, 1) := by decide +kernel
theorem dX0_gap_16 : decode cX0_gap 16 = .ok (.iload_n 2, 1) := by decide +kernel
theorem dX0_gap_17 : decode cX0_gap 17 = .ok (.invokevirtual 65, 3) := by decide +kernel
theorem dX0_gap_20 : decode cX0_gap 20 = .ok (.aload_n 1, 1) := by decide +kernel
theorem dX0_gap_21 : decode cX0_gap 21 = .ok (.getfield 68, 3) := by decide +kernel
theorem dX0_gap_24 : decode cX0_gap 24 = .ok (.iload_n 2, 1) := by decide +kernel
theorem dX0_gap_25 : decode cX0_gap 25 = .ok (.laload, 1) := by decide +kernel
theorem dX0_gap_26 : decode cX0_gap 26 = .ok (.lsub, 1) := by decide +kernel
theorem dX0_gap_27 : decode cX0_gap 27 = .ok (.invokestatic 59, 3) := by decide +kernel
theorem dX0_gap_30 : decode cX0_gap 30 = .ok (.invokestatic 71, 3) := by decide +kernel
theorem dX0_gap_33 : decode cX0_gap 33 = .ok (.lreturn, 1) := by decide +kernel
theorem dX0_tickCaught_0 : decode cX0_tickCaught 0 = .ok (.iconst 1, 1) := by decide +kernel
theorem dX0_tickCaught_1 : decode cX0_tickCaught 1 = .ok (.istore_n 3, 1) := by decide +kernel
theorem dX0_tickCaught_2 : decode cX0_tickCaught 2 = .ok (.iload_n 3, 1) := by decide +kernel
theorem dX0_tickCaught_3 : decode cX0_tickCaught 3 = .ok (.bipush 60, 2) := by decide +kernel
theorem dX0_tickCaught_5 : decode cX0_tickCaught 5 = .ok (.if_icmp .gt 23, 3) := by decide +kernel
theorem dX0_tickCaught_8 : decode cX0_tickCaught 8 = .ok (.aload_n 0, 1) := by decide +kernel
theorem dX0_tickCaught_9 : decode cX0_tickCaught 9 = .ok (.aload_n 1, 1) := by decide +kernel
theorem dX0_tickCaught_10 : decode cX0_tickCaught 10 = .ok (.iload_n 3, 1) := by decide +kernel
theorem dX0_tickCaught_11 : decode cX0_tickCaught 11 = .ok (.invokevirtual 75, 3) := by decide +kernel
theorem dX0_tickCaught_14 : decode cX0_tickCaught 14 = .ok (.iload_n 2, 1) := by decide +kernel
theorem dX0_tickCaught_15 : decode cX0_tickCaught 15 = .ok (.i2l, 1) := by decide +kernel
theorem dX0_tickCaught_16 : decode cX0_tickCaught 16 = .ok (.lcmp, 1) := by decide +kernel
theorem dX0_tickCaught_17 : decode cX0_tickCaught 17 = .ok (.ifCond .gt 5, 3) := by decide +kernel
theorem dX0_tickCaught_20 : decode cX0_tickCaught 20 = .ok (.iload_n 3, 1) := by decide +kernel
theorem dX0_tickCaught_21 : decode cX0_tickCaught 21 = .ok (.ireturn, 1) := by decide +kernel
theorem dX0_tickCaught_22 : decode cX0_tickCaught 22 = .ok (.iinc 3 1, 3) := by decide +kernel
theorem dX0_tickCaught_25 : decode cX0_tickCaught 25 = .ok (.goto (-23), 3) := by decide +kernel
theorem dX0_tickCaught_28 : decode cX0_tickCaught 28 = .ok (.bipush (-6), 2) := by decide +kernel
theorem dX0_tickCaught_30 : decode cX0_tickCaught 30 = .ok (.ireturn, 1) := by decide +kernel
theorem dX0_tickNearest_0 : decode cX0_tickNearest 0 = .ok (.iconst 1, 1) := by decide +kernel
theorem dX0_tickNearest_1 : decode cX0_tickNearest 1 = .ok (.istore_n 2, 1) := by decide +kernel
theorem dX0_tickNearest_2 : decode cX0_tickNearest 2 = .ok (.aload_n 0, 1) := by decide +kernel
theorem dX0_tickNearest_3 : decode cX0_tickNearest 3 = .ok (.aload_n 1, 1) := by decide +kernel
theorem dX0_tickNearest_4 : decode cX0_tickNearest 4 = .ok (.iconst 1, 1) := by decide +kernel
theorem dX0_tickNearest_5 : decode cX0_tickNearest 5 = .ok (.invokevirtual 75, 3) := by decide +kernel
theorem dX0_tickNearest_8 : decode cX0_tickNearest 8 = .ok (.lstore_n 3, 1) := by decide +kernel
theorem dX0_tickNearest_9 : decode cX0_tickNearest 9 = .ok (.iconst 2, 1) := by decide +kernel
theorem dX0_tickNearest_10 : decode cX0_tickNearest 10 = .ok (.istore 5, 2) := by decide +kernel
theorem dX0_tickNearest_12 : decode cX0_tickNearest 12 = .ok (.iload 5, 2) := by decide +kernel
theorem dX0_tickNearest_14 : decode cX0_tickNearest 14 = .ok (.bipush 60, 2) := by decide +kernel
theorem dX0_tickNearest_16 : decode cX0_tickNearest 16 = .ok (.if_icmp .gt 31, 3) := by decide +kernel
theorem dX0_tickNearest_19 : decode cX0_tickNearest 19 = .ok (.aload_n 0, 1) := by decide +kernel
theorem dX0_tickNearest_20 : decode cX0_tickNearest 20 = .ok (.aload_n 1, 1) := by decide +kernel
theorem dX0_tickNearest_21 : decode cX0_tickNearest 21 = .ok (.iload 5, 2) := by decide +kernel
theorem dX0_tickNearest_23 : decode cX0_tickNearest 23 = .ok (.invokevirtual 75, 3) := by decide +kernel
theorem dX0_tickNearest_26 : decode cX0_tickNearest 26 = .ok (.lstore 6, 2) := by decide +kernel
theorem dX0_tickNearest_28 : decode cX0_tickNearest 28 = .ok (.lload 6, 2) := by decide +kernel
theorem dX0_tickNearest_30 : decode cX0_tickNearest 30 = .ok (.lload_n 3, 1) := by decide +kernel
theorem dX0_tickNearest_31 : decode cX0_tickNearest 31 = .ok (.lcmp, 1) := by decide +kernel
theorem dX0_tickNearest_32 : decode cX0_tickNearest 32 = .ok (.ifCond .ge 9, 3) := by decide +kernel
theorem dX0_tickNearest_35 : decode cX0_tickNearest 35 = .ok (.lload 6, 2) := by decide +kernel
theorem dX0_tickNearest_37 : decode cX0_tickNearest 37 = .ok (.lstore_n 3, 1) := by decide +kernel
theorem dX0_tickNearest_38 : decode cX0_tickNearest 38 = .ok (.iload 5, 2) := by decide +kernel
theorem dX0_tickNearest_40 : decode cX0_tickNearest 40 = .ok (.istore_n 2, 1) := by decide +kernel
theorem dX0_tickNearest_41 : decode cX0_tickNearest 41 = .ok (.iinc 5 1, 3) := by decide +kernel
theorem dX0_tickNearest_44 : decode cX0_tickNearest 44 = .ok (.goto (-32), 3) := by decide +kernel
theorem dX0_tickNearest_47 : decode cX0_tickNearest 47 = .ok (.iload_n 2, 1) := by decide +kernel
theorem dX0_tickNearest_48 : decode cX0_tickNearest 48 = .ok (.ireturn, 1) := by decide +kernel
theorem dX0_isRightOf_0 : decode cX0_isRightOf 0 = .ok (.aload_n 1, 1) := by decide +kernel
theorem dX0_isRightOf_1 : decode cX0_isRightOf 1 = .ok (.getfield 53, 3) := by decide +kernel
theorem dX0_isRightOf_4 : decode cX0_isRightOf 4 = .ok (.iload_n 2, 1) := by decide +kernel
theorem dX0_isRightOf_5 : decode cX0_isRightOf 5 = .ok (.laload, 1) := by decide +kernel
theorem dX0_isRightOf_6 : decode cX0_isRightOf 6 = .ok (.aload_n 0, 1) := by decide +kernel
theorem dX0_isRightOf_7 : decode cX0_isRightOf 7 = .ok (.iload_n 2, 1) := by decide +kernel
theorem dX0_isRightOf_8 : decode cX0_isRightOf 8 = .ok (.invokevirtual 65, 3) := by decide +kernel
theorem dX0_isRightOf_11 : decode cX0_isRightOf 11 = .ok (.lmul, 1) := by decide +kernel
theorem dX0_isRightOf_12 : decode cX0_isRightOf 12 = .ok (.aload_n 1, 1) := by decide +kernel
theorem dX0_isRightOf_13 : decode cX0_isRightOf 13 = .ok (.getfield 68, 3) := by decide +kernel
theorem dX0_isRightOf_16 : decode cX0_isRightOf 16 = .ok (.iload_n 2, 1) := by decide +kernel
theorem dX0_isRightOf_17 : decode cX0_isRightOf 17 = .ok (.laload, 1) := by decide +kernel
theorem dX0_isRightOf_18 : decode cX0_isRightOf 18 = .ok (.aload_n 0, 1) := by decide +kernel
theorem dX0_isRightOf_19 : decode cX0_isRightOf 19 = .ok (.iload_n 2, 1) := by decide +kernel
theorem dX0_isRightOf_20 : decode cX0_isRightOf 20 = .ok (.invokevirtual 49, 3) := by decide +kernel
theorem dX0_isRightOf_23 : decode cX0_isRightOf 23 = .ok (.lmul, 1) := by decide +kernel
theorem dX0_isRightOf_24 : decode cX0_isRightOf 24 = .ok (.lsub, 1) := by decide +kernel
theorem dX0_isRightOf_25 : decode cX0_isRightOf 25 = .ok (.lconst 0, 1) := by decide +kernel
theorem dX0_isRightOf_26 : decode cX0_isRightOf 26 = .ok (.lcmp, 1) := by decide +kernel
theorem dX0_isRightOf_27 : decode cX0_isRightOf 27 = .ok (.ifCond .ge 7, 3) := by decide +kernel
theorem dX0_isRightOf_30 : decode cX0_isRightOf 30 = .ok (.iconst 1, 1) := by decide +kernel
theorem dX0_isRightOf_31 : decode cX0_isRightOf 31 = .ok (.goto 4, 3) := by decide +kernel
theorem dX0_isRightOf_34 : decode cX0_isRightOf 34 = .ok (.iconst 0, 1) := by decide +kernel
theorem dX0_isRightOf_35 : decode cX0_isRightOf 35 = .ok (.ireturn, 1) := by decide +kernel
theorem dX0_rollOn_0 : decode cX0_rollOn 0 = .ok (.aload_n 3, 1) := by decide +kernel
theorem dX0_rollOn_1 : decode cX0_rollOn 1 = .ok (.iload_n 1, 1) := by decide +kernel
theorem dX0_rollOn_2 : decode cX0_rollOn 2 = .ok (.invokevirtual 79, 3) := by decide +kernel
theorem dX0_rollOn_5 : decode cX0_rollOn 5 = .ok (.istore 4, 2) := by decide +kernel
theorem dX0_rollOn_7 : decode cX0_rollOn 7 = .ok (.aload_n 0, 1) := by decide +kernel
theorem dX0_rollOn_8 : decode cX0_rollOn 8 = .ok (.getfield 15, 3) := by decide +kernel
theorem dX0_rollOn_11 : decode cX0_rollOn 11 = .ok (.aload_n 0, 1) := by decide +kernel
theorem dX0_rollOn_12 : decode cX0_rollOn 12 = .ok (.getfield 21, 3) := by decide +kernel
theorem dX0_rollOn_15 : decode cX0_rollOn 15 = .ok (.iload 4, 2) := by decide +kernel
theorem dX0_rollOn_17 : decode cX0_rollOn 17 = .ok (.invokestatic 24, 3) := by decide +kernel
theorem dX0_rollOn_20 : decode cX0_rollOn 20 = .ok (.lstore 5, 2) := by decide +kernel
theorem dX0_rollOn_22 : decode cX0_rollOn 22 = .ok (.aload_n 0, 1) := by decide +kernel
theorem dX0_rollOn_23 : decode cX0_rollOn 23 = .ok (.getfield 15, 3) := by decide +kernel
theorem dX0_rollOn_26 : decode cX0_rollOn 26 = .ok (.aload_n 0, 1) := by decide +kernel
theorem dX0_rollOn_27 : decode cX0_rollOn 27 = .ok (.getfield 21, 3) := by decide +kernel
theorem dX0_rollOn_30 : decode cX0_rollOn 30 = .ok (.iload 4, 2) := by decide +kernel
theorem dX0_rollOn_32 : decode cX0_rollOn 32 = .ok (.invokestatic 33, 3) := by decide +kernel
theorem dX0_rollOn_35 : decode cX0_rollOn 35 = .ok (.lstore 7, 2) := by decide +kernel
theorem dX0_rollOn_37 : decode cX0_rollOn 37 = .ok (.aload_n 3, 1) := by decide +kernel
theorem dX0_rollOn_38 : decode cX0_rollOn 38 = .ok (.iload_n 1, 1) := by decide +kernel
theorem dX0_rollOn_39 : decode cX0_rollOn 39 = .ok (.invokevirtual 9, 3) := by decide +kernel
theorem dX0_rollOn_42 : decode cX0_rollOn 42 = .ok (.istore 9, 2) := by decide +kernel
theorem dX0_rollOn_44 : decode cX0_rollOn 44 = .ok (.aload_n 3, 1) := by decide +kernel
theorem dX0_rollOn_45 : decode cX0_rollOn 45 = .ok (.iload_n 1, 1) := by decide +kernel
theorem dX0_rollOn_46 : decode cX0_rollOn 46 = .ok (.iconst 1, 1) := by decide +kernel
theorem dX0_rollOn_47 : decode cX0_rollOn 47 = .ok (.iadd, 1) := by decide +kernel
theorem dX0_rollOn_48 : decode cX0_rollOn 48 = .ok (.invokevirtual 9, 3) := by decide +kernel
theorem dX0_rollOn_51 : decode cX0_rollOn 51 = .ok (.istore 10, 2) := by decide +kernel
theorem dX0_rollOn_53 : decode cX0_rollOn 53 = .ok (.lload 5, 2) := by decide +kernel
theorem dX0_rollOn_55 : decode cX0_rollOn 55 = .ok (.lload 7, 2) := by decide +kernel
theorem dX0_rollOn_57 : decode cX0_rollOn 57 = .ok (.iload 10, 2) := by decide +kernel
theorem dX0_rollOn_59 : decode cX0_rollOn 59 = .ok (.invokestatic 24, 3) := by decide +kernel
theorem dX0_rollOn_62 : decode cX0_rollOn 62 = .ok (.lload 5, 2) := by decide +kernel
theorem dX0_rollOn_64 : decode cX0_rollOn 64 = .ok (.lload 7, 2) := by decide +kernel
theorem dX0_rollOn_66 : decode cX0_rollOn 66 = .ok (.iload 9, 2) := by decide +kernel
theorem dX0_rollOn_68 : decode cX0_rollOn 68 = .ok (.invokestatic 24, 3) := by decide +kernel
theorem dX0_rollOn_71 : decode cX0_rollOn 71 = .ok (.lsub, 1) := by decide +kernel
theorem dX0_rollOn_72 : decode cX0_rollOn 72 = .ok (.lstore 11, 2) := by decide +kernel
theorem dX0_rollOn_74 : decode cX0_rollOn 74 = .ok (.lload 5, 2) := by decide +kernel
theorem dX0_rollOn_76 : decode cX0_rollOn 76 = .ok (.lload 7, 2) := by decide +kernel
theorem dX0_rollOn_78 : decode cX0_rollOn 78 = .ok (.iload 10, 2) := by decide +kernel
theorem dX0_rollOn_80 : decode cX0_rollOn 80 = .ok (.invokestatic 33, 3) := by decide +kernel
theorem dX0_rollOn_83 : decode cX0_rollOn 83 = .ok (.lload 5, 2) := by decide +kernel
theorem dX0_rollOn_85 : decode cX0_rollOn 85 = .ok (.lload 7, 2) := by decide +kernel
theorem dX0_rollOn_87 : decode cX0_rollOn 87 = .ok (.iload 9, 2) := by decide +kernel
theorem dX0_rollOn_89 : decode cX0_rollOn 89 = .ok (.invokestatic 33, 3) := by decide +kernel
theorem dX0_rollOn_92 : decode cX0_rollOn 92 = .ok (.lsub, 1) := by decide +kernel
theorem dX0_rollOn_93 : decode cX0_rollOn 93 = .ok (.lstore 13, 2) := by decide +kernel
theorem dX0_rollOn_95 : decode cX0_rollOn 95 = .ok (.aload_n 0, 1) := by decide +kernel
theorem dX0_rollOn_96 : decode cX0_rollOn 96 = .ok (.dup, 1) := by decide +kernel
theorem dX0_rollOn_97 : decode cX0_rollOn 97 = .ok (.getfield 43, 3) := by decide +kernel
theorem dX0_rollOn_100 : decode cX0_rollOn 100 = .ok (.lload 11, 2) := by decide +kernel
theorem dX0_rollOn_102 : decode cX0_rollOn 102 = .ok (.aload_n 0, 1) := by decide +kernel
theorem dX0_rollOn_103 : decode cX0_rollOn 103 = .ok (.getfield 43, 3) := by decide +kernel
theorem dX0_rollOn_106 : decode cX0_rollOn 106 = .ok (.lsub, 1) := by decide +kernel
theorem dX0_rollOn_107 : decode cX0_rollOn 107 = .ok (.iload_n 2, 1) := by decide +kernel
theorem dX0_rollOn_108 : decode cX0_rollOn 108 = .ok (.i2l, 1) := by decide +kernel
theorem dX0_rollOn_109 : decode cX0_rollOn 109 = .ok (.lmul, 1) := by decide +kernel
theorem dX0_rollOn_110 : decode cX0_rollOn 110 = .ok (.ldc2_w 82, 3) := by decide +kernel
theorem dX0_rollOn_113 : decode cX0_rollOn 113 = .ok (.ldiv, 1) := by decide +kernel
theorem dX0_rollOn_114 : decode cX0_rollOn 114 = .ok (.ladd, 1) := by decide +kernel
theorem dX0_rollOn_115 : decode cX0_rollOn 115 = .ok (.putfield 43, 3) := by decide +kernel
theorem dX0_rollOn_118 : decode cX0_rollOn 118 = .ok (.aload_n 0, 1) := by decide +kernel
theorem dX0_rollOn_119 : decode cX0_rollOn 119 = .ok (.dup, 1) := by decide +kernel
theorem dX0_rollOn_120 : decode cX0_rollOn 120 = .ok (.getfield 46, 3) := by decide +kernel
theorem dX0_rollOn_123 : decode cX0_rollOn 123 = .ok (.lload 13, 2) := by decide +kernel
theorem dX0_rollOn_125 : decode cX0_rollOn 125 = .ok (.aload_n 0, 1) := by decide +kernel
theorem dX0_rollOn_126 : decode cX0_rollOn 126 = .ok (.getfield 46, 3) := by decide +kernel
theorem dX0_rollOn_129 : decode cX0_rollOn 129 = .ok (.lsub, 1) := by decide +kernel
theorem dX0_rollOn_130 : decode cX0_rollOn 130 = .ok (.iload_n 2, 1) := by decide +kernel
theorem dX0_rollOn_131 : decode cX0_rollOn 131 = .ok (.i2l, 1) := by decide +kernel
theorem dX0_rollOn_132 : decode cX0_rollOn 132 = .ok (.lmul, 1) := by decide +kernel
theorem dX0_rollOn_133 : decode cX0_rollOn 133 = .ok (.ldc2_w 82, 3) := by decide +kernel
theorem dX0_rollOn_136 : decode cX0_rollOn 136 = .ok (.ldiv, 1) := by decide +kernel
theorem dX0_rollOn_137 : decode cX0_rollOn 137 = .ok (.ladd, 1) := by decide +kernel
theorem dX0_rollOn_138 : decode cX0_rollOn 138 = .ok (.putfield 46, 3) := by decide +kernel
theorem dX0_rollOn_141 : decode cX0_rollOn 141 = .ok (.aload_n 0, 1) := by decide +kernel
theorem dX0_rollOn_142 : decode cX0_rollOn 142 = .ok (.dup, 1) := by decide +kernel
theorem dX0_rollOn_143 : decode cX0_rollOn 143 = .ok (.getfield 15, 3) := by decide +kernel
theorem dX0_rollOn_146 : decode cX0_rollOn 146 = .ok (.aload_n 0, 1) := by decide +kernel
theorem dX0_rollOn_147 : decode cX0_rollOn 147 = .ok (.getfield 43, 3) := by decide +kernel
theorem dX0_rollOn_150 : decode cX0_rollOn 150 = .ok (.ladd, 1) := by decide +kernel
theorem dX0_rollOn_151 : decode cX0_rollOn 151 = .ok (.putfield 15, 3) := by decide +kernel
theorem dX0_rollOn_154 : decode cX0_rollOn 154 = .ok (.aload_n 0, 1) := by decide +kernel
theorem dX0_rollOn_155 : decode cX0_rollOn 155 = .ok (.dup, 1) := by decide +kernel
theorem dX0_rollOn_156 : decode cX0_rollOn 156 = .ok (.getfield 21, 3) := by decide +kernel
theorem dX0_rollOn_159 : decode cX0_rollOn 159 = .ok (.aload_n 0, 1) := by decide +kernel
theorem dX0_rollOn_160 : decode cX0_rollOn 160 = .ok (.getfield 46, 3) := by decide +kernel
theorem dX0_rollOn_163 : decode cX0_rollOn 163 = .ok (.ladd, 1) := by decide +kernel
theorem dX0_rollOn_164 : decode cX0_rollOn 164 = .ok (.putfield 21, 3) := by decide +kernel
theorem dX0_rollOn_167 : decode cX0_rollOn 167 = .ok (.return_, 1) := by decide +kernel
theorem dX0_isBeyond_0 : decode cX0_isBeyond 0 = .ok (.aload_n 0, 1) := by decide +kernel
theorem dX0_isBeyond_1 : decode cX0_isBeyond 1 = .ok (.getfield 15, 3) := by decide +kernel
theorem dX0_isBeyond_4 : decode cX0_isBeyond 4 = .ok (.aload_n 0, 1) := by decide +kernel
theorem dX0_isBeyond_5 : decode cX0_isBeyond 5 = .ok (.getfield 15, 3) := by decide +kernel
theorem dX0_isBeyond_8 : decode cX0_isBeyond 8 = .ok (.lmul, 1) := by decide +kernel
theorem dX0_isBeyond_9 : decode cX0_isBeyond 9 = .ok (.aload_n 0, 1) := by decide +kernel
theorem dX0_isBeyond_10 : decode cX0_isBeyond 10 = .ok (.getfield 21, 3) := by decide +kernel
theorem dX0_isBeyond_13 : decode cX0_isBeyond 13 = .ok (.aload_n 0, 1) := by decide +kernel
theorem dX0_isBeyond_14 : decode cX0_isBeyond 14 = .ok (.getfield 21, 3) := by decide +kernel
theorem dX0_isBeyond_17 : decode cX0_isBeyond 17 = .ok (.lmul, 1) := by decide +kernel
theorem dX0_isBeyond_18 : decode cX0_isBeyond 18 = .ok (.ladd, 1) := by decide +kernel
theorem dX0_isBeyond_19 : decode cX0_isBeyond 19 = .ok (.lload_n 1, 1) := by decide +kernel
theorem dX0_isBeyond_20 : decode cX0_isBeyond 20 = .ok (.lload_n 1, 1) := by decide +kernel
theorem dX0_isBeyond_21 : decode cX0_isBeyond 21 = .ok (.lmul, 1) := by decide +kernel
theorem dX0_isBeyond_22 : decode cX0_isBeyond 22 = .ok (.lcmp, 1) := by decide +kernel
theorem dX0_isBeyond_23 : decode cX0_isBeyond 23 = .ok (.ifCond .le 7, 3) := by decide +kernel
theorem dX0_isBeyond_26 : decode cX0_isBeyond 26 = .ok (.iconst 1, 1) := by decide +kernel
theorem dX0_isBeyond_27 : decode cX0_isBeyond 27 = .ok (.goto 4, 3) := by decide +kernel
theorem dX0_isBeyond_30 : decode cX0_isBeyond 30 = .ok (.iconst 0, 1) := by decide +kernel
theorem dX0_isBeyond_31 : decode cX0_isBeyond 31 = .ok (.ireturn, 1) := by decide +kernel
theorem dX1_init_0 : decode cX1_init 0 = .ok (.aload_n 0, 1) := by decide +kernel
theorem dX1_init_1 : decode cX1_init 1 = .ok (.invokespecial 3, 3) := by decide +kernel
theorem dX1_init_4 : decode cX1_init 4 = .ok (.aload_n 0, 1) := by decide +kernel
theorem dX1_init_5 : decode cX1_init 5 = .ok (.bipush 62, 2) := by decide +kernel
theorem dX1_init_7 : decode cX1_init 7 = .ok (.newarray .int, 2) := by decide +kernel
theorem dX1_init_9 : decode cX1_init 9 = .ok (.putfield 11, 3) := by decide +kernel
theorem dX1_init_12 : decode cX1_init 12 = .ok (.return_, 1) := by decide +kernel
theorem dX1_fill_0 : decode cX1_fill 0 = .ok (.iconst 0, 1) := by decide +kernel
theorem dX1_fill_1 : decode cX1_fill 1 = .ok (.istore 4, 2) := by decide +kernel
theorem dX1_fill_3 : decode cX1_fill 3 = .ok (.iload 4, 2) := by decide +kernel
theorem dX1_fill_5 : decode cX1_fill 5 = .ok (.aload_n 0, 1) := by decide +kernel
theorem dX1_fill_6 : decode cX1_fill 6 = .ok (.getfield 11, 3) := by decide +kernel
theorem dX1_fill_9 : decode cX1_fill 9 = .ok (.arraylength, 1) := by decide +kernel
theorem dX1_fill_10 : decode cX1_fill 10 = .ok (.if_icmp .ge 65, 3) := by decide +kernel
theorem dX1_fill_13 : decode cX1_fill 13 = .ok (.iconst 0, 1) := by decide +kernel
theorem dX1_fill_14 : decode cX1_fill 14 = .ok (.istore 5, 2) := by decide +kernel
theorem dX1_fill_16 : decode cX1_fill 16 = .ok (.iconst 0, 1) := by decide +kernel
theorem dX1_fill_17 : decode cX1_fill 17 = .ok (.istore 6, 2) := by decide +kernel
theorem dX1_fill_19 : decode cX1_fill 19 = .ok (.iload 6, 2) := by decide +kernel
theorem dX1_fill_21 : decode cX1_fill 21 = .ok (.bipush 24, 2) := by decide +kernel
theorem dX1_fill_23 : decode cX1_fill 23 = .ok (.if_icmp .ge 37, 3) := by decide +kernel
theorem dX1_fill_26 : decode cX1_fill 26 = .ok (.aload_n 1, 1) := by decide +kernel
theorem dX1_fill_27 : decode cX1_fill 27 = .ok (.iload 4, 2) := by decide +kernel
theorem dX1_fill_29 : decode cX1_fill 29 = .ok (.iload 6, 2) := by decide +kernel
theorem dX1_fill_31 : decode cX1_fill 31 = .ok (.invokevirtual 15, 3) := by decide +kernel
theorem dX1_fill_34 : decode cX1_fill 34 = .ok (.aload_n 1, 1) := by decide +kernel
theorem dX1_fill_35 : decode cX1_fill 35 = .ok (.aload_n 2, 1) := by decide +kernel
theorem dX1_fill_36 : decode cX1_fill 36 = .ok (.iload_n 3, 1) := by decide +kernel
theorem dX1_fill_37 : decode cX1_fill 37 = .ok (.invokevirtual 21, 3) := by decide +kernel
theorem dX1_fill_40 : decode cX1_fill 40 = .ok (.bipush (-6), 2) := by decide +kernel
theorem dX1_fill_42 : decode cX1_fill 42 = .ok (.if_icmp .eq 12, 3) := by decide +kernel
theorem dX1_fill_45 : decode cX1_fill 45 = .ok (.iload 5, 2) := by decide +kernel
theorem dX1_fill_47 : decode cX1_fill 47 = .ok (.iconst 1, 1) := by decide +kernel
theorem dX1_fill_48 : decode cX1_fill 48 = .ok (.iload 6, 2) := by decide +kernel
theorem dX1_fill_50 : decode cX1_fill 50 = .ok (.ishl, 1) := by decide +kernel
theorem dX1_fill_51 : decode cX1_fill 51 = .ok (.ior, 1) := by decide +kernel
theorem dX1_fill_52 : decode cX1_fill 52 = .ok (.istore 5, 2) := by decide +kernel
theorem dX1_fill_54 : decode cX1_fill 54 = .ok (.iinc 6 1, 3) := by decide +kernel
theorem dX1_fill_57 : decode cX1_fill 57 = .ok (.goto (-38), 3) := by decide +kernel
theorem dX1_fill_60 : decode cX1_fill 60 = .ok (.aload_n 0, 1) := by decide +kernel
theorem dX1_fill_61 : decode cX1_fill 61 = .ok (.getfield 11, 3) := by decide +kernel
theorem dX1_fill_64 : decode cX1_fill 64 = .ok (.iload 4, 2) := by decide +kernel
theorem dX1_fill_66 : decode cX1_fill 66 = .ok (.iload 5, 2) := by decide +kernel
theorem dX1_fill_68 : decode cX1_fill 68 = .ok (.iastore, 1) := by decide +kernel
theorem dX1_fill_69 : decode cX1_fill 69 = .ok (.iinc 4 1, 3) := by decide +kernel
theorem dX1_fill_72 : decode cX1_fill 72 = .ok (.goto (-69), 3) := by decide +kernel
theorem dX1_fill_75 : decode cX1_fill 75 = .ok (.return_, 1) := by decide +kernel
theorem dX1_howMany_0 : decode cX1_howMany 0 = .ok (.iconst 0, 1) := by decide +kernel
theorem dX1_howMany_1 : decode cX1_howMany 1 = .ok (.istore_n 1, 1) := by decide +kernel
theorem dX1_howMany_2 : decode cX1_howMany 2 = .ok (.iconst 1, 1) := by decide +kernel
theorem dX1_howMany_3 : decode cX1_howMany 3 = .ok (.istore_n 2, 1) := by decide +kernel
theorem dX1_howMany_4 : decode cX1_howMany 4 = .ok (.iload_n 2, 1) := by decide +kernel
theorem dX1_howMany_5 : decode cX1_howMany 5 = .ok (.bipush 60, 2) := by decide +kernel
theorem dX1_howMany_7 : decode cX1_howMany 7 = .ok (.if_icmp .gt 21, 3) := by decide +kernel
theorem dX1_howMany_10 : decode cX1_howMany 10 = .ok (.iload_n 1, 1) := by decide +kernel
theorem dX1_howMany_11 : decode cX1_howMany 11 = .ok (.aload_n 0, 1) := by decide +kernel
theorem dX1_howMany_12 : decode cX1_howMany 12 = .ok (.getfield 11, 3) := by decide +kernel
theorem dX1_howMany_15 : decode cX1_howMany 15 = .ok (.iload_n 2, 1) := by decide +kernel
theorem dX1_howMany_16 : decode cX1_howMany 16 = .ok (.iaload, 1) := by decide +kernel
theorem dX1_howMany_17 : decode cX1_howMany 17 = .ok (.invokestatic 25, 3) := by decide +kernel
theorem dX1_howMany_20 : decode cX1_howMany 20 = .ok (.iadd, 1) := by decide +kernel
theorem dX1_howMany_21 : decode cX1_howMany 21 = .ok (.istore_n 1, 1) := by decide +kernel
theorem dX1_howMany_22 : decode cX1_howMany 22 = .ok (.iinc 2 1, 3) := by decide +kernel
theorem dX1_howMany_25 : decode cX1_howMany 25 = .ok (.goto (-21), 3) := by decide +kernel
theorem dX1_howMany_28 : decode cX1_howMany 28 = .ok (.iload_n 1, 1) := by decide +kernel
theorem dX1_howMany_29 : decode cX1_howMany 29 = .ok (.ireturn, 1) := by decide +kernel
theorem dX1_findSafe_0 : decode cX1_findSafe 0 = .ok (.aload_n 0, 1) := by decide +kernel
theorem dX1_findSafe_1 : decode cX1_findSafe 1 = .ok (.bipush (-6), 2) := by decide +kernel
theorem dX1_findSafe_3 : decode cX1_findSafe 3 = .ok (.putfield 31, 3) := by decide +kernel
theorem dX1_findSafe_6 : decode cX1_findSafe 6 = .ok (.aload_n 0, 1) := by decide +kernel
theorem dX1_findSafe_7 : decode cX1_findSafe 7 = .ok (.bipush (-6), 2) := by decide +kernel
theorem dX1_findSafe_9 : decode cX1_findSafe 9 = .ok (.putfield 35, 3) := by decide +kernel
theorem dX1_findSafe_12 : decode cX1_findSafe 12 = .ok (.aload_n 0, 1) := by decide +kernel
theorem dX1_findSafe_13 : decode cX1_findSafe 13 = .ok (.bipush (-6), 2) := by decide +kernel
theorem dX1_findSafe_15 : decode cX1_findSafe 15 = .ok (.putfield 38, 3) := by decide +kernel
theorem dX1_findSafe_18 : decode cX1_findSafe 18 = .ok (.iconst 1, 1) := by decide +kernel
theorem dX1_findSafe_19 : decode cX1_findSafe 19 = .ok (.istore_n 1, 1) := by decide +kernel
theorem dX1_findSafe_20 : decode cX1_findSafe 20 = .ok (.iload_n 1, 1) := by decide +kernel
theorem dX1_findSafe_21 : decode cX1_findSafe 21 = .ok (.bipush 60, 2) := by decide +kernel
theorem dX1_findSafe_23 : decode cX1_findSafe 23 = .ok (.if_icmp .gt 66, 3) := by decide +kernel
theorem dX1_findSafe_26 : decode cX1_findSafe 26 = .ok (.iconst 0, 1) := by decide +kernel
theorem dX1_findSafe_27 : decode cX1_findSafe 27 = .ok (.istore_n 2, 1) := by decide +kernel
theorem dX1_findSafe_28 : decode cX1_findSafe 28 = .ok (.iload_n 2, 1) := by decide +kernel
theorem dX1_findSafe_29 : decode cX1_findSafe 29 = .ok (.bipush 24, 2) := by decide +kernel
theorem dX1_findSafe_31 : decode cX1_findSafe 31 = .ok (.if_icmp .ge 52, 3) := by decide +kernel
theorem dX1_findSafe_34 : decode cX1_findSafe 34 = .ok (.aload_n 0, 1) := by decide +kernel
theorem dX1_findSafe_35 : decode cX1_findSafe 35 = .ok (.iload_n 1, 1) := by decide +kernel
theorem dX1_findSafe_36 : decode cX1_findSafe 36 = .ok (.iload_n 2, 1) := by decide +kernel
theorem dX1_findSafe_37 : decode cX1_findSafe 37 = .ok (.invokevirtual 41, 3) := by decide +kernel
theorem dX1_findSafe_40 : decode cX1_findSafe 40 = .ok (.iconst 1, 1) := by decide +kernel
theorem dX1_findSafe_41 : decode cX1_findSafe 41 = .ok (.if_icmp .ne 36, 3) := by decide +kernel
theorem dX1_findSafe_44 : decode cX1_findSafe 44 = .ok (.aload_n 0, 1) := by decide +kernel
theorem dX1_findSafe_45 : decode cX1_findSafe 45 = .ok (.iload_n 1, 1) := by decide +kernel
theorem dX1_findSafe_46 : decode cX1_findSafe 46 = .ok (.iload_n 2, 1) := by decide +kernel
theorem dX1_findSafe_47 : decode cX1_findSafe 47 = .ok (.invokevirtual 45, 3) := by decide +kernel
theorem dX1_findSafe_50 : decode cX1_findSafe 50 = .ok (.aload_n 0, 1) := by decide +kernel
theorem dX1_findSafe_51 : decode cX1_findSafe 51 = .ok (.getfield 38, 3) := by decide +kernel
theorem dX1_findSafe_54 : decode cX1_findSafe 54 = .ok (.if_icmp .le 23, 3) := by decide +kernel
theorem dX1_findSafe_57 : decode cX1_findSafe 57 = .ok (.aload_n 0, 1) := by decide +kernel
theorem dX1_findSafe_58 : decode cX1_findSafe 58 = .ok (.iload_n 1, 1) := by decide +kernel
theorem dX1_findSafe_59 : decode cX1_findSafe 59 = .ok (.putfield 31, 3) := by decide +kernel
theorem dX1_findSafe_62 : decode cX1_findSafe 62 = .ok (.aload_n 0, 1) := by decide +kernel
theorem dX1_findSafe_63 : decode cX1_findSafe 63 = .ok (.iload_n 2, 1) := by decide +kernel
theorem dX1_findSafe_64 : decode cX1_findSafe 64 = .ok (.putfield 35, 3) := by decide +kernel
theorem dX1_findSafe_67 : decode cX1_findSafe 67 = .ok (.aload_n 0, 1) := by decide +kernel
theorem dX1_findSafe_68 : decode cX1_findSafe 68 = .ok (.aload_n 0, 1) := by decide +kernel
theorem dX1_findSafe_69 : decode cX1_findSafe 69 = .ok (.iload_n 1, 1) := by decide +kernel
theorem dX1_findSafe_70 : decode cX1_findSafe 70 = .ok (.iload_n 2, 1) := by decide +kernel
theorem dX1_findSafe_71 : decode cX1_findSafe 71 = .ok (.invokevirtual 45, 3) := by decide +kernel
theorem dX1_findSafe_74 : decode cX1_findSafe 74 = .ok (.putfield 38, 3) := by decide +kernel
theorem dX1_findSafe_77 : decode cX1_findSafe 77 = .ok (.iinc 2 1, 3) := by decide +kernel
theorem dX1_findSafe_80 : decode cX1_findSafe 80 = .ok (.goto (-52), 3) := by decide +kernel
theorem dX1_findSafe_83 : decode cX1_findSafe 83 = .ok (.iinc 1 1, 3) := by decide +kernel
theorem dX1_findSafe_86 : decode cX1_findSafe 86 = .ok (.goto (-66), 3) := by decide +kernel
theorem dX1_findSafe_89 : decode cX1_findSafe 89 = .ok (.return_, 1) := by decide +kernel
theorem dX1_neighbours_0 : decode cX1_neighbours 0 = .ok (.aload_n 0, 1) := by decide +kernel
theorem dX1_neighbours_1 : decode cX1_neighbours 1 = .ok (.iload_n 1, 1) := by decide +kernel
theorem dX1_neighbours_2 : decode cX1_neighbours 2 = .ok (.iload_n 2, 1) := by decide +kernel
theorem dX1_neighbours_3 : decode cX1_neighbours 3 = .ok (.invokevirtual 41, 3) := by decide +kernel
theorem dX1_neighbours_6 : decode cX1_neighbours 6 = .ok (.ineg, 1) := by decide +kernel
theorem dX1_neighbours_7 : decode cX1_neighbours 7 = .ok (.istore_n 3, 1) := by decide +kernel
theorem dX1_neighbours_8 : decode cX1_neighbours 8 = .ok (.iload_n 1, 1) := by decide +kernel
theorem dX1_neighbours_9 : decode cX1_neighbours 9 = .ok (.iconst 1, 1) := by decide +kernel
theorem dX1_neighbours_10 : decode cX1_neighbours 10 = .ok (.isub, 1) := by decide +kernel
theorem dX1_neighbours_11 : decode cX1_neighbours 11 = .ok (.istore 4, 2) := by decide +kernel
theorem dX1_neighbours_13 : decode cX1_neighbours 13 = .ok (.iload 4, 2) := by decide +kernel
theorem dX1_neighbours_15 : decode cX1_neighbours 15 = .ok (.iload_n 1, 1) := by decide +kernel
theorem dX1_neighbours_16 : decode cX1_neighbours 16 = .ok (.iconst 1, 1) := by decide +kernel
theorem dX1_neighbours_17 : decode cX1_neighbours 17 = .ok (.iadd, 1) := by decide +kernel
theorem dX1_neighbours_18 : decode cX1_neighbours 18 = .ok (.if_icmp .gt 39, 3) := by decide +kernel
theorem dX1_neighbours_21 : decode cX1_neighbours 21 = .ok (.iload_n 3, 1) := by decide +kernel
theorem dX1_neighbours_22 : decode cX1_neighbours 22 = .ok (.aload_n 0, 1) := by decide +kernel
theorem dX1_neighbours_23 : decode cX1_neighbours 23 = .ok (.iload 4, 2) := by decide +kernel
theorem dX1_neighbours_25 : decode cX1_neighbours 25 = .ok (.iload_n 2, 1) := by decide +kernel
theorem dX1_neighbours_26 : decode cX1_neighbours 26 = .ok (.iconst 1, 1) := by decide +kernel
theorem dX1_neighbours_27 : decode cX1_neighbours 27 = .ok (.isub, 1) := by decide +kernel
theorem dX1_neighbours_28 : decode cX1_neighbours 28 = .ok (.invokevirtual 41, 3) := by decide +kernel
theorem dX1_neighbours_31 : decode cX1_neighbours 31 = .ok (.aload_n 0, 1) := by decide +kernel
theorem dX1_neighbours_32 : decode cX1_neighbours 32 = .ok (.iload 4, 2) := by decide +kernel
theorem dX1_neighbours_34 : decode cX1_neighbours 34 = .ok (.iload_n 2, 1) := by decide +kernel
theorem dX1_neighbours_35 : decode cX1_neighbours 35 = .ok (.invokevirtual 41, 3) := by decide +kernel
theorem dX1_neighbours_38 : decode cX1_neighbours 38 = .ok (.iadd, 1) := by decide +kernel
theorem dX1_neighbours_39 : decode cX1_neighbours 39 = .ok (.aload_n 0, 1) := by decide +kernel
theorem dX1_neighbours_40 : decode cX1_neighbours 40 = .ok (.iload 4, 2) := by decide +kernel
theorem dX1_neighbours_42 : decode cX1_neighbours 42 = .ok (.iload_n 2, 1) := by decide +kernel
theorem dX1_neighbours_43 : decode cX1_neighbours 43 = .ok (.iconst 1, 1) := by decide +kernel
theorem dX1_neighbours_44 : decode cX1_neighbours 44 = .ok (.iadd, 1) := by decide +kernel
theorem dX1_neighbours_45 : decode cX1_neighbours 45 = .ok (.invokevirtual 41, 3) := by decide +kernel
theorem dX1_neighbours_48 : decode cX1_neighbours 48 = .ok (.iadd, 1) := by decide +kernel
theorem dX1_neighbours_49 : decode cX1_neighbours 49 = .ok (.iadd, 1) := by decide +kernel
theorem dX1_neighbours_50 : decode cX1_neighbours 50 = .ok (.istore_n 3, 1) := by decide +kernel
theorem dX1_neighbours_51 : decode cX1_neighbours 51 = .ok (.iinc 4 1, 3) := by decide +kernel
theorem dX1_neighbours_54 : decode cX1_neighbours 54 = .ok (.goto (-41), 3) := by decide +kernel
theorem dX1_neighbours_57 : decode cX1_neighbours 57 = .ok (.iload_n 3, 1) := by decide +kernel
theorem dX1_neighbours_58 : decode cX1_neighbours 58 = .ok (.ireturn, 1) := by decide +kernel
theorem dX1_bit_0 : decode cX1_bit 0 = .ok (.aload_n 0, 1) := by decide +kernel
theorem dX1_bit_1 : decode cX1_bit 1 = .ok (.getfield 11, 3) := by decide +kernel
theorem dX1_bit_4 : decode cX1_bit 4 = .ok (.iload_n 1, 1) := by decide +kernel
theorem dX1_bit_5 : decode cX1_bit 5 = .ok (.iaload, 1) := by decide +kernel
theorem dX1_bit_6 : decode cX1_bit 6 = .ok (.iload_n 2, 1) := by decide +kernel
theorem dX1_bit_7 : decode cX1_bit 7 = .ok (.bipush 24, 2) := by decide +kernel
theorem dX1_bit_9 : decode cX1_bit 9 = .ok (.invokestatic 48, 3) := by decide +kernel
theorem dX1_bit_12 : decode cX1_bit 12 = .ok (.ishr, 1) := by decide +kernel
theorem dX1_bit_13 : decode cX1_bit 13 = .ok (.iconst 1, 1) := by decide +kernel
theorem dX1_bit_14 : decode cX1_bit 14 = .ok (.iand, 1) := by decide +kernel
theorem dX1_bit_15 : decode cX1_bit 15 = .ok (.ireturn, 1) := by decide +kernel
theorem dX2_init_0 : decode cX2_init 0 = .ok (.aload_n 0, 1) := by decide +kernel
theorem dX2_init_1 : decode cX2_init 1 = .ok (.invokespecial 1, 3) := by decide +kernel
theorem dX2_init_4 : decode cX2_init 4 = .ok (.aload_n 0, 1) := by decide +kernel
theorem dX2_init_5 : decode cX2_init 5 = .ok (.bipush 24, 2) := by decide +kernel
theorem dX2_init_7 : decode cX2_init 7 = .ok (.newarray .int, 2) := by decide +kernel
theorem dX2_init_9 : decode cX2_init 9 = .ok (.putfield 9, 3) := by decide +kernel
theorem dX2_init_12 : decode cX2_init 12 = .ok (.aload_n 0, 1) := by decide +kernel
theorem dX2_init_13 : decode cX2_init 13 = .ok (.bipush 24, 2) := by decide +kernel
theorem dX2_init_15 : decode cX2_init 15 = .ok (.newarray .int, 2) := by decide +kernel
theorem dX2_init_17 : decode cX2_init 17 = .ok (.putfield 13, 3) := by decide +kernel
theorem dX2_init_20 : decode cX2_init 20 = .ok (.return_, 1) := by decide +kernel
theorem dX2_add_0 : decode cX2_add 0 = .ok (.aload_n 0, 1) := by decide +kernel
theorem dX2_add_1 : decode cX2_add 1 = .ok (.getfield 16, 3) := by decide +kernel
theorem dX2_add_4 : decode cX2_add 4 = .ok (.bipush 24, 2) := by decide +kernel
theorem dX2_add_6 : decode cX2_add 6 = .ok (.if_icmp .lt 5, 3) := by decide +kernel
theorem dX2_add_9 : decode cX2_add 9 = .ok (.iconst 0, 1) := by decide +kernel
theorem dX2_add_10 : decode cX2_add 10 = .ok (.ireturn, 1) := by decide +kernel
theorem dX2_add_11 : decode cX2_add 11 = .ok (.aload_n 0, 1) := by decide +kernel
theorem dX2_add_12 : decode cX2_add 12 = .ok (.getfield 9, 3) := by decide +kernel
theorem dX2_add_15 : decode cX2_add 15 = .ok (.aload_n 0, 1) := by decide +kernel
theorem dX2_add_16 : decode cX2_add 16 = .ok (.getfield 16, 3) := by decide +kernel
theorem dX2_add_19 : decode cX2_add 19 = .ok (.iload_n 1, 1) := by decide +kernel
theorem dX2_add_20 : decode cX2_add 20 = .ok (.iastore, 1) := by decide +kernel
theorem dX2_add_21 : decode cX2_add 21 = .ok (.aload_n 0, 1) := by decide +kernel
theorem dX2_add_22 : decode cX2_add 22 = .ok (.getfield 13, 3) := by decide +kernel
theorem dX2_add_25 : decode cX2_add 25 = .ok (.aload_n 0, 1) := by decide +kernel
theorem dX2_add_26 : decode cX2_add 26 = .ok (.getfield 16, 3) := by decide +kernel
theorem dX2_add_29 : decode cX2_add 29 = .ok (.iload_n 2, 1) := by decide +kernel
theorem dX2_add_30 : decode cX2_add 30 = .ok (.iastore, 1) := by decide +kernel
theorem dX2_add_31 : decode cX2_add 31 = .ok (.aload_n 0, 1) := by decide +kernel
theorem dX2_add_32 : decode cX2_add 32 = .ok (.dup, 1) := by decide +kernel
theorem dX2_add_33 : decode cX2_add 33 = .ok (.getfield 16, 3) := by decide +kernel
theorem dX2_add_36 : decode cX2_add 36 = .ok (.iconst 1, 1) := by decide +kernel
theorem dX2_add_37 : decode cX2_add 37 = .ok (.iadd, 1) := by decide +kernel
theorem dX2_add_38 : decode cX2_add 38 = .ok (.putfield 16, 3) := by decide +kernel
theorem dX2_add_41 : decode cX2_add 41 = .ok (.iconst 1, 1) := by decide +kernel
theorem dX2_add_42 : decode cX2_add 42 = .ok (.ireturn, 1) := by decide +kernel
theorem dX2_tells_0 : decode cX2_tells 0 = .ok (.aload_n 0, 1) := by decide +kernel
theorem dX2_tells_1 : decode cX2_tells 1 = .ok (.getfield 16, 3) := by decide +kernel
theorem dX2_tells_4 : decode cX2_tells 4 = .ok (.iconst 3, 1) := by decide +kernel
theorem dX2_tells_5 : decode cX2_tells 5 = .ok (.if_icmp .lt 7, 3) := by decide +kernel
theorem dX2_tells_8 : decode cX2_tells 8 = .ok (.iconst 1, 1) := by decide +kernel
theorem dX2_tells_9 : decode cX2_tells 9 = .ok (.goto 4, 3) := by decide +kernel
theorem dX2_tells_12 : decode cX2_tells 12 = .ok (.iconst 0, 1) := by decide +kernel
theorem dX2_tells_13 : decode cX2_tells 13 = .ok (.ireturn, 1) := by decide +kernel
theorem dX2_bend_0 : decode cX2_bend 0 = .ok (.lconst 0, 1) := by decide +kernel
theorem dX2_bend_1 : decode cX2_bend 1 = .ok (.lstore_n 2, 1) := by decide +kernel
theorem dX2_bend_2 : decode cX2_bend 2 = .ok (.iconst 2, 1) := by decide +kernel
theorem dX2_bend_3 : decode cX2_bend 3 = .ok (.istore 4, 2) := by decide +kernel
theorem dX2_bend_5 : decode cX2_bend 5 = .ok (.iload 4, 2) := by decide +kernel
theorem dX2_bend_7 : decode cX2_bend 7 = .ok (.aload_n 0, 1) := by decide +kernel
theorem dX2_bend_8 : decode cX2_bend 8 = .ok (.getfield 16, 3) := by decide +kernel
theorem dX2_bend_11 : decode cX2_bend 11 = .ok (.if_icmp .ge 83, 3) := by decide +kernel
theorem dX2_bend_14 : decode cX2_bend 14 = .ok (.lload_n 2, 1) := by decide +kernel
theorem dX2_bend_15 : decode cX2_bend 15 = .ok (.aload_n 0, 1) := by decide +kernel
theorem dX2_bend_16 : decode cX2_bend 16 = .ok (.iload 4, 2) := by decide +kernel
theorem dX2_bend_18 : decode cX2_bend 18 = .ok (.iconst 2, 1) := by decide +kernel
theorem dX2_bend_19 : decode cX2_bend 19 = .ok (.isub, 1) := by decide +kernel
theorem dX2_bend_20 : decode cX2_bend 20 = .ok (.iload_n 1, 1) := by decide +kernel
theorem dX2_bend_21 : decode cX2_bend 21 = .ok (.invokevirtual 20, 3) := by decide +kernel
theorem dX2_bend_24 : decode cX2_bend 24 = .ok (.ldc2_w 24, 3) := by decide +kernel
theorem dX2_bend_27 : decode cX2_bend 27 = .ok (.aload_n 0, 1) := by decide +kernel
theorem dX2_bend_28 : decode cX2_bend 28 = .ok (.iload 4, 2) := by decide +kernel
theorem dX2_bend_30 : decode cX2_bend 30 = .ok (.iconst 1, 1) := by decide +kernel
theorem dX2_bend_31 : decode cX2_bend 31 = .ok (.isub, 1) := by decide +kernel
theorem dX2_bend_32 : decode cX2_bend 32 = .ok (.iload_n 1, 1) := by decide +kernel
theorem dX2_bend_33 : decode cX2_bend 33 = .ok (.invokevirtual 20, 3) := by decide +kernel
theorem dX2_bend_36 : decode cX2_bend 36 = .ok (.lmul, 1) := by decide +kernel
theorem dX2_bend_37 : decode cX2_bend 37 = .ok (.lsub, 1) := by decide +kernel
theorem dX2_bend_38 : decode cX2_bend 38 = .ok (.aload_n 0, 1) := by decide +kernel
theorem dX2_bend_39 : decode cX2_bend 39 = .ok (.iload 4, 2) := by decide +kernel
theorem dX2_bend_41 : decode cX2_bend 41 = .ok (.iload_n 1, 1) := by decide +kernel
theorem dX2_bend_42 : decode cX2_bend 42 = .ok (.invokevirtual 20, 3) := by decide +kernel
theorem dX2_bend_45 : decode cX2_bend 45 = .ok (.ladd, 1) := by decide +kernel
theorem dX2_bend_46 : decode cX2_bend 46 = .ok (.invokestatic 26, 3) := by decide +kernel
theorem dX2_bend_49 : decode cX2_bend 49 = .ok (.ladd, 1) := by decide +kernel
theorem dX2_bend_50 : decode cX2_bend 50 = .ok (.lstore_n 2, 1) := by decide +kernel
theorem dX2_bend_51 : decode cX2_bend 51 = .ok (.lload_n 2, 1) := by decide +kernel
theorem dX2_bend_52 : decode cX2_bend 52 = .ok (.aload_n 0, 1) := by decide +kernel
theorem dX2_bend_53 : decode cX2_bend 53 = .ok (.iload 4, 2) := by decide +kernel
theorem dX2_bend_55 : decode cX2_bend 55 = .ok (.iconst 2, 1) := by decide +kernel
theorem dX2_bend_56 : decode cX2_bend 56 = .ok (.isub, 1) := by decide +kernel
theorem dX2_bend_57 : decode cX2_bend 57 = .ok (.iload_n 1, 1) := by decide +kernel
theorem dX2_bend_58 : decode cX2_bend 58 = .ok (.invokevirtual 32, 3) := by decide +kernel
theorem dX2_bend_61 : decode cX2_bend 61 = .ok (.ldc2_w 24, 3) := by decide +kernel
theorem dX2_bend_64 : decode cX2_bend 64 = .ok (.aload_n 0, 1) := by decide +kernel
theorem dX2_bend_65 : decode cX2_bend 65 = .ok (.iload 4, 2) := by decide +kernel
theorem dX2_bend_67 : decode cX2_bend 67 = .ok (.iconst 1, 1) := by decide +kernel
theorem dX2_bend_68 : decode cX2_bend 68 = .ok (.isub, 1) := by decide +kernel
theorem dX2_bend_69 : decode cX2_bend 69 = .ok (.iload_n 1, 1) := by decide +kernel
theorem dX2_bend_70 : decode cX2_bend 70 = .ok (.invokevirtual 32, 3) := by decide +kernel
theorem dX2_bend_73 : decode cX2_bend 73 = .ok (.lmul, 1) := by decide +kernel
theorem dX2_bend_74 : decode cX2_bend 74 = .ok (.lsub, 1) := by decide +kernel
theorem dX2_bend_75 : decode cX2_bend 75 = .ok (.aload_n 0, 1) := by decide +kernel
theorem dX2_bend_76 : decode cX2_bend 76 = .ok (.iload 4, 2) := by decide +kernel
theorem dX2_bend_78 : decode cX2_bend 78 = .ok (.iload_n 1, 1) := by decide +kernel
theorem dX2_bend_79 : decode cX2_bend 79 = .ok (.invokevirtual 32, 3) := by decide +kernel
theorem dX2_bend_82 : decode cX2_bend 82 = .ok (.ladd, 1) := by decide +kernel
theorem dX2_bend_83 : decode cX2_bend 83 = .ok (.invokestatic 26, 3) := by decide +kernel
theorem dX2_bend_86 : decode cX2_bend 86 = .ok (.ladd, 1) := by decide +kernel
theorem dX2_bend_87 : decode cX2_bend 87 = .ok (.lstore_n 2, 1) := by decide +kernel
theorem dX2_bend_88 : decode cX2_bend 88 = .ok (.iinc 4 1, 3) := by decide +kernel
theorem dX2_bend_91 : decode cX2_bend 91 = .ok (.goto (-86), 3) := by decide +kernel
theorem dX2_bend_94 : decode cX2_bend 94 = .ok (.lload_n 2, 1) := by decide +kernel
theorem dX2_bend_95 : decode cX2_bend 95 = .ok (.l2i, 1) := by decide +kernel
theorem dX2_bend_96 : decode cX2_bend 96 = .ok (.ireturn, 1) := by decide +kernel
theorem dX2_groundX_0 : decode cX2_groundX 0 = .ok (.aload_n 0, 1) := by decide +kernel
theorem dX2_groundX_1 : decode cX2_groundX 1 = .ok (.getfield 9, 3) := by decide +kernel
theorem dX2_groundX_4 : decode cX2_groundX 4 = .ok (.iload_n 1, 1) := by decide +kernel
theorem dX2_groundX_5 : decode cX2_groundX 5 = .ok (.iaload, 1) := by decide +kernel
theorem dX2_groundX_6 : decode cX2_groundX 6 = .ok (.i2l, 1) := by decide +kernel
theorem dX2_groundX_7 : decode cX2_groundX 7 = .ok (.aload_n 0, 1) := by decide +kernel
theorem dX2_groundX_8 : decode cX2_groundX 8 = .ok (.getfield 13, 3) := by decide +kernel
theorem dX2_groundX_11 : decode cX2_groundX 11 = .ok (.iload_n 1, 1) := by decide +kernel
theorem dX2_groundX_12 : decode cX2_groundX 12 = .ok (.iaload, 1) := by decide +kernel
theorem dX2_groundX_13 : decode cX2_groundX 13 = .ok (.i2l, 1) := by decide +kernel
theorem dX2_groundX_14 : decode cX2_groundX 14 = .ok (.iload_n 1, 1) := by decide +kernel
theorem dX2_groundX_15 : decode cX2_groundX 15 = .ok (.iload_n 2, 1) := by decide +kernel
theorem dX2_groundX_16 : decode cX2_groundX 16 = .ok (.imul, 1) := by decide +kernel
theorem dX2_groundX_17 : decode cX2_groundX 17 = .ok (.invokestatic 35, 3) := by decide +kernel
theorem dX2_groundX_20 : decode cX2_groundX 20 = .ok (.invokestatic 41, 3) := by decide +kernel
theorem dX2_groundX_23 : decode cX2_groundX 23 = .ok (.lreturn, 1) := by decide +kernel
theorem dX2_groundY_0 : decode cX2_groundY 0 = .ok (.aload_n 0, 1) := by decide +kernel
theorem dX2_groundY_1 : decode cX2_groundY 1 = .ok (.getfield 9, 3) := by decide +kernel
theorem dX2_groundY_4 : decode cX2_groundY 4 = .ok (.iload_n 1, 1) := by decide +kernel
theorem dX2_groundY_5 : decode cX2_groundY 5 = .ok (.iaload, 1) := by decide +kernel
theorem dX2_groundY_6 : decode cX2_groundY 6 = .ok (.i2l, 1) := by decide +kernel
theorem dX2_groundY_7 : decode cX2_groundY 7 = .ok (.aload_n 0, 1) := by decide +kernel
theorem dX2_groundY_8 : decode cX2_groundY 8 = .ok (.getfield 13, 3) := by decide +kernel
theorem dX2_groundY_11 : decode cX2_groundY 11 = .ok (.iload_n 1, 1) := by decide +kernel
theorem dX2_groundY_12 : decode cX2_groundY 12 = .ok (.iaload, 1) := by decide +kernel
theorem dX2_groundY_13 : decode cX2_groundY 13 = .ok (.i2l, 1) := by decide +kernel
theorem dX2_groundY_14 : decode cX2_groundY 14 = .ok (.iload_n 1, 1) := by decide +kernel
theorem dX2_groundY_15 : decode cX2_groundY 15 = .ok (.iload_n 2, 1) := by decide +kernel
theorem dX2_groundY_16 : decode cX2_groundY 16 = .ok (.imul, 1) := by decide +kernel
theorem dX2_groundY_17 : decode cX2_groundY 17 = .ok (.invokestatic 35, 3) := by decide +kernel
theorem dX2_groundY_20 : decode cX2_groundY 20 = .ok (.invokestatic 47, 3) := by decide +kernel
theorem dX2_groundY_23 : decode cX2_groundY 23 = .ok (.lreturn, 1) := by decide +kernel
theorem dX2_likeliestPace_0 : decode cX2_likeliestPace 0 = .ok (.iconst 0, 1) := by decide +kernel
theorem dX2_likeliestPace_1 : decode cX2_likeliestPace 1 = .ok (.istore_n 1, 1) := by decide +kernel
theorem dX2_likeliestPace_2 : decode cX2_likeliestPace 2 = .ok (.aload_n 0, 1) := by decide +kernel
theorem dX2_likeliestPace_3 : decode cX2_likeliestPace 3 = .ok (.iconst 0, 1) := by decide +kernel
theorem dX2_likeliestPace_4 : decode cX2_likeliestPace 4 = .ok (.invokevirtual 50, 3) := by decide +kernel
theorem dX2_likeliestPace_7 : decode cX2_likeliestPace 7 = .ok (.istore_n 2, 1) := by decide +kernel
theorem dX2_likeliestPace_8 : decode cX2_likeliestPace 8 = .ok (.iconst 1, 1) := by decide +kernel
theorem dX2_likeliestPace_9 : decode cX2_likeliestPace 9 = .ok (.istore_n 3, 1) := by decide +kernel
theorem dX2_likeliestPace_10 : decode cX2_likeliestPace 10 = .ok (.iload_n 3, 1) := by decide +kernel
theorem dX2_likeliestPace_11 : decode cX2_likeliestPace 11 = .ok (.bipush 60, 2) := by decide +kernel
theorem dX2_likeliestPace_13 : decode cX2_likeliestPace 13 = .ok (.if_icmp .gt 57, 3) := by decide +kernel
theorem dX2_likeliestPace_16 : decode cX2_likeliestPace 16 = .ok (.iconst 0, 1) := by decide +kernel
theorem dX2_likeliestPace_17 : decode cX2_likeliestPace 17 = .ok (.istore 4, 2) := by decide +kernel
theorem dX2_likeliestPace_19 : decode cX2_likeliestPace 19 = .ok (.iload 4, 2) := by decide +kernel
theorem dX2_likeliestPace_21 : decode cX2_likeliestPace 21 = .ok (.iconst 2, 1) := by decide +kernel
theorem dX2_likeliestPace_22 : decode cX2_likeliestPace 22 = .ok (.if_icmp .ge 42, 3) := by decide +kernel
theorem dX2_likeliestPace_25 : decode cX2_likeliestPace 25 = .ok (.iload 4, 2) := by decide +kernel
theorem dX2_likeliestPace_27 : decode cX2_likeliestPace 27 = .ok (.ifCond .ne 7, 3) := by decide +kernel
theorem dX2_likeliestPace_30 : decode cX2_likeliestPace 30 = .ok (.iload_n 3, 1) := by decide +kernel
theorem dX2_likeliestPace_31 : decode cX2_likeliestPace 31 = .ok (.goto 5, 3) := by decide +kernel
theorem dX2_likeliestPace_34 : decode cX2_likeliestPace 34 = .ok (.iload_n 3, 1) := by decide +kernel
theorem dX2_likeliestPace_35 : decode cX2_likeliestPace 35 = .ok (.ineg, 1) := by decide +kernel
theorem dX2_likeliestPace_36 : decode cX2_likeliestPace 36 = .ok (.istore 5, 2) := by decide +kernel
theorem dX2_likeliestPace_38 : decode cX2_likeliestPace 38 = .ok (.aload_n 0, 1) := by decide +kernel
theorem dX2_likeliestPace_39 : decode cX2_likeliestPace 39 = .ok (.iload 5, 2) := by decide +kernel
theorem dX2_likeliestPace_41 : decode cX2_likeliestPace 41 = .ok (.invokevirtual 50, 3) := by decide +kernel
theorem dX2_likeliestPace_44 : decode cX2_likeliestPace 44 = .ok (.istore 6, 2) := by decide +kernel
theorem dX2_likeliestPace_46 : decode cX2_likeliestPace 46 = .ok (.iload 6, 2) := by decide +kernel
theorem dX2_likeliestPace_48 : decode cX2_likeliestPace 48 = .ok (.iload_n 2, 1) := by decide +kernel
theorem dX2_likeliestPace_49 : decode cX2_likeliestPace 49 = .ok (.if_icmp .ge 9, 3) := by decide +kernel
theorem dX2_likeliestPace_52 : decode cX2_likeliestPace 52 = .ok (.iload 6, 2) := by decide +kernel
theorem dX2_likeliestPace_54 : decode cX2_likeliestPace 54 = .ok (.istore_n 2, 1) := by decide +kernel
theorem dX2_likeliestPace_55 : decode cX2_likeliestPace 55 = .ok (.iload 5, 2) := by decide +kernel
theorem dX2_likeliestPace_57 : decode cX2_likeliestPace 57 = .ok (.istore_n 1, 1) := by decide +kernel
theorem dX2_likeliestPace_58 : decode cX2_likeliestPace 58 = .ok (.iinc 4 1, 3) := by decide +kernel
theorem dX2_likeliestPace_61 : decode cX2_likeliestPace 61 = .ok (.goto (-42), 3) := by decide +kernel
theorem dX2_likeliestPace_64 : decode cX2_likeliestPace 64 = .ok (.iinc 3 1, 3) := by decide +kernel
theorem dX2_likeliestPace_67 : decode cX2_likeliestPace 67 = .ok (.goto (-57), 3) := by decide +kernel
theorem dX2_likeliestPace_70 : decode cX2_likeliestPace 70 = .ok (.iload_n 1, 1) := by decide +kernel
theorem dX2_likeliestPace_71 : decode cX2_likeliestPace 71 = .ok (.ireturn, 1) := by decide +kernel
theorem dX2_farthestPace_0 : decode cX2_farthestPace 0 = .ok (.aload_n 0, 1) := by decide +kernel
theorem dX2_farthestPace_1 : decode cX2_farthestPace 1 = .ok (.invokevirtual 53, 3) := by decide +kernel
theorem dX2_farthestPace_4 : decode cX2_farthestPace 4 = .ok (.istore_n 3, 1) := by decide +kernel
theorem dX2_farthestPace_5 : decode cX2_farthestPace 5 = .ok (.aload_n 0, 1) := by decide +kernel
theorem dX2_farthestPace_6 : decode cX2_farthestPace 6 = .ok (.iload_n 3, 1) := by decide +kernel
theorem dX2_farthestPace_7 : decode cX2_farthestPace 7 = .ok (.invokevirtual 50, 3) := by decide +kernel
theorem dX2_farthestPace_10 : decode cX2_farthestPace 10 = .ok (.iload_n 1, 1) := by decide +kernel
theorem dX2_farthestPace_11 : decode cX2_farthestPace 11 = .ok (.iadd, 1) := by decide +kernel
theorem dX2_farthestPace_12 : decode cX2_farthestPace 12 = .ok (.istore 4, 2) := by decide +kernel
theorem dX2_farthestPace_14 : decode cX2_farthestPace 14 = .ok (.bipush 60, 2) := by decide +kernel
theorem dX2_farthestPace_16 : decode cX2_farthestPace 16 = .ok (.istore 5, 2) := by decide +kernel
theorem dX2_farthestPace_18 : decode cX2_farthestPace 18 = .ok (.iload 5, 2) := by decide +kernel
theorem dX2_farthestPace_20 : decode cX2_farthestPace 20 = .ok (.bipush (-60), 2) := by decide +kernel
theorem dX2_farthestPace_22 : decode cX2_farthestPace 22 = .ok (.if_icmp .le 27, 3) := by decide +kernel
theorem dX2_farthestPace_25 : decode cX2_farthestPace 25 = .ok (.aload_n 0, 1) := by decide +kernel
theorem dX2_farthestPace_26 : decode cX2_farthestPace 26 = .ok (.iload_n 2, 1) := by decide +kernel
theorem dX2_farthestPace_27 : decode cX2_farthestPace 27 = .ok (.iload 5, 2) := by decide +kernel
theorem dX2_farthestPace_29 : decode cX2_farthestPace 29 = .ok (.imul, 1) := by decide +kernel
theorem dX2_farthestPace_30 : decode cX2_farthestPace 30 = .ok (.invokevirtual 50, 3) := by decide +kernel
theorem dX2_farthestPace_33 : decode cX2_farthestPace 33 = .ok (.iload 4, 2) := by decide +kernel
theorem dX2_farthestPace_35 : decode cX2_farthestPace 35 = .ok (.if_icmp .gt 8, 3) := by decide +kernel
theorem dX2_farthestPace_38 : decode cX2_farthestPace 38 = .ok (.iload_n 2, 1) := by decide +kernel
theorem dX2_farthestPace_39 : decode cX2_farthestPace 39 = .ok (.iload 5, 2) := by decide +kernel
theorem dX2_farthestPace_41 : decode cX2_farthestPace 41 = .ok (.imul, 1) := by decide +kernel
theorem dX2_farthestPace_42 : decode cX2_farthestPace 42 = .ok (.ireturn, 1) := by decide +kernel
theorem dX2_farthestPace_43 : decode cX2_farthestPace 43 = .ok (.iinc 5 (-1), 3) := by decide +kernel
theorem dX2_farthestPace_46 : decode cX2_farthestPace 46 = .ok (.goto (-28), 3) := by decide +kernel
theorem dX2_farthestPace_49 : decode cX2_farthestPace 49 = .ok (.iload_n 3, 1) := by decide +kernel
theorem dX2_farthestPace_50 : decode cX2_farthestPace 50 = .ok (.ireturn, 1) := by decide +kernel
theorem dX2_become_0 : decode cX2_become 0 = .ok (.aload_n 1, 1) := by decide +kernel
theorem dX2_become_1 : decode cX2_become 1 = .ok (.getfield 9, 3) := by decide +kernel
theorem dX2_become_4 : decode cX2_become 4 = .ok (.iconst 0, 1) := by decide +kernel
theorem dX2_become_5 : decode cX2_become 5 = .ok (.aload_n 0, 1) := by decide +kernel
theorem dX2_become_6 : decode cX2_become 6 = .ok (.getfield 9, 3) := by decide +kernel
theorem dX2_become_9 : decode cX2_become 9 = .ok (.iconst 0, 1) := by decide +kernel
theorem dX2_become_10 : decode cX2_become 10 = .ok (.bipush 24, 2) := by decide +kernel
theorem dX2_become_12 : decode cX2_become 12 = .ok (.invokestatic 57, 3) := by decide +kernel
theorem dX2_become_15 : decode cX2_become 15 = .ok (.aload_n 1, 1) := by decide +kernel
theorem dX2_become_16 : decode cX2_become 16 = .ok (.getfield 13, 3) := by decide +kernel
theorem dX2_become_19 : decode cX2_become 19 = .ok (.iconst 0, 1) := by decide +kernel
theorem dX2_become_20 : decode cX2_become 20 = .ok (.aload_n 0, 1) := by decide +kernel
theorem dX2_become_21 : decode cX2_become 21 = .ok (.getfield 13, 3) := by decide +kernel
theorem dX2_become_24 : decode cX2_become 24 = .ok (.iconst 0, 1) := by decide +kernel
theorem dX2_become_25 : decode cX2_become 25 = .ok (.bipush 24, 2) := by decide +kernel
theorem dX2_become_27 : decode cX2_become 27 = .ok (.invokestatic 57, 3) := by decide +kernel
theorem dX2_become_30 : decode cX2_become 30 = .ok (.aload_n 0, 1) := by decide +kernel
theorem dX2_become_31 : decode cX2_become 31 = .ok (.aload_n 1, 1) := by decide +kernel
theorem dX2_become_32 : decode cX2_become 32 = .ok (.getfield 16, 3) := by decide +kernel
theorem dX2_become_35 : decode cX2_become 35 = .ok (.putfield 16, 3) := by decide +kernel
theorem dX2_become_38 : decode cX2_become 38 = .ok (.return_, 1) := by decide +kernel
theorem dX3_init_0 : decode cX3_init 0 = .ok (.aload_n 0, 1) := by decide +kernel
theorem dX3_init_1 : decode cX3_init 1 = .ok (.invokespecial 3, 3) := by decide +kernel
theorem dX3_init_4 : decode cX3_init 4 = .ok (.return_, 1) := by decide +kernel
theorem dX3_aim_0 : decode cX3_aim 0 = .ok (.aload_n 0, 1) := by decide +kernel
theorem dX3_aim_1 : decode cX3_aim 1 = .ok (.iconst 0, 1) := by decide +kernel
theorem dX3_aim_2 : decode cX3_aim 2 = .ok (.putfield 9, 3) := by decide +kernel
theorem dX3_aim_5 : decode cX3_aim 5 = .ok (.iconst 1, 1) := by decide +kernel
theorem dX3_aim_6 : decode cX3_aim 6 = .ok (.istore 4, 2) := by decide +kernel
theorem dX3_aim_8 : decode cX3_aim 8 = .ok (.iload 4, 2) := by decide +kernel
theorem dX3_aim_10 : decode cX3_aim 10 = .ok (.bipush 24, 2) := by decide +kernel
theorem dX3_aim_12 : decode cX3_aim 12 = .ok (.if_icmp .ge 37, 3) := by decide +kernel
theorem dX3_aim_15 : decode cX3_aim 15 = .ok (.iload_n 1, 1) := by decide +kernel
theorem dX3_aim_16 : decode cX3_aim 16 = .ok (.iload_n 2, 1) := by decide +kernel
theorem dX3_aim_17 : decode cX3_aim 17 = .ok (.iload_n 3, 1) := by decide +kernel
theorem dX3_aim_18 : decode cX3_aim 18 = .ok (.iload 4, 2) := by decide +kernel
theorem dX3_aim_20 : decode cX3_aim 20 = .ok (.invokestatic 15, 3) := by decide +kernel
theorem dX3_aim_23 : decode cX3_aim 23 = .ok (.iload_n 1, 1) := by decide +kernel
theorem dX3_aim_24 : decode cX3_aim 24 = .ok (.iload_n 2, 1) := by decide +kernel
theorem dX3_aim_25 : decode cX3_aim 25 = .ok (.iload_n 3, 1) := by decide +kernel
theorem dX3_aim_26 : decode cX3_aim 26 = .ok (.aload_n 0, 1) := by decide +kernel
theorem dX3_aim_27 : decode cX3_aim 27 = .ok (.getfield 9, 3) := by decide +kernel
theorem dX3_aim_30 : decode cX3_aim 30 = .ok (.invokestatic 15, 3) := by decide +kernel
theorem dX3_aim_33 : decode cX3_aim 33 = .ok (.lcmp, 1) := by decide +kernel
theorem dX3_aim_34 : decode cX3_aim 34 = .ok (.ifCond .le 9, 3) := by decide +kernel
theorem dX3_aim_37 : decode cX3_aim 37 = .ok (.aload_n 0, 1) := by decide +kernel
theorem dX3_aim_38 : decode cX3_aim 38 = .ok (.iload 4, 2) := by decide +kernel
theorem dX3_aim_40 : decode cX3_aim 40 = .ok (.putfield 9, 3) := by decide +kernel
theorem dX3_aim_43 : decode cX3_aim 43 = .ok (.iinc 4 1, 3) := by decide +kernel
theorem dX3_aim_46 : decode cX3_aim 46 = .ok (.goto (-38), 3) := by decide +kernel
theorem dX3_aim_49 : decode cX3_aim 49 = .ok (.return_, 1) := by decide +kernel
theorem dX3_product_0 : decode cX3_product 0 = .ok (.iload_n 0, 1) := by decide +kernel
theorem dX3_product_1 : decode cX3_product 1 = .ok (.i2l, 1) := by decide +kernel
theorem dX3_product_2 : decode cX3_product 2 = .ok (.iload_n 2, 1) := by decide +kernel
theorem dX3_product_3 : decode cX3_product 3 = .ok (.i2l, 1) := by decide +kernel
theorem dX3_product_4 : decode cX3_product 4 = .ok (.lconst 0, 1) := by decide +kernel
theorem dX3_product_5 : decode cX3_product 5 = .ok (.iload_n 3, 1) := by decide +kernel
theorem dX3_product_6 : decode cX3_product 6 = .ok (.invokestatic 19, 3) := by decide +kernel
theorem dX3_product_9 : decode cX3_product 9 = .ok (.lmul, 1) := by decide +kernel
theorem dX3_product_10 : decode cX3_product 10 = .ok (.iload_n 1, 1) := by decide +kernel
theorem dX3_product_11 : decode cX3_product 11 = .ok (.i2l, 1) := by decide +kernel
theorem dX3_product_12 : decode cX3_product 12 = .ok (.iload_n 2, 1) := by decide +kernel
theorem dX3_product_13 : decode cX3_product 13 = .ok (.i2l, 1) := by decide +kernel
theorem dX3_product_14 : decode cX3_product 14 = .ok (.lconst 0, 1) := by decide +kernel
theorem dX3_product_15 : decode cX3_product 15 = .ok (.iload_n 3, 1) := by decide +kernel
theorem dX3_product_16 : decode cX3_product 16 = .ok (.invokestatic 25, 3) := by decide +kernel
theorem dX3_product_19 : decode cX3_product 19 = .ok (.lmul, 1) := by decide +kernel
theorem dX3_product_20 : decode cX3_product 20 = .ok (.ladd, 1) := by decide +kernel
theorem dX3_product_21 : decode cX3_product 21 = .ok (.lreturn, 1) := by decide +kernel
theorem dX3_practise_0 : decode cX3_practise 0 = .ok (.iconst 1, 1) := by decide +kernel
theorem dX3_practise_1 : decode cX3_practise 1 = .ok (.istore 5, 2) := by decide +kernel
theorem dX3_practise_3 : decode cX3_practise 3 = .ok (.iload 5, 2) := by decide +kernel
theorem dX3_practise_5 : decode cX3_practise 5 = .ok (.bipush 24, 2) := by decide +kernel
theorem dX3_practise_7 : decode cX3_practise 7 = .ok (.if_icmp .gt 74, 3) := by decide +kernel
theorem dX3_practise_10 : decode cX3_practise 10 = .ok (.aload_n 0, 1) := by decide +kernel
theorem dX3_practise_11 : decode cX3_practise 11 = .ok (.iload 5, 2) := by decide +kernel
theorem dX3_practise_13 : decode cX3_practise 13 = .ok (.putfield 28, 3) := by decide +kernel
theorem dX3_practise_16 : decode cX3_practise 16 = .ok (.aload_n 1, 1) := by decide +kernel
theorem dX3_practise_17 : decode cX3_practise 17 = .ok (.iload_n 2, 1) := by decide +kernel
theorem dX3_practise_18 : decode cX3_practise 18 = .ok (.aload_n 0, 1) := by decide +kernel
theorem dX3_practise_19 : decode cX3_practise 19 = .ok (.getfield 9, 3) := by decide +kernel
theorem dX3_practise_22 : decode cX3_practise 22 = .ok (.invokevirtual 31, 3) := by decide +kernel
theorem dX3_practise_25 : decode cX3_practise 25 = .ok (.aload_n 1, 1) := by decide +kernel
theorem dX3_practise_26 : decode cX3_practise 26 = .ok (.aload_n 3, 1) := by decide +kernel
theorem dX3_practise_27 : decode cX3_practise 27 = .ok (.iload 4, 2) := by decide +kernel
theorem dX3_practise_29 : decode cX3_practise 29 = .ok (.invokevirtual 37, 3) := by decide +kernel
theorem dX3_practise_32 : decode cX3_practise 32 = .ok (.bipush (-6), 2) := by decide +kernel
theorem dX3_practise_34 : decode cX3_practise 34 = .ok (.if_icmp .eq 5, 3) := by decide +kernel
theorem dX3_practise_37 : decode cX3_practise 37 = .ok (.iconst 1, 1) := by decide +kernel
theorem dX3_practise_38 : decode cX3_practise 38 = .ok (.ireturn, 1) := by decide +kernel
theorem dX3_practise_39 : decode cX3_practise 39 = .ok (.aload_n 1, 1) := by decide +kernel
theorem dX3_practise_40 : decode cX3_practise 40 = .ok (.aload_n 3, 1) := by decide +kernel
theorem dX3_practise_41 : decode cX3_practise 41 = .ok (.aload_n 1, 1) := by decide +kernel
theorem dX3_practise_42 : decode cX3_practise 42 = .ok (.aload_n 3, 1) := by decide +kernel
theorem dX3_practise_43 : decode cX3_practise 43 = .ok (.invokevirtual 41, 3) := by decide +kernel
theorem dX3_practise_46 : decode cX3_practise 46 = .ok (.invokevirtual 45, 3) := by decide +kernel
theorem dX3_practise_49 : decode cX3_practise 49 = .ok (.ifCond .eq 7, 3) := by decide +kernel
theorem dX3_practise_52 : decode cX3_practise 52 = .ok (.iconst 1, 1) := by decide +kernel
theorem dX3_practise_53 : decode cX3_practise 53 = .ok (.goto 4, 3) := by decide +kernel
theorem dX3_practise_56 : decode cX3_practise 56 = .ok (.iconst (-1), 1) := by decide +kernel
theorem dX3_practise_57 : decode cX3_practise 57 = .ok (.istore 6, 2) := by decide +kernel
theorem dX3_practise_59 : decode cX3_practise 59 = .ok (.aload_n 0, 1) := by decide +kernel
theorem dX3_practise_60 : decode cX3_practise 60 = .ok (.aload_n 0, 1) := by decide +kernel
theorem dX3_practise_61 : decode cX3_practise 61 = .ok (.getfield 9, 3) := by decide +kernel
theorem dX3_practise_64 : decode cX3_practise 64 = .ok (.iload 6, 2) := by decide +kernel
theorem dX3_practise_66 : decode cX3_practise 66 = .ok (.iadd, 1) := by decide +kernel
theorem dX3_practise_67 : decode cX3_practise 67 = .ok (.bipush 24, 2) := by decide +kernel
theorem dX3_practise_69 : decode cX3_practise 69 = .ok (.invokestatic 49, 3) := by decide +kernel
theorem dX3_practise_72 : decode cX3_practise 72 = .ok (.putfield 9, 3) := by decide +kernel
theorem dX3_practise_75 : decode cX3_practise 75 = .ok (.iinc 5 1, 3) := by decide +kernel
theorem dX3_practise_78 : decode cX3_practise 78 = .ok (.goto (-75), 3) := by decide +kernel
theorem dX3_practise_81 : decode cX3_practise 81 = .ok (.iconst 0, 1) := by decide +kernel
theorem dX3_practise_82 : decode cX3_practise 82 = .ok (.ireturn, 1) := by decide +kernel
theorem dX4_init_0 : decode cX4_init 0 = .ok (.aload_n 0, 1) := by decide +kernel
theorem dX4_init_1 : decode cX4_init 1 = .ok (.invokespecial 3, 3) := by decide +kernel
theorem dX4_init_4 : decode cX4_init 4 = .ok (.aload_n 0, 1) := by decide +kernel
theorem dX4_init_5 : decode cX4_init 5 = .ok (.bipush 40, 2) := by decide +kernel
theorem dX4_init_7 : decode cX4_init 7 = .ok (.newarray .int, 2) := by decide +kernel
theorem dX4_init_9 : decode cX4_init 9 = .ok (.putfield 11, 3) := by decide +kernel
theorem dX4_init_12 : decode cX4_init 12 = .ok (.return_, 1) := by decide +kernel
theorem dX4_add_0 : decode cX4_add 0 = .ok (.aload_n 0, 1) := by decide +kernel
theorem dX4_add_1 : decode cX4_add 1 = .ok (.getfield 15, 3) := by decide +kernel
theorem dX4_add_4 : decode cX4_add 4 = .ok (.bipush 40, 2) := by decide +kernel
theorem dX4_add_6 : decode cX4_add 6 = .ok (.if_icmp .lt 5, 3) := by decide +kernel
theorem dX4_add_9 : decode cX4_add 9 = .ok (.iconst 0, 1) := by decide +kernel
theorem dX4_add_10 : decode cX4_add 10 = .ok (.ireturn, 1) := by decide +kernel
theorem dX4_add_11 : decode cX4_add 11 = .ok (.aload_n 0, 1) := by decide +kernel
theorem dX4_add_12 : decode cX4_add 12 = .ok (.getfield 11, 3) := by decide +kernel
theorem dX4_add_15 : decode cX4_add 15 = .ok (.aload_n 0, 1) := by decide +kernel
theorem dX4_add_16 : decode cX4_add 16 = .ok (.getfield 15, 3) := by decide +kernel
theorem dX4_add_19 : decode cX4_add 19 = .ok (.iload_n 1, 1) := by decide +kernel
theorem dX4_add_20 : decode cX4_add 20 = .ok (.iastore, 1) := by decide +kernel
theorem dX4_add_21 : decode cX4_add 21 = .ok (.aload_n 0, 1) := by decide +kernel
theorem dX4_add_22 : decode cX4_add 22 = .ok (.dup, 1) := by decide +kernel
theorem dX4_add_23 : decode cX4_add 23 = .ok (.getfield 15, 3) := by decide +kernel
theorem dX4_add_26 : decode cX4_add 26 = .ok (.iconst 1, 1) := by decide +kernel
theorem dX4_add_27 : decode cX4_add 27 = .ok (.iadd, 1) := by decide +kernel
theorem dX4_add_28 : decode cX4_add 28 = .ok (.putfield 15, 3) := by decide +kernel
theorem dX4_add_31 : decode cX4_add 31 = .ok (.iconst 1, 1) := by decide +kernel
theorem dX4_add_32 : decode cX4_add 32 = .ok (.ireturn, 1) := by decide +kernel
theorem dX4_faultPlace_0 : decode cX4_faultPlace 0 = .ok (.iconst 0, 1) := by decide +kernel
theorem dX4_faultPlace_1 : decode cX4_faultPlace 1 = .ok (.istore_n 1, 1) := by decide +kernel
theorem dX4_faultPlace_2 : decode cX4_faultPlace 2 = .ok (.iconst 0, 1) := by decide +kernel
theorem dX4_faultPlace_3 : decode cX4_faultPlace 3 = .ok (.istore_n 2, 1) := by decide +kernel
theorem dX4_faultPlace_4 : decode cX4_faultPlace 4 = .ok (.iload_n 2, 1) := by decide +kernel
theorem dX4_faultPlace_5 : decode cX4_faultPlace 5 = .ok (.aload_n 0, 1) := by decide +kernel
theorem dX4_faultPlace_6 : decode cX4_faultPlace 6 = .ok (.getfield 15, 3) := by decide +kernel
theorem dX4_faultPlace_9 : decode cX4_faultPlace 9 = .ok (.if_icmp .ge 27, 3) := by decide +kernel
theorem dX4_faultPlace_12 : decode cX4_faultPlace 12 = .ok (.iload_n 1, 1) := by decide +kernel
theorem dX4_faultPlace_13 : decode cX4_faultPlace 13 = .ok (.aload_n 0, 1) := by decide +kernel
theorem dX4_faultPlace_14 : decode cX4_faultPlace 14 = .ok (.getfield 11, 3) := by decide +kernel
theorem dX4_faultPlace_17 : decode cX4_faultPlace 17 = .ok (.iload_n 2, 1) := by decide +kernel
theorem dX4_faultPlace_18 : decode cX4_faultPlace 18 = .ok (.iaload, 1) := by decide +kernel
theorem dX4_faultPlace_19 : decode cX4_faultPlace 19 = .ok (.invokestatic 19, 3) := by decide +kernel
theorem dX4_faultPlace_22 : decode cX4_faultPlace 22 = .ok (.istore_n 1, 1) := by decide +kernel
theorem dX4_faultPlace_23 : decode cX4_faultPlace 23 = .ok (.iload_n 1, 1) := by decide +kernel
theorem dX4_faultPlace_24 : decode cX4_faultPlace 24 = .ok (.iconst (-1), 1) := by decide +kernel
theorem dX4_faultPlace_25 : decode cX4_faultPlace 25 = .ok (.if_icmp .ne 5, 3) := by decide +kernel
theorem dX4_faultPlace_28 : decode cX4_faultPlace 28 = .ok (.iload_n 2, 1) := by decide +kernel
theorem dX4_faultPlace_29 : decode cX4_faultPlace 29 = .ok (.ireturn, 1) := by decide +kernel
theorem dX4_faultPlace_30 : decode cX4_faultPlace 30 = .ok (.iinc 2 1, 3) := by decide +kernel
theorem dX4_faultPlace_33 : decode cX4_faultPlace 33 = .ok (.goto (-29), 3) := by decide +kernel
theorem dX4_faultPlace_36 : decode cX4_faultPlace 36 = .ok (.iload_n 1, 1) := by decide +kernel
theorem dX4_faultPlace_37 : decode cX4_faultPlace 37 = .ok (.iconst 1, 1) := by decide +kernel
theorem dX4_faultPlace_38 : decode cX4_faultPlace 38 = .ok (.if_icmp .eq 8, 3) := by decide +kernel
theorem dX4_faultPlace_41 : decode cX4_faultPlace 41 = .ok (.iload_n 1, 1) := by decide +kernel
theorem dX4_faultPlace_42 : decode cX4_faultPlace 42 = .ok (.iconst 2, 1) := by decide +kernel
theorem dX4_faultPlace_43 : decode cX4_faultPlace 43 = .ok (.if_icmp .ne 10, 3) := by decide +kernel
theorem dX4_faultPlace_46 : decode cX4_faultPlace 46 = .ok (.aload_n 0, 1) := by decide +kernel
theorem dX4_faultPlace_47 : decode cX4_faultPlace 47 = .ok (.getfield 15, 3) := by decide +kernel
theorem dX4_faultPlace_50 : decode cX4_faultPlace 50 = .ok (.goto 5, 3) := by decide +kernel
theorem dX4_faultPlace_53 : decode cX4_faultPlace 53 = .ok (.bipush (-6), 2) := by decide +kernel
theorem dX4_faultPlace_55 : decode cX4_faultPlace 55 = .ok (.ireturn, 1) := by decide +kernel
theorem dX4_behind_0 : decode cX4_behind 0 = .ok (.iload_n 1, 1) := by decide +kernel
theorem dX4_behind_1 : decode cX4_behind 1 = .ok (.invokestatic 23, 3) := by decide +kernel
theorem dX4_behind_4 : decode cX4_behind 4 = .ok (.istore_n 2, 1) := by decide +kernel
theorem dX4_behind_5 : decode cX4_behind 5 = .ok (.iload_n 0, 1) := by decide +kernel
theorem dX4_behind_6 : decode cX4_behind 6 = .ok (.iconst 1, 1) := by decide +kernel
theorem dX4_behind_7 : decode cX4_behind 7 = .ok (.if_icmp .ne 19, 3) := by decide +kernel
theorem dX4_behind_10 : decode cX4_behind 10 = .ok (.iload_n 2, 1) := by decide +kernel
theorem dX4_behind_11 : decode cX4_behind 11 = .ok (.ifCond .eq 13, 3) := by decide +kernel
theorem dX4_behind_14 : decode cX4_behind 14 = .ok (.iload_n 1, 1) := by decide +kernel
theorem dX4_behind_15 : decode cX4_behind 15 = .ok (.bipush 48, 2) := by decide +kernel
theorem dX4_behind_17 : decode cX4_behind 17 = .ok (.if_icmp .eq 7, 3) := by decide +kernel
theorem dX4_behind_20 : decode cX4_behind 20 = .ok (.iconst 0, 1) := by decide +kernel
theorem dX4_behind_21 : decode cX4_behind 21 = .ok (.goto 4, 3) := by decide +kernel
theorem dX4_behind_24 : decode cX4_behind 24 = .ok (.iconst (-1), 1) := by decide +kernel
theorem dX4_behind_25 : decode cX4_behind 25 = .ok (.ireturn, 1) := by decide +kernel
theorem dX4_behind_26 : decode cX4_behind 26 = .ok (.iload_n 0, 1) := by decide +kernel
theorem dX4_behind_27 : decode cX4_behind 27 = .ok (.iconst 2, 1) := by decide +kernel
theorem dX4_behind_28 : decode cX4_behind 28 = .ok (.if_icmp .ne 13, 3) := by decide +kernel
theorem dX4_behind_31 : decode cX4_behind 31 = .ok (.iload_n 2, 1) := by decide +kernel
theorem dX4_behind_32 : decode cX4_behind 32 = .ok (.ifCond .eq 7, 3) := by decide +kernel
theorem dX4_behind_35 : decode cX4_behind 35 = .ok (.iconst 3, 1) := by decide +kernel
theorem dX4_behind_36 : decode cX4_behind 36 = .ok (.goto 4, 3) := by decide +kernel
theorem dX4_behind_39 : decode cX4_behind 39 = .ok (.iconst (-1), 1) := by decide +kernel
theorem dX4_behind_40 : decode cX4_behind 40 = .ok (.ireturn, 1) := by decide +kernel
theorem dX4_behind_41 : decode cX4_behind 41 = .ok (.iload_n 0, 1) := by decide +kernel
theorem dX4_behind_42 : decode cX4_behind 42 = .ok (.iconst 3, 1) := by decide +kernel
theorem dX4_behind_43 : decode cX4_behind 43 = .ok (.if_icmp .ne 9, 3) := by decide +kernel
theorem dX4_behind_46 : decode cX4_behind 46 = .ok (.iload_n 2, 1) := by decide +kernel
theorem dX4_behind_47 : decode cX4_behind 47 = .ok (.ifCond .eq 5, 3) := by decide +kernel
theorem dX4_behind_50 : decode cX4_behind 50 = .ok (.iconst 0, 1) := by decide +kernel
theorem dX4_behind_51 : decode cX4_behind 51 = .ok (.ireturn, 1) := by decide +kernel
theorem dX4_behind_52 : decode cX4_behind 52 = .ok (.iload_n 1, 1) := by decide +kernel
theorem dX4_behind_53 : decode cX4_behind 53 = .ok (.bipush 46, 2) := by decide +kernel
theorem dX4_behind_55 : decode cX4_behind 55 = .ok (.if_icmp .ne 5, 3) := by decide +kernel
theorem dX4_behind_58 : decode cX4_behind 58 = .ok (.iconst 1, 1) := by decide +kernel
theorem dX4_behind_59 : decode cX4_behind 59 = .ok (.ireturn, 1) := by decide +kernel
theorem dX4_behind_60 : decode cX4_behind 60 = .ok (.iload_n 1, 1) := by decide +kernel
theorem dX4_behind_61 : decode cX4_behind 61 = .ok (.bipush 43, 2) := by decide +kernel
theorem dX4_behind_63 : decode cX4_behind 63 = .ok (.if_icmp .eq 9, 3) := by decide +kernel
theorem dX4_behind_66 : decode cX4_behind 66 = .ok (.iload_n 1, 1) := by decide +kernel
theorem dX4_behind_67 : decode cX4_behind 67 = .ok (.bipush 45, 2) := by decide +kernel
theorem dX4_behind_69 : decode cX4_behind 69 = .ok (.if_icmp .ne 7, 3) := by decide +kernel
theorem dX4_behind_72 : decode cX4_behind 72 = .ok (.iconst 2, 1) := by decide +kernel
theorem dX4_behind_73 : decode cX4_behind 73 = .ok (.goto 4, 3) := by decide +kernel
theorem dX4_behind_76 : decode cX4_behind 76 = .ok (.iconst (-1), 1) := by decide +kernel
theorem dX4_behind_77 : decode cX4_behind 77 = .ok (.ireturn, 1) := by decide +kernel
theorem dX4_isDigit_0 : decode cX4_isDigit 0 = .ok (.iload_n 0, 1) := by decide +kernel
theorem dX4_isDigit_1 : decode cX4_isDigit 1 = .ok (.bipush 48, 2) := by decide +kernel
theorem dX4_isDigit_3 : decode cX4_isDigit 3 = .ok (.if_icmp .lt 13, 3) := by decide +kernel
theorem dX4_isDigit_6 : decode cX4_isDigit 6 = .ok (.iload_n 0, 1) := by decide +kernel
theorem dX4_isDigit_7 : decode cX4_isDigit 7 = .ok (.bipush 57, 2) := by decide +kernel
theorem dX4_isDigit_9 : decode cX4_isDigit 9 = .ok (.if_icmp .gt 7, 3) := by decide +kernel
theorem dX4_isDigit_12 : decode cX4_isDigit 12 = .ok (.iconst 1, 1) := by decide +kernel
theorem dX4_isDigit_13 : decode cX4_isDigit 13 = .ok (.goto 4, 3) := by decide +kernel
theorem dX4_isDigit_16 : decode cX4_isDigit 16 = .ok (.iconst 0, 1) := by decide +kernel
theorem dX4_isDigit_17 : decode cX4_isDigit 17 = .ok (.ireturn, 1) := by decide +kernel
theorem dX5_init_0 : decode cX5_init 0 = .ok (.aload_n 0, 1) := by decide +kernel
theorem dX5_init_1 : decode cX5_init 1 = .ok (.invokespecial 3, 3) := by decide +kernel
theorem dX5_init_4 : decode cX5_init 4 = .ok (.aload_n 0, 1) := by decide +kernel
theorem dX5_init_5 : decode cX5_init 5 = .ok (.bipush 61, 2) := by decide +kernel
theorem dX5_init_7 : decode cX5_init 7 = .ok (.newarray .int, 2) := by decide +kernel
theorem dX5_init_9 : decode cX5_init 9 = .ok (.putfield 9, 3) := by decide +kernel
theorem dX5_init_12 : decode cX5_init 12 = .ok (.aload_n 0, 1) := by decide +kernel
theorem dX5_init_13 : decode cX5_init 13 = .ok (.bipush 61, 2) := by decide +kernel
theorem dX5_init_15 : decode cX5_init 15 = .ok (.newarray .int, 2) := by decide +kernel
theorem dX5_init_17 : decode cX5_init 17 = .ok (.putfield 15, 3) := by decide +kernel
theorem dX5_init_20 : decode cX5_init 20 = .ok (.return_, 1) := by decide +kernel
theorem dX5_run_0 : decode cX5_run 0 = .ok (.aload_n 0, 1) := by decide +kernel
theorem dX5_run_1 : decode cX5_run 1 = .ok (.getfield 9, 3) := by decide +kernel
theorem dX5_run_4 : decode cX5_run 4 = .ok (.iconst 0, 1) := by decide +kernel
theorem dX5_run_5 : decode cX5_run 5 = .ok (.iconst 0, 1) := by decide +kernel
theorem dX5_run_6 : decode cX5_run 6 = .ok (.iastore, 1) := by decide +kernel
theorem dX5_run_7 : decode cX5_run 7 = .ok (.aload_n 0, 1) := by decide +kernel
theorem dX5_run_8 : decode cX5_run 8 = .ok (.getfield 15, 3) := by decide +kernel
theorem dX5_run_11 : decode cX5_run 11 = .ok (.iconst 0, 1) := by decide +kernel
theorem dX5_run_12 : decode cX5_run 12 = .ok (.iload_n 2, 1) := by decide +kernel
theorem dX5_run_13 : decode cX5_run 13 = .ok (.iastore, 1) := by decide +kernel
theorem dX5_run_14 : decode cX5_run 14 = .ok (.iconst 0, 1) := by decide +kernel
theorem dX5_run_15 : decode cX5_run 15 = .ok (.istore_n 3, 1) := by decide +kernel
theorem dX5_run_16 : decode cX5_run 16 = .ok (.iload_n 3, 1) := by decide +kernel
theorem dX5_run_17 : decode cX5_run 17 = .ok (.bipush 60, 2) := by decide +kernel
theorem dX5_run_19 : decode cX5_run 19 = .ok (.if_icmp .ge 65, 3) := by decide +kernel
theorem dX5_run_22 : decode cX5_run 22 = .ok (.aload_n 1, 1) := by decide +kernel
theorem dX5_run_23 : decode cX5_run 23 = .ok (.getfield 18, 3) := by decide +kernel
theorem dX5_run_26 : decode cX5_run 26 = .ok (.iload_n 3, 1) := by decide +kernel
theorem dX5_run_27 : decode cX5_run 27 = .ok (.aload_n 0, 1) := by decide +kernel
theorem dX5_run_28 : decode cX5_run 28 = .ok (.getfield 15, 3) := by decide +kernel
theorem dX5_run_31 : decode cX5_run 31 = .ok (.iload_n 3, 1) := by decide +kernel
theorem dX5_run_32 : decode cX5_run 32 = .ok (.iaload, 1) := by decide +kernel
theorem dX5_run_33 : decode cX5_run 33 = .ok (.invokevirtual 24, 3) := by decide +kernel
theorem dX5_run_36 : decode cX5_run 36 = .ok (.istore 4, 2) := by decide +kernel
theorem dX5_run_38 : decode cX5_run 38 = .ok (.aload_n 0, 1) := by decide +kernel
theorem dX5_run_39 : decode cX5_run 39 = .ok (.getfield 9, 3) := by decide +kernel
theorem dX5_run_42 : decode cX5_run 42 = .ok (.iload_n 3, 1) := by decide +kernel
theorem dX5_run_43 : decode cX5_run 43 = .ok (.iconst 1, 1) := by decide +kernel
theorem dX5_run_44 : decode cX5_run 44 = .ok (.iadd, 1) := by decide +kernel
theorem dX5_run_45 : decode cX5_run 45 = .ok (.aload_n 0, 1) := by decide +kernel
theorem dX5_run_46 : decode cX5_run 46 = .ok (.getfield 9, 3) := by decide +kernel
theorem dX5_run_49 : decode cX5_run 49 = .ok (.iload_n 3, 1) := by decide +kernel
theorem dX5_run_50 : decode cX5_run 50 = .ok (.iaload, 1) := by decide +kernel
theorem dX5_run_51 : decode cX5_run 51 = .ok (.iload 4, 2) := by decide +kernel
theorem dX5_run_53 : decode cX5_run 53 = .ok (.iadd, 1) := by decide +kernel
theorem dX5_run_54 : decode cX5_run 54 = .ok (.sipush 240, 3) := by decide +kernel
theorem dX5_run_57 : decode cX5_run 57 = .ok (.invokestatic 30, 3) := by decide +kernel
theorem dX5_run_60 : decode cX5_run 60 = .ok (.iastore, 1) := by decide +kernel
theorem dX5_run_61 : decode cX5_run 61 = .ok (.aload_n 0, 1) := by decide +kernel
theorem dX5_run_62 : decode cX5_run 62 = .ok (.getfield 15, 3) := by decide +kernel
theorem dX5_run_65 : decode cX5_run 65 = .ok (.iload_n 3, 1) := by decide +kernel
theorem dX5_run_66 : decode cX5_run 66 = .ok (.iconst 1, 1) := by decide +kernel
theorem dX5_run_67 : decode cX5_run 67 = .ok (.iadd, 1) := by decide +kernel
theorem dX5_run_68 : decode cX5_run 68 = .ok (.iload 4, 2) := by decide +kernel
theorem dX5_run_70 : decode cX5_run 70 = .ok (.aload_n 1, 1) := by decide +kernel
theorem dX5_run_71 : decode cX5_run 71 = .ok (.invokevirtual 35, 3) := by decide +kernel
theorem dX5_run_74 : decode cX5_run 74 = .ok (.invokestatic 39, 3) := by decide +kernel
theorem dX5_run_77 : decode cX5_run 77 = .ok (.iastore, 1) := by decide +kernel
theorem dX5_run_78 : decode cX5_run 78 = .ok (.iinc 3 1, 3) := by decide +kernel
theorem dX5_run_81 : decode cX5_run 81 = .ok (.goto (-65), 3) := by decide +kernel
theorem dX5_run_84 : decode cX5_run 84 = .ok (.return_, 1) := by decide +kernel
theorem dX5_nearerToZero_0 : decode cX5_nearerToZero 0 = .ok (.iload_n 0, 1) := by decide +kernel
theorem dX5_nearerToZero_1 : decode cX5_nearerToZero 1 = .ok (.ifCond .le 13, 3) := by decide +kernel
theorem dX5_nearerToZero_4 : decode cX5_nearerToZero 4 = .ok (.iconst 0, 1) := by decide +kernel
theorem dX5_nearerToZero_5 : decode cX5_nearerToZero 5 = .ok (.iload_n 0, 1) := by decide +kernel
theorem dX5_nearerToZero_6 : decode cX5_nearerToZero 6 = .ok (.iload_n 1, 1) := by decide +kernel
theorem dX5_nearerToZero_7 : decode cX5_nearerToZero 7 = .ok (.isub, 1) := by decide +kernel
theorem dX5_nearerToZero_8 : decode cX5_nearerToZero 8 = .ok (.invokestatic 42, 3) := by decide +kernel
theorem dX5_nearerToZero_11 : decode cX5_nearerToZero 11 = .ok (.goto 10, 3) := by decide +kernel
theorem dX5_nearerToZero_14 : decode cX5_nearerToZero 14 = .ok (.iconst 0, 1) := by decide +kernel
theorem dX5_nearerToZero_15 : decode cX5_nearerToZero 15 = .ok (.iload_n 0, 1) := by decide +kernel
theorem dX5_nearerToZero_16 : decode cX5_nearerToZero 16 = .ok (.iload_n 1, 1) := by decide +kernel
theorem dX5_nearerToZero_17 : decode cX5_nearerToZero 17 = .ok (.iadd, 1) := by decide +kernel
theorem dX5_nearerToZero_18 : decode cX5_nearerToZero 18 = .ok (.invokestatic 45, 3) := by decide +kernel
theorem dX5_nearerToZero_21 : decode cX5_nearerToZero 21 = .ok (.ireturn, 1) := by decide +kernel
theorem dX5_wayOf_0 : decode cX5_wayOf 0 = .ok (.iload_n 0, 1) := by decide +kernel
theorem dX5_wayOf_1 : decode cX5_wayOf 1 = .ok (.sipush 240, 3) := by decide +kernel
theorem dX5_wayOf_4 : decode cX5_wayOf 4 = .ok (.invokestatic 30, 3) := by decide +kernel
theorem dX5_wayOf_7 : decode cX5_wayOf 7 = .ok (.bipush 10, 2) := by decide +kernel
theorem dX5_wayOf_9 : decode cX5_wayOf 9 = .ok (.idiv, 1) := by decide +kernel
theorem dX5_wayOf_10 : decode cX5_wayOf 10 = .ok (.ireturn, 1) := by decide +kernel
theorem dX5_wayBehind_0 : decode cX5_wayBehind 0 = .ok (.aload_n 0, 1) := by decide +kernel
theorem dX5_wayBehind_1 : decode cX5_wayBehind 1 = .ok (.getfield 9, 3) := by decide +kernel
theorem dX5_wayBehind_4 : decode cX5_wayBehind 4 = .ok (.iload_n 1, 1) := by decide +kernel
theorem dX5_wayBehind_5 : decode cX5_wayBehind 5 = .ok (.iaload, 1) := by decide +kernel
theorem dX5_wayBehind_6 : decode cX5_wayBehind 6 = .ok (.invokestatic 48, 3) := by decide +kernel
theorem dX5_wayBehind_9 : decode cX5_wayBehind 9 = .ok (.ireturn, 1) := by decide +kernel
theorem dX5_wayBack_0 : decode cX5_wayBack 0 = .ok (.bipush 24, 2) := by decide +kernel
theorem dX5_wayBack_2 : decode cX5_wayBack 2 = .ok (.aload_n 0, 1) := by decide +kernel
theorem dX5_wayBack_3 : decode cX5_wayBack 3 = .ok (.iload_n 1, 1) := by decide +kernel
theorem dX5_wayBack_4 : decode cX5_wayBack 4 = .ok (.invokevirtual 52, 3) := by decide +kernel
theorem dX5_wayBack_7 : decode cX5_wayBack 7 = .ok (.isub, 1) := by decide +kernel
theorem dX5_wayBack_8 : decode cX5_wayBack 8 = .ok (.bipush 24, 2) := by decide +kernel
theorem dX5_wayBack_10 : decode cX5_wayBack 10 = .ok (.irem, 1) := by decide +kernel
theorem dX5_wayBack_11 : decode cX5_wayBack 11 = .ok (.ireturn, 1) := by decide +kernel
theorem dX6_init_0 : decode cX6_init 0 = .ok (.aload_n 0, 1) := by decide +kernel
theorem dX6_init_1 : decode cX6_init 1 = .ok (.invokespecial 5, 3) := by decide +kernel
theorem dX6_init_4 : decode cX6_init 4 = .ok (.aload_n 0, 1) := by decide +kernel
theorem dX6_init_5 : decode cX6_init 5 = .ok (.bipush 20, 2) := by decide +kernel
theorem dX6_init_7 : decode cX6_init 7 = .ok (.newarray .int, 2) := by decide +kernel
theorem dX6_init_9 : decode cX6_init 9 = .ok (.putfield 13, 3) := by decide +kernel
theorem dX6_init_12 : decode cX6_init 12 = .ok (.aload_n 0, 1) := by decide +kernel
theorem dX6_init_13 : decode cX6_init 13 = .ok (.bipush 20, 2) := by decide +kernel
theorem dX6_init_15 : decode cX6_init 15 = .ok (.newarray .int, 2) := by decide +kernel
theorem dX6_init_17 : decode cX6_init 17 = .ok (.putfield 17, 3) := by decide +kernel
theorem dX6_init_20 : decode cX6_init 20 = .ok (.return_, 1) := by decide +kernel
theorem dX6_read_0 : decode cX6_read 0 = .ok (.aload_n 0, 1) := by decide +kernel
theorem dX6_read_1 : decode cX6_read 1 = .ok (.iconst 0, 1) := by decide +kernel
theorem dX6_read_2 : decode cX6_read 2 = .ok (.putfield 20, 3) := by decide +kernel
theorem dX6_read_5 : decode cX6_read 5 = .ok (.aload_n 0, 1) := by decide +kernel
theorem dX6_read_6 : decode cX6_read 6 = .ok (.iconst 0, 1) := by decide +kernel
theorem dX6_read_7 : decode cX6_read 7 = .ok (.putfield 24, 3) := by decide +kernel
theorem dX6_read_10 : decode cX6_read 10 = .ok (.iconst 0, 1) := by decide +kernel
theorem dX6_read_11 : decode cX6_read 11 = .ok (.istore_n 2, 1) := by decide +kernel
theorem dX6_read_12 : decode cX6_read 12 = .ok (.iconst 0, 1) := by decide +kernel
theorem dX6_read_13 : decode cX6_read 13 = .ok (.istore_n 3, 1) := by decide +kernel
theorem dX6_read_14 : decode cX6_read 14 = .ok (.iload_n 3, 1) := by decide +kernel
theorem dX6_read_15 : decode cX6_read 15 = .ok (.aload_n 1, 1) := by decide +kernel
theorem dX6_read_16 : decode cX6_read 16 = .ok (.getfield 27, 3) := by decide +kernel
theorem dX6_read_19 : decode cX6_read 19 = .ok (.if_icmp .ge 113, 3) := by decide +kernel
theorem dX6_read_22 : decode cX6_read 22 = .ok (.aload_n 1, 1) := by decide +kernel
theorem dX6_read_23 : decode cX6_read 23 = .ok (.getfield 30, 3) := by decide +kernel
theorem dX6_read_26 : decode cX6_read 26 = .ok (.iload_n 3, 1) := by decide +kernel
theorem dX6_read_27 : decode cX6_read 27 = .ok (.iaload, 1) := by decide +kernel
theorem dX6_read_28 : decode cX6_read 28 = .ok (.istore 4, 2) := by decide +kernel
theorem dX6_read_30 : decode cX6_read 30 = .ok (.iload 4, 2) := by decide +kernel
theorem dX6_read_32 : decode cX6_read 32 = .ok (.invokestatic 33, 3) := by decide +kernel
theorem dX6_read_35 : decode cX6_read 35 = .ok (.ifCond .eq 6, 3) := by decide +kernel
theorem dX6_read_38 : decode cX6_read 38 = .ok (.goto 88, 3) := by decide +kernel
theorem dX6_read_41 : decode cX6_read 41 = .ok (.aload_n 0, 1) := by decide +kernel
theorem dX6_read_42 : decode cX6_read 42 = .ok (.dup, 1) := by decide +kernel
theorem dX6_read_43 : decode cX6_read 43 = .ok (.getfield 24, 3) := by decide +kernel
theorem dX6_read_46 : decode cX6_read 46 = .ok (.iconst 1, 1) := by decide +kernel
theorem dX6_read_47 : decode cX6_read 47 = .ok (.iadd, 1) := by decide +kernel
theorem dX6_read_48 : decode cX6_read 48 = .ok (.putfield 24, 3) := by decide +kernel
theorem dX6_read_51 : decode cX6_read 51 = .ok (.aload_n 1, 1) := by decide +kernel
theorem dX6_read_52 : decode cX6_read 52 = .ok (.iload_n 3, 1) := by decide +kernel
theorem dX6_read_53 : decode cX6_read 53 = .ok (.invokestatic 37, 3) := by decide +kernel
theorem dX6_read_56 : decode cX6_read 56 = .ok (.istore 5, 2) := by decide +kernel
theorem dX6_read_58 : decode cX6_read 58 = .ok (.iload 4, 2) := by decide +kernel
theorem dX6_read_60 : decode cX6_read 60 = .ok (.bipush 46, 2) := by decide +kernel
theorem dX6_read_62 : decode cX6_read 62 = .ok (.if_icmp .ne 11, 3) := by decide +kernel
theorem dX6_read_65 : decode cX6_read 65 = .ok (.iload_n 2, 1) := by decide +kernel
theorem dX6_read_66 : decode cX6_read 66 = .ok (.iload 5, 2) := by decide +kernel
theorem dX6_read_68 : decode cX6_read 68 = .ok (.iadd, 1) := by decide +kernel
theorem dX6_read_69 : decode cX6_read 69 = .ok (.istore_n 2, 1) := by decide +kernel
theorem dX6_read_70 : decode cX6_read 70 = .ok (.goto 56, 3) := by decide +kernel
theorem dX6_read_73 : decode cX6_read 73 = .ok (.aload_n 0, 1) := by decide +kernel
theorem dX6_read_74 : decode cX6_read 74 = .ok (.getfield 20, 3) := by decide +kernel
theorem dX6_read_77 : decode cX6_read 77 = .ok (.bipush 20, 2) := by decide +kernel
theorem dX6_read_79 : decode cX6_read 79 = .ok (.if_icmp .ge 47, 3) := by decide +kernel
theorem dX6_read_82 : decode cX6_read 82 = .ok (.aload_n 0, 1) := by decide +kernel
theorem dX6_read_83 : decode cX6_read 83 = .ok (.getfield 13, 3) := by decide +kernel
theorem dX6_read_86 : decode cX6_read 86 = .ok (.aload_n 0, 1) := by decide +kernel
theorem dX6_read_87 : decode cX6_read 87 = .ok (.getfield 20, 3) := by decide +kernel
theorem dX6_read_90 : decode cX6_read 90 = .ok (.iload_n 2, 1) := by decide +kernel
theorem dX6_read_91 : decode cX6_read 91 = .ok (.iastore, 1) := by decide +kernel
theorem dX6_read_92 : decode cX6_read 92 = .ok (.aload_n 0, 1) := by decide +kernel
theorem dX6_read_93 : decode cX6_read 93 = .ok (.getfield 17, 3) := by decide +kernel
theorem dX6_read_96 : decode cX6_read 96 = .ok (.aload_n 0, 1) := by decide +kernel
theorem dX6_read_97 : decode cX6_read 97 = .ok (.getfield 20, 3) := by decide +kernel
theorem dX6_read_100 : decode cX6_read 100 = .ok (.iload 4, 2) := by decide +kernel
theorem dX6_read_102 : decode cX6_read 102 = .ok (.bipush 43, 2) := by decide +kernel
theorem dX6_read_104 : decode cX6_read 104 = .ok (.if_icmp .ne 8, 3) := by decide +kernel
theorem dX6_read_107 : decode cX6_read 107 = .ok (.iload 5, 2) := by decide +kernel
theorem dX6_read_109 : decode cX6_read 109 = .ok (.goto 6, 3) := by decide +kernel
theorem dX6_read_112 : decode cX6_read 112 = .ok (.iload 5, 2) := by decide +kernel
theorem dX6_read_114 : decode cX6_read 114 = .ok (.ineg, 1) := by decide +kernel
theorem dX6_read_115 : decode cX6_read 115 = .ok (.iastore, 1) := by decide +kernel
theorem dX6_read_116 : decode cX6_read 116 = .ok (.aload_n 0, 1) := by decide +kernel
theorem dX6_read_117 : decode cX6_read 117 = .ok (.dup, 1) := by decide +kernel
theorem dX6_read_118 : decode cX6_read 118 = .ok (.getfield 20, 3) := by decide +kernel
theorem dX6_read_121 : decode cX6_read 121 = .ok (.iconst 1, 1) := by decide +kernel
theorem dX6_read_122 : decode cX6_read 122 = .ok (.iadd, 1) := by decide +kernel
theorem dX6_read_123 : decode cX6_read 123 = .ok (.putfield 20, 3) := by decide +kernel
theorem dX6_read_126 : decode cX6_read 126 = .ok (.iinc 3 1, 3) := by decide +kernel
theorem dX6_read_129 : decode cX6_read 129 = .ok (.goto (-115), 3) := by decide +kernel
theorem dX6_read_132 : decode cX6_read 132 = .ok (.return_, 1) := by decide +kernel
theorem dX6_numberBehind_0 : decode cX6_numberBehind 0 = .ok (.iconst 0, 1) := by decide +kernel
theorem dX6_numberBehind_1 : decode cX6_numberBehind 1 = .ok (.istore_n 2, 1) := by decide +kernel
theorem dX6_numberBehind_2 : decode cX6_numberBehind 2 = .ok (.iload_n 1, 1) := by decide +kernel
theorem dX6_numberBehind_3 : decode cX6_numberBehind 3 = .ok (.iconst 1, 1) := by decide +kernel
theorem dX6_numberBehind_4 : decode cX6_numberBehind 4 = .ok (.iadd, 1) := by decide +kernel
theorem dX6_numberBehind_5 : decode cX6_numberBehind 5 = .ok (.istore_n 3, 1) := by decide +kernel
theorem dX6_numberBehind_6 : decode cX6_numberBehind 6 = .ok (.iload_n 3, 1) := by decide +kernel
theorem dX6_numberBehind_7 : decode cX6_numberBehind 7 = .ok (.aload_n 0, 1) := by decide +kernel
theorem dX6_numberBehind_8 : decode cX6_numberBehind 8 = .ok (.getfield 27, 3) := by decide +kernel
theorem dX6_numberBehind_11 : decode cX6_numberBehind 11 = .ok (.if_icmp .ge 36, 3) := by decide +kernel
theorem dX6_numberBehind_14 : decode cX6_numberBehind 14 = .ok (.aload_n 0, 1) := by decide +kernel
theorem dX6_numberBehind_15 : decode cX6_numberBehind 15 = .ok (.getfield 30, 3) := by decide +kernel
theorem dX6_numberBehind_18 : decode cX6_numberBehind 18 = .ok (.iload_n 3, 1) := by decide +kernel
theorem dX6_numberBehind_19 : decode cX6_numberBehind 19 = .ok (.iaload, 1) := by decide +kernel
theorem dX6_numberBehind_20 : decode cX6_numberBehind 20 = .ok (.invokestatic 33, 3) := by decide +kernel
theorem dX6_numberBehind_23 : decode cX6_numberBehind 23 = .ok (.ifCond .eq 24, 3) := by decide +kernel
theorem dX6_numberBehind_26 : decode cX6_numberBehind 26 = .ok (.iload_n 2, 1) := by decide +kernel
theorem dX6_numberBehind_27 : decode cX6_numberBehind 27 = .ok (.bipush 10, 2) := by decide +kernel
theorem dX6_numberBehind_29 : decode cX6_numberBehind 29 = .ok (.imul, 1) := by decide +kernel
theorem dX6_numberBehind_30 : decode cX6_numberBehind 30 = .ok (.aload_n 0, 1) := by decide +kernel
theorem dX6_numberBehind_31 : decode cX6_numberBehind 31 = .ok (.getfield 30, 3) := by decide +kernel
theorem dX6_numberBehind_34 : decode cX6_numberBehind 34 = .ok (.iload_n 3, 1) := by decide +kernel
theorem dX6_numberBehind_35 : decode cX6_numberBehind 35 = .ok (.iaload, 1) := by decide +kernel
theorem dX6_numberBehind_36 : decode cX6_numberBehind 36 = .ok (.iadd, 1) := by decide +kernel
theorem dX6_numberBehind_37 : decode cX6_numberBehind 37 = .ok (.bipush 48, 2) := by decide +kernel
theorem dX6_numberBehind_39 : decode cX6_numberBehind 39 = .ok (.isub, 1) := by decide +kernel
theorem dX6_numberBehind_40 : decode cX6_numberBehind 40 = .ok (.istore_n 2, 1) := by decide +kernel
theorem dX6_numberBehind_41 : decode cX6_numberBehind 41 = .ok (.iinc 3 1, 3) := by decide +kernel
theorem dX6_numberBehind_44 : decode cX6_numberBehind 44 = .ok (.goto (-38), 3) := by decide +kernel
theorem dX6_numberBehind_47 : decode cX6_numberBehind 47 = .ok (.iload_n 2, 1) := by decide +kernel
theorem dX6_numberBehind_48 : decode cX6_numberBehind 48 = .ok (.ireturn, 1) := by decide +kernel
theorem dX6_paceAt_0 : decode cX6_paceAt 0 = .ok (.iload_n 2, 1) := by decide +kernel
theorem dX6_paceAt_1 : decode cX6_paceAt 1 = .ok (.istore_n 3, 1) := by decide +kernel
theorem dX6_paceAt_2 : decode cX6_paceAt 2 = .ok (.iconst 0, 1) := by decide +kernel
theorem dX6_paceAt_3 : decode cX6_paceAt 3 = .ok (.istore 4, 2) := by decide +kernel
theorem dX6_paceAt_5 : decode cX6_paceAt 5 = .ok (.iload 4, 2) := by decide +kernel
theorem dX6_paceAt_7 : decode cX6_paceAt 7 = .ok (.aload_n 0, 1) := by decide +kernel
theorem dX6_paceAt_8 : decode cX6_paceAt 8 = .ok (.getfield 20, 3) := by decide +kernel
theorem dX6_paceAt_11 : decode cX6_paceAt 11 = .ok (.if_icmp .ge 40, 3) := by decide +kernel
theorem dX6_paceAt_14 : decode cX6_paceAt 14 = .ok (.aload_n 0, 1) := by decide +kernel
theorem dX6_paceAt_15 : decode cX6_paceAt 15 = .ok (.getfield 13, 3) := by decide +kernel
theorem dX6_paceAt_18 : decode cX6_paceAt 18 = .ok (.iload 4, 2) := by decide +kernel
theorem dX6_paceAt_20 : decode cX6_paceAt 20 = .ok (.iaload, 1) := by decide +kernel
theorem dX6_paceAt_21 : decode cX6_paceAt 21 = .ok (.iload_n 1, 1) := by decide +kernel
theorem dX6_paceAt_22 : decode cX6_paceAt 22 = .ok (.if_icmp .ne 23, 3) := by decide +kernel
theorem dX6_paceAt_25 : decode cX6_paceAt 25 = .ok (.bipush (-99), 2) := by decide +kernel
theorem dX6_paceAt_27 : decode cX6_paceAt 27 = .ok (.bipush 99, 2) := by decide +kernel
theorem dX6_paceAt_29 : decode cX6_paceAt 29 = .ok (.iload_n 3, 1) := by decide +kernel
theorem dX6_paceAt_30 : decode cX6_paceAt 30 = .ok (.aload_n 0, 1) := by decide +kernel
theorem dX6_paceAt_31 : decode cX6_paceAt 31 = .ok (.getfield 17, 3) := by decide +kernel
theorem dX6_paceAt_34 : decode cX6_paceAt 34 = .ok (.iload 4, 2) := by decide +kernel
theorem dX6_paceAt_36 : decode cX6_paceAt 36 = .ok (.iaload, 1) := by decide +kernel
theorem dX6_paceAt_37 : decode cX6_paceAt 37 = .ok (.iadd, 1) := by decide +kernel
theorem dX6_paceAt_38 : decode cX6_paceAt 38 = .ok (.invokestatic 41, 3) := by decide +kernel
theorem dX6_paceAt_41 : decode cX6_paceAt 41 = .ok (.invokestatic 47, 3) := by decide +kernel
theorem dX6_paceAt_44 : decode cX6_paceAt 44 = .ok (.istore_n 3, 1) := by decide +kernel
theorem dX6_paceAt_45 : decode cX6_paceAt 45 = .ok (.iinc 4 1, 3) := by decide +kernel
theorem dX6_paceAt_48 : decode cX6_paceAt 48 = .ok (.goto (-43), 3) := by decide +kernel
theorem dX6_paceAt_51 : decode cX6_paceAt 51 = .ok (.iload_n 3, 1) := by decide +kernel
theorem dX6_paceAt_52 : decode cX6_paceAt 52 = .ok (.ireturn, 1) := by decide +kernel
theorem dX6_become_0 : decode cX6_become 0 = .ok (.aload_n 1, 1) := by decide +kernel
theorem dX6_become_1 : decode cX6_become 1 = .ok (.getfield 13, 3) := by decide +kernel
theorem dX6_become_4 : decode cX6_become 4 = .ok (.iconst 0, 1) := by decide +kernel
theorem dX6_become_5 : decode cX6_become 5 = .ok (.aload_n 0, 1) := by decide +kernel
theorem dX6_become_6 : decode cX6_become 6 = .ok (.getfield 13, 3) := by decide +kernel
theorem dX6_become_9 : decode cX6_become 9 = .ok (.iconst 0, 1) := by decide +kernel
theorem dX6_become_10 : decode cX6_become 10 = .ok (.bipush 20, 2) := by decide +kernel
theorem dX6_become_12 : decode cX6_become 12 = .ok (.invokestatic 50, 3) := by decide +kernel
theorem dX6_become_15 : decode cX6_become 15 = .ok (.aload_n 1, 1) := by decide +kernel
theorem dX6_become_16 : decode cX6_become 16 = .ok (.getfield 17, 3) := by decide +kernel
theorem dX6_become_19 : decode cX6_become 19 = .ok (.iconst 0, 1) := by decide +kernel
theorem dX6_become_20 : decode cX6_become 20 = .ok (.aload_n 0, 1) := by decide +kernel
theorem dX6_become_21 : decode cX6_become 21 = .ok (.getfield 17, 3) := by decide +kernel
theorem dX6_become_24 : decode cX6_become 24 = .ok (.iconst 0, 1) := by decide +kernel
theorem dX6_become_25 : decode cX6_become 25 = .ok (.bipush 20, 2) := by decide +kernel
theorem dX6_become_27 : decode cX6_become 27 = .ok (.invokestatic 50, 3) := by decide +kernel
theorem dX6_become_30 : decode cX6_become 30 = .ok (.aload_n 0, 1) := by decide +kernel
theorem dX6_become_31 : decode cX6_become 31 = .ok (.aload_n 1, 1) := by decide +kernel
theorem dX6_become_32 : decode cX6_become 32 = .ok (.getfield 20, 3) := by decide +kernel
theorem dX6_become_35 : decode cX6_become 35 = .ok (.putfield 20, 3) := by decide +kernel
theorem dX6_become_38 : decode cX6_become 38 = .ok (.aload_n 0, 1) := by decide +kernel
theorem dX6_become_39 : decode cX6_become 39 = .ok (.aload_n 1, 1) := by decide +kernel
theorem dX6_become_40 : decode cX6_become 40 = .ok (.getfield 24, 3) := by decide +kernel
theorem dX6_become_43 : decode cX6_become 43 = .ok (.putfield 24, 3) := by decide +kernel
theorem dX6_become_46 : decode cX6_become 46 = .ok (.return_, 1) := by decide +kernel
theorem dX7_init_0 : decode cX7_init 0 = .ok (.aload_n 0, 1) := by decide +kernel
theorem dX7_init_1 : decode cX7_init 1 = .ok (.invokespecial 1, 3) := by decide +kernel
theorem dX7_init_4 : decode cX7_init 4 = .ok (.aload_n 0, 1) := by decide +kernel
theorem dX7_init_5 : decode cX7_init 5 = .ok (.getstatic 7, 3) := by decide +kernel
theorem dX7_init_8 : decode cX7_init 8 = .ok (.invokevirtual 13, 3) := by decide +kernel
theorem dX7_init_11 : decode cX7_init 11 = .ok (.checkcast 14, 3) := by decide +kernel
theorem dX7_init_14 : decode cX7_init 14 = .ok (.putfield 18, 3) := by decide +kernel
theorem dX7_init_17 : decode cX7_init 17 = .ok (.aload_n 0, 1) := by decide +kernel
theorem dX7_init_18 : decode cX7_init 18 = .ok (.new 21, 3) := by decide +kernel
theorem dX7_init_21 : decode cX7_init 21 = .ok (.dup, 1) := by decide +kernel
theorem dX7_init_22 : decode cX7_init 22 = .ok (.invokespecial 23, 3) := by decide +kernel
theorem dX7_init_25 : decode cX7_init 25 = .ok (.putfield 24, 3) := by decide +kernel
theorem dX7_init_28 : decode cX7_init 28 = .ok (.aload_n 0, 1) := by decide +kernel
theorem dX7_init_29 : decode cX7_init 29 = .ok (.new 28, 3) := by decide +kernel
theorem dX7_init_32 : decode cX7_init 32 = .ok (.dup, 1) := by decide +kernel
theorem dX7_init_33 : decode cX7_init 33 = .ok (.invokespecial 30, 3) := by decide +kernel
theorem dX7_init_36 : decode cX7_init 36 = .ok (.putfield 31, 3) := by decide +kernel
theorem dX7_init_39 : decode cX7_init 39 = .ok (.aload_n 0, 1) := by decide +kernel
theorem dX7_init_40 : decode cX7_init 40 = .ok (.bipush 8, 2) := by decide +kernel
theorem dX7_init_42 : decode cX7_init 42 = .ok (.newarray .int, 2) := by decide +kernel
theorem dX7_init_44 : decode cX7_init 44 = .ok (.putfield 35, 3) := by decide +kernel
theorem dX7_init_47 : decode cX7_init 47 = .ok (.aload_n 0, 1) := by decide +kernel
theorem dX7_init_48 : decode cX7_init 48 = .ok (.bipush 8, 2) := by decide +kernel
theorem dX7_init_50 : decode cX7_init 50 = .ok (.newarray .int, 2) := by decide +kernel
theorem dX7_init_52 : decode cX7_init 52 = .ok (.putfield 38, 3) := by decide +kernel
theorem dX7_init_55 : decode cX7_init 55 = .ok (.return_, 1) := by decide +kernel
theorem dX7_takes_0 : decode cX7_takes 0 = .ok (.iload_n 0, 1) := by decide +kernel
theorem dX7_takes_1 : decode cX7_takes 1 = .ok (.iconst 0, 1) := by decide +kernel
theorem dX7_takes_2 : decode cX7_takes 2 = .ok (.iconst 4, 1) := by decide +kernel
theorem dX7_takes_3 : decode cX7_takes 3 = .ok (.invokestatic 41, 3) := by decide +kernel
theorem dX7_takes_6 : decode cX7_takes 6 = .ok (.ifCond .eq 24, 3) := by decide +kernel
theorem dX7_takes_9 : decode cX7_takes 9 = .ok (.iload_n 1, 1) := by decide +kernel
theorem dX7_takes_10 : decode cX7_takes 10 = .ok (.getstatic 47, 3) := by decide +kernel
theorem dX7_takes_13 : decode cX7_takes 13 = .ok (.iload_n 0, 1) := by decide +kernel
theorem dX7_takes_14 : decode cX7_takes 14 = .ok (.iaload, 1) := by decide +kernel
theorem dX7_takes_15 : decode cX7_takes 15 = .ok (.getstatic 50, 3) := by decide +kernel
theorem dX7_takes_18 : decode cX7_takes 18 = .ok (.iload_n 0, 1) := by decide +kernel
theorem dX7_takes_19 : decode cX7_takes 19 = .ok (.iaload, 1) := by decide +kernel
theorem dX7_takes_20 : decode cX7_takes 20 = .ok (.invokestatic 41, 3) := by decide +kernel
theorem dX7_takes_23 : decode cX7_takes 23 = .ok (.ifCond .eq 7, 3) := by decide +kernel
theorem dX7_takes_26 : decode cX7_takes 26 = .ok (.iconst 1, 1) := by decide +kernel
theorem dX7_takes_27 : decode cX7_takes 27 = .ok (.goto 4, 3) := by decide +kernel
theorem dX7_takes_30 : decode cX7_takes 30 = .ok (.iconst 0, 1) := by decide +kernel
theorem dX7_takes_31 : decode cX7_takes 31 = .ok (.ireturn, 1) := by decide +kernel
theorem dX7_pace_0 : decode cX7_pace 0 = .ok (.aload_n 0, 1) := by decide +kernel
theorem dX7_pace_1 : decode cX7_pace 1 = .ok (.getfield 18, 3) := by decide +kernel
theorem dX7_pace_4 : decode cX7_pace 4 = .ok (.iconst 0, 1) := by decide +kernel
theorem dX7_pace_5 : decode cX7_pace 5 = .ok (.iaload, 1) := by decide +kernel
theorem dX7_pace_6 : decode cX7_pace 6 = .ok (.bipush 100, 2) := by decide +kernel
theorem dX7_pace_8 : decode cX7_pace 8 = .ok (.isub, 1) := by decide +kernel
theorem dX7_pace_9 : decode cX7_pace 9 = .ok (.ireturn, 1) := by decide +kernel
theorem dX7_slows_0 : decode cX7_slows 0 = .ok (.aload_n 0, 1) := by decide +kernel
theorem dX7_slows_1 : decode cX7_slows 1 = .ok (.getfield 18, 3) := by decide +kernel
theorem dX7_slows_4 : decode cX7_slows 4 = .ok (.iconst 1, 1) := by decide +kernel
theorem dX7_slows_5 : decode cX7_slows 5 = .ok (.iaload, 1) := by decide +kernel
theorem dX7_slows_6 : decode cX7_slows 6 = .ok (.ireturn, 1) := by decide +kernel
theorem dX7_reach_0 : decode cX7_reach 0 = .ok (.aload_n 0, 1) := by decide +kernel
theorem dX7_reach_1 : decode cX7_reach 1 = .ok (.getfield 18, 3) := by decide +kernel
theorem dX7_reach_4 : decode cX7_reach 4 = .ok (.iconst 2, 1) := by decide +kernel
theorem dX7_reach_5 : decode cX7_reach 5 = .ok (.iaload, 1) := by decide +kernel
theorem dX7_reach_6 : decode cX7_reach 6 = .ok (.ireturn, 1) := by decide +kernel
theorem dX7_rub_0 : decode cX7_rub 0 = .ok (.aload_n 0, 1) := by decide +kernel
theorem dX7_rub_1 : decode cX7_rub 1 = .ok (.getfield 18, 3) := by decide +kernel
theorem dX7_rub_4 : decode cX7_rub 4 = .ok (.iconst 3, 1) := by decide +kernel
theorem dX7_rub_5 : decode cX7_rub 5 = .ok (.iaload, 1) := by decide +kernel
theorem dX7_rub_6 : decode cX7_rub 6 = .ok (.ireturn, 1) := by decide +kernel
theorem dX7_rim_0 : decode cX7_rim 0 = .ok (.aload_n 0, 1) := by decide +kernel
theorem dX7_rim_1 : decode cX7_rim 1 = .ok (.getfield 18, 3) := by decide +kernel
theorem dX7_rim_4 : decode cX7_rim 4 = .ok (.iconst 4, 1) := by decide +kernel
theorem dX7_rim_5 : decode cX7_rim 5 = .ok (.iaload, 1) := by decide +kernel
theorem dX7_rim_6 : decode cX7_rim 6 = .ok (.ireturn, 1) := by decide +kernel
theorem dX7_hasOne_0 : decode cX7_hasOne 0 = .ok (.iload_n 1, 1) := by decide +kernel
theorem dX7_hasOne_1 : decode cX7_hasOne 1 = .ok (.iconst 0, 1) := by decide +kernel
theorem dX7_hasOne_2 : decode cX7_hasOne 2 = .ok (.aload_n 0, 1) := by decide +kernel
theorem dX7_hasOne_3 : decode cX7_hasOne 3 = .ok (.getfield 53, 3) := by decide +kernel
theorem dX7_hasOne_6 : decode cX7_hasOne 6 = .ok (.iconst 1, 1) := by decide +kernel
theorem dX7_hasOne_7 : decode cX7_hasOne 7 = .ok (.isub, 1) := by decide +kernel
theorem dX7_hasOne_8 : decode cX7_hasOne 8 = .ok (.invokestatic 41, 3) := by decide +kernel
theorem dX7_hasOne_11 : decode cX7_hasOne 11 = .ok (.ireturn, 1) := by decide +kernel
theorem dX7_seat_0 : decode cX7_seat 0 = .ok (.aload_n 0, 1) := by decide +kernel
theorem dX7_seat_1 : decode cX7_seat 1 = .ok (.getfield 53, 3) := by decide +kernel
theorem dX7_seat_4 : decode cX7_seat 4 = .ok (.istore_n 3, 1) := by decide +kernel
theorem dX7_seat_5 : decode cX7_seat 5 = .ok (.iload_n 3, 1) := by decide +kernel
theorem dX7_seat_6 : decode cX7_seat 6 = .ok (.bipush 8, 2) := by decide +kernel
theorem dX7_seat_8 : decode cX7_seat 8 = .ok (.if_icmp .ge 41, 3) := by decide +kernel
theorem dX7_seat_11 : decode cX7_seat 11 = .ok (.aload_n 0, 1) := by decide +kernel
theorem dX7_seat_12 : decode cX7_seat 12 = .ok (.getfield 35, 3) := by decide +kernel
theorem dX7_seat_15 : decode cX7_seat 15 = .ok (.iload_n 3, 1) := by decide +kernel
theorem dX7_seat_16 : decode cX7_seat 16 = .ok (.iload_n 1, 1) := by decide +kernel
theorem dX7_seat_17 : decode cX7_seat 17 = .ok (.i2l, 1) := by decide +kernel
theorem dX7_seat_18 : decode cX7_seat 18 = .ok (.lconst 0, 1) := by decide +kernel
theorem dX7_seat_19 : decode cX7_seat 19 = .ok (.iload_n 2, 1) := by decide +kernel
theorem dX7_seat_20 : decode cX7_seat 20 = .ok (.invokestatic 57, 3) := by decide +kernel
theorem dX7_seat_23 : decode cX7_seat 23 = .ok (.l2i, 1) := by decide +kernel
theorem dX7_seat_24 : decode cX7_seat 24 = .ok (.iastore, 1) := by decide +kernel
theorem dX7_seat_25 : decode cX7_seat 25 = .ok (.aload_n 0, 1) := by decide +kernel
theorem dX7_seat_26 : decode cX7_seat 26 = .ok (.getfield 38, 3) := by decide +kernel
theorem dX7_seat_29 : decode cX7_seat 29 = .ok (.iload_n 3, 1) := by decide +kernel
theorem dX7_seat_30 : decode cX7_seat 30 = .ok (.iload_n 1, 1) := by decide +kernel
theorem dX7_seat_31 : decode cX7_seat 31 = .ok (.i2l, 1) := by decide +kernel
theorem dX7_seat_32 : decode cX7_seat 32 = .ok (.lconst 0, 1) := by decide +kernel
theorem dX7_seat_33 : decode cX7_seat 33 = .ok (.iload_n 2, 1) := by decide +kernel
theorem dX7_seat_34 : decode cX7_seat 34 = .ok (.invokestatic 63, 3) := by decide +kernel
theorem dX7_seat_37 : decode cX7_seat 37 = .ok (.l2i, 1) := by decide +kernel
theorem dX7_seat_38 : decode cX7_seat 38 = .ok (.iastore, 1) := by decide +kernel
theorem dX7_seat_39 : decode cX7_seat 39 = .ok (.aload_n 0, 1) := by decide +kernel
theorem dX7_seat_40 : decode cX7_seat 40 = .ok (.dup, 1) := by decide +kernel
theorem dX7_seat_41 : decode cX7_seat 41 = .ok (.getfield 53, 3) := by decide +kernel
theorem dX7_seat_44 : decode cX7_seat 44 = .ok (.iconst 1, 1) := by decide +kernel
theorem dX7_seat_45 : decode cX7_seat 45 = .ok (.iadd, 1) := by decide +kernel
theorem dX7_seat_46 : decode cX7_seat 46 = .ok (.putfield 53, 3) := by decide +kernel
theorem dX7_seat_49 : decode cX7_seat 49 = .ok (.iload_n 3, 1) := by decide +kernel
theorem dX7_seat_50 : decode cX7_seat 50 = .ok (.ireturn, 1) := by decide +kernel
theorem dX7_become_0 : decode cX7_become 0 = .ok (.aload_n 1, 1) := by decide +kernel
theorem dX7_become_1 : decode cX7_become 1 = .ok (.getfield 18, 3) := by decide +kernel
theorem dX7_become_4 : decode cX7_become 4 = .ok (.iconst 0, 1) := by decide +kernel
theorem dX7_become_5 : decode cX7_become 5 = .ok (.aload_n 0, 1) := by decide +kernel
theorem dX7_become_6 : decode cX7_become 6 = .ok (.getfield 18, 3) := by decide +kernel
theorem dX7_become_9 : decode cX7_become 9 = .ok (.iconst 0, 1) := by decide +kernel
theorem dX7_become_10 : decode cX7_become 10 = .ok (.iconst 5, 1) := by decide +kernel
theorem dX7_become_11 : decode cX7_become 11 = .ok (.invokestatic 66, 3) := by decide +kernel
theorem dX7_become_14 : decode cX7_become 14 = .ok (.aload_n 1, 1) := by decide +kernel
theorem dX7_become_15 : decode cX7_become 15 = .ok (.getfield 35, 3) := by decide +kernel
theorem dX7_become_18 : decode cX7_become 18 = .ok (.iconst 0, 1) := by decide +kernel
theorem dX7_become_19 : decode cX7_become 19 = .ok (.aload_n 0, 1) := by decide +kernel
theorem dX7_become_20 : decode cX7_become 20 = .ok (.getfield 35, 3) := by decide +kernel
theorem dX7_become_23 : decode cX7_become 23 = .ok (.iconst 0, 1) := by decide +kernel
theorem dX7_become_24 : decode cX7_become 24 = .ok (.bipush 8, 2) := by decide +kernel
theorem dX7_become_26 : decode cX7_become 26 = .ok (.invokestatic 66, 3) := by decide +kernel
theorem dX7_become_29 : decode cX7_become 29 = .ok (.aload_n 1, 1) := by decide +kernel
theorem dX7_become_30 : decode cX7_become 30 = .ok (.getfield 38, 3) := by decide +kernel
theorem dX7_become_33 : decode cX7_become 33 = .ok (.iconst 0, 1) := by decide +kernel
theorem dX7_become_34 : decode cX7_become 34 = .ok (.aload_n 0, 1) := by decide +kernel
theorem dX7_become_35 : decode cX7_become 35 = .ok (.getfield 38, 3) := by decide +kernel
theorem dX7_become_38 : decode cX7_become 38 = .ok (.iconst 0, 1) := by decide +kernel
theorem dX7_become_39 : decode cX7_become 39 = .ok (.bipush 8, 2) := by decide +kernel
theorem dX7_become_41 : decode cX7_become 41 = .ok (.invokestatic 66, 3) := by decide +kernel
theorem dX7_become_44 : decode cX7_become 44 = .ok (.aload_n 0, 1) := by decide +kernel
theorem dX7_become_45 : decode cX7_become 45 = .ok (.aload_n 1, 1) := by decide +kernel
theorem dX7_become_46 : decode cX7_become 46 = .ok (.getfield 53, 3) := by decide +kernel
theorem dX7_become_49 : decode cX7_become 49 = .ok (.putfield 53, 3) := by decide +kernel
theorem dX7_become_52 : decode cX7_become 52 = .ok (.aload_n 0, 1) := by decide +kernel
theorem dX7_become_53 : decode cX7_become 53 = .ok (.getfield 24, 3) := by decide +kernel
theorem dX7_become_56 : decode cX7_become 56 = .ok (.aload_n 1, 1) := by decide +kernel
theorem dX7_become_57 : decode cX7_become 57 = .ok (.getfield 24, 3) := by decide +kernel
theorem dX7_become_60 : decode cX7_become 60 = .ok (.invokevirtual 72, 3) := by decide +kernel
theorem dX7_become_63 : decode cX7_become 63 = .ok (.aload_n 0, 1) := by decide +kernel
theorem dX7_become_64 : decode cX7_become 64 = .ok (.getfield 31, 3) := by decide +kernel
theorem dX7_become_67 : decode cX7_become 67 = .ok (.aload_n 1, 1) := by decide +kernel
theorem dX7_become_68 : decode cX7_become 68 = .ok (.getfield 31, 3) := by decide +kernel
theorem dX7_become_71 : decode cX7_become 71 = .ok (.invokevirtual 76, 3) := by decide +kernel
theorem dX7_become_74 : decode cX7_become 74 = .ok (.return_, 1) := by decide +kernel
theorem dX8_init_0 : decode cX8_init 0 = .ok (.aload_n 0, 1) := by decide +kernel
theorem dX8_init_1 : decode cX8_init 1 = .ok (.invokespecial 3, 3) := by decide +kernel
theorem dX8_init_4 : decode cX8_init 4 = .ok (.aload_n 0, 1) := by decide +kernel
theorem dX8_init_5 : decode cX8_init 5 = .ok (.bipush 61, 2) := by decide +kernel
theorem dX8_init_7 : decode cX8_init 7 = .ok (.newarray .long, 2) := by decide +kernel
theorem dX8_init_9 : decode cX8_init 9 = .ok (.putfield 9, 3) := by decide +kernel
theorem dX8_init_12 : decode cX8_init 12 = .ok (.aload_n 0, 1) := by decide +kernel
theorem dX8_init_13 : decode cX8_init 13 = .ok (.bipush 61, 2) := by decide +kernel
theorem dX8_init_15 : decode cX8_init 15 = .ok (.newarray .long, 2) := by decide +kernel
theorem dX8_init_17 : decode cX8_init 17 = .ok (.putfield 15, 3) := by decide +kernel
theorem dX8_init_20 : decode cX8_init 20 = .ok (.return_, 1) := by decide +kernel
theorem dX8_followSeat_0 : decode cX8_followSeat 0 = .ok (.iconst 0, 1) := by decide +kernel
theorem dX8_followSeat_1 : decode cX8_followSeat 1 = .ok (.istore 4, 2) := by decide +kernel
theorem dX8_followSeat_3 : decode cX8_followSeat 3 = .ok (.iload 4, 2) := by decide +kernel
theorem dX8_followSeat_5 : decode cX8_followSeat 5 = .ok (.bipush 60, 2) := by decide +kernel
theorem dX8_followSeat_7 : decode cX8_followSeat 7 = .ok (.if_icmp .gt 49, 3) := by decide +kernel
theorem dX8_followSeat_10 : decode cX8_followSeat 10 = .ok (.aload_n 3, 1) := by decide +kernel
theorem dX8_followSeat_11 : decode cX8_followSeat 11 = .ok (.iload 4, 2) := by decide +kernel
theorem dX8_followSeat_13 : decode cX8_followSeat 13 = .ok (.invokevirtual 18, 3) := by decide +kernel
theorem dX8_followSeat_16 : decode cX8_followSeat 16 = .ok (.istore 5, 2) := by decide +kernel
theorem dX8_followSeat_18 : decode cX8_followSeat 18 = .ok (.aload_n 0, 1) := by decide +kernel
theorem dX8_followSeat_19 : decode cX8_followSeat 19 = .ok (.getfield 9, 3) := by decide +kernel
theorem dX8_followSeat_22 : decode cX8_followSeat 22 = .ok (.iload 4, 2) := by decide +kernel
theorem dX8_followSeat_24 : decode cX8_followSeat 24 = .ok (.iload_n 1, 1) := by decide +kernel
theorem dX8_followSeat_25 : decode cX8_followSeat 25 = .ok (.i2l, 1) := by decide +kernel
theorem dX8_followSeat_26 : decode cX8_followSeat 26 = .ok (.iload_n 2, 1) := by decide +kernel
theorem dX8_followSeat_27 : decode cX8_followSeat 27 = .ok (.i2l, 1) := by decide +kernel
theorem dX8_followSeat_28 : decode cX8_followSeat 28 = .ok (.iload 5, 2) := by decide +kernel
theorem dX8_followSeat_30 : decode cX8_followSeat 30 = .ok (.invokestatic 24, 3) := by decide +kernel
theorem dX8_followSeat_33 : decode cX8_followSeat 33 = .ok (.lastore, 1) := by decide +kernel
theorem dX8_followSeat_34 : decode cX8_followSeat 34 = .ok (.aload_n 0, 1) := by decide +kernel
theorem dX8_followSeat_35 : decode cX8_followSeat 35 = .ok (.getfield 15, 3) := by decide +kernel
theorem dX8_followSeat_38 : decode cX8_followSeat 38 = .ok (.iload 4, 2) := by decide +kernel
theorem dX8_followSeat_40 : decode cX8_followSeat 40 = .ok (.iload_n 1, 1) := by decide +kernel
theorem dX8_followSeat_41 : decode cX8_followSeat 41 = .ok (.i2l, 1) := by decide +kernel
theorem dX8_followSeat_42 : decode cX8_followSeat 42 = .ok (.iload_n 2, 1) := by decide +kernel
theorem dX8_followSeat_43 : decode cX8_followSeat 43 = .ok (.i2l, 1) := by decide +kernel
theorem dX8_followSeat_44 : decode cX8_followSeat 44 = .ok (.iload 5, 2) := by decide +kernel
theorem dX8_followSeat_46 : decode cX8_followSeat 46 = .ok (.invokestatic 30, 3) := by decide +kernel
theorem dX8_followSeat_49 : decode cX8_followSeat 49 = .ok (.lastore, 1) := by decide +kernel
theorem dX8_followSeat_50 : decode cX8_followSeat 50 = .ok (.iinc 4 1, 3) := by decide +kernel
theorem dX8_followSeat_53 : decode cX8_followSeat 53 = .ok (.goto (-50), 3) := by decide +kernel
theorem dX8_followSeat_56 : decode cX8_followSeat 56 = .ok (.return_, 1) := by decide +kernel
theorem dX8_followSeen_0 : decode cX8_followSeen 0 = .ok (.iconst 0, 1) := by decide +kernel
theorem dX8_followSeen_1 : decode cX8_followSeen 1 = .ok (.istore_n 3, 1) := by decide +kernel
theorem dX8_followSeen_2 : decode cX8_followSeen 2 = .ok (.iload_n 3, 1) := by decide +kernel
theorem dX8_followSeen_3 : decode cX8_followSeen 3 = .ok (.bipush 20, 2) := by decide +kernel
theorem dX8_followSeen_5 : decode cX8_followSeen 5 = .ok (.if_icmp .gt 58, 3) := by decide +kernel
theorem dX8_followSeen_8 : decode cX8_followSeen 8 = .ok (.aload_n 2, 1) := by decide +kernel
theorem dX8_followSeen_9 : decode cX8_followSeen 9 = .ok (.iload_n 3, 1) := by decide +kernel
theorem dX8_followSeen_10 : decode cX8_followSeen 10 = .ok (.invokevirtual 33, 3) := by decide +kernel
theorem dX8_followSeen_13 : decode cX8_followSeen 13 = .ok (.istore 4, 2) := by decide +kernel
theorem dX8_followSeen_15 : decode cX8_followSeen 15 = .ok (.aload_n 0, 1) := by decide +kernel
theorem dX8_followSeen_16 : decode cX8_followSeen 16 = .ok (.getfield 9, 3) := by decide +kernel
theorem dX8_followSeen_19 : decode cX8_followSeen 19 = .ok (.iload_n 3, 1) := by decide +kernel
theorem dX8_followSeen_20 : decode cX8_followSeen 20 = .ok (.aload_n 1, 1) := by decide +kernel
theorem dX8_followSeen_21 : decode cX8_followSeen 21 = .ok (.iload_n 3, 1) := by decide +kernel
theorem dX8_followSeen_22 : decode cX8_followSeen 22 = .ok (.invokevirtual 36, 3) := by decide +kernel
theorem dX8_followSeen_25 : decode cX8_followSeen 25 = .ok (.aload_n 1, 1) := by decide +kernel
theorem dX8_followSeen_26 : decode cX8_followSeen 26 = .ok (.iload_n 3, 1) := by decide +kernel
theorem dX8_followSeen_27 : decode cX8_followSeen 27 = .ok (.invokevirtual 42, 3) := by decide +kernel
theorem dX8_followSeen_30 : decode cX8_followSeen 30 = .ok (.iload 4, 2) := by decide +kernel
theorem dX8_followSeen_32 : decode cX8_followSeen 32 = .ok (.invokestatic 24, 3) := by decide +kernel
theorem dX8_followSeen_35 : decode cX8_followSeen 35 = .ok (.lastore, 1) := by decide +kernel
theorem dX8_followSeen_36 : decode cX8_followSeen 36 = .ok (.aload_n 0, 1) := by decide +kernel
theorem dX8_followSeen_37 : decode cX8_followSeen 37 = .ok (.getfield 15, 3) := by decide +kernel
theorem dX8_followSeen_40 : decode cX8_followSeen 40 = .ok (.iload_n 3, 1) := by decide +kernel
theorem dX8_followSeen_41 : decode cX8_followSeen 41 = .ok (.aload_n 1, 1) := by decide +kernel
theorem dX8_followSeen_42 : decode cX8_followSeen 42 = .ok (.iload_n 3, 1) := by decide +kernel
theorem dX8_followSeen_43 : decode cX8_followSeen 43 = .ok (.invokevirtual 36, 3) := by decide +kernel
theorem dX8_followSeen_46 : decode cX8_followSeen 46 = .ok (.aload_n 1, 1) := by decide +kernel
theorem dX8_followSeen_47 : decode cX8_followSeen 47 = .ok (.iload_n 3, 1) := by decide +kernel
theorem dX8_followSeen_48 : decode cX8_followSeen 48 = .ok (.invokevirtual 42, 3) := by decide +kernel
theorem dX8_followSeen_51 : decode cX8_followSeen 51 = .ok (.iload 4, 2) := by decide +kernel
theorem dX8_followSeen_53 : decode cX8_followSeen 53 = .ok (.invokestatic 30, 3) := by decide +kernel
theorem dX8_followSeen_56 : decode cX8_followSeen 56 = .ok (.lastore, 1) := by decide +kernel
theorem dX8_followSeen_57 : decode cX8_followSeen 57 = .ok (.iinc 3 1, 3) := by decide +kernel
theorem dX8_followSeen_60 : decode cX8_followSeen 60 = .ok (.goto (-58), 3) := by decide +kernel
theorem dX8_followSeen_63 : decode cX8_followSeen 63 = .ok (.return_, 1) := by decide +kernel
theorem dX8_crossesItself_0 : decode cX8_crossesItself 0 = .ok (.iconst 0, 1) := by decide +kernel
theorem dX8_crossesItself_1 : decode cX8_crossesItself 1 = .ok (.istore_n 1, 1) := by decide +kernel
theorem dX8_crossesItself_2 : decode cX8_crossesItself 2 = .ok (.iload_n 1, 1) := by decide +kernel
theorem dX8_crossesItself_3 : decode cX8_crossesItself 3 = .ok (.bipush 20, 2) := by decide +kernel
theorem dX8_crossesItself_5 : decode cX8_crossesItself 5 = .ok (.if_icmp .ge 36, 3) := by decide +kernel
theorem dX8_crossesItself_8 : decode cX8_crossesItself 8 = .ok (.iload_n 1, 1) := by decide +kernel
theorem dX8_crossesItself_9 : decode cX8_crossesItself 9 = .ok (.iconst 2, 1) := by decide +kernel
theorem dX8_crossesItself_10 : decode cX8_crossesItself 10 = .ok (.iadd, 1) := by decide +kernel
theorem dX8_crossesItself_11 : decode cX8_crossesItself 11 = .ok (.istore_n 2, 1) := by decide +kernel
theorem dX8_crossesItself_12 : decode cX8_crossesItself 12 = .ok (.iload_n 2, 1) := by decide +kernel
theorem dX8_crossesItself_13 : decode cX8_crossesItself 13 = .ok (.bipush 20, 2) := by decide +kernel
theorem dX8_crossesItself_15 : decode cX8_crossesItself 15 = .ok (.if_icmp .ge 20, 3) := by decide +kernel
theorem dX8_crossesItself_18 : decode cX8_crossesItself 18 = .ok (.aload_n 0, 1) := by decide +kernel
theorem dX8_crossesItself_19 : decode cX8_crossesItself 19 = .ok (.iload_n 1, 1) := by decide +kernel
theorem dX8_crossesItself_20 : decode cX8_crossesItself 20 = .ok (.iload_n 2, 1) := by decide +kernel
theorem dX8_crossesItself_21 : decode cX8_crossesItself 21 = .ok (.invokevirtual 45, 3) := by decide +kernel
theorem dX8_crossesItself_24 : decode cX8_crossesItself 24 = .ok (.ifCond .eq 5, 3) := by decide +kernel
theorem dX8_crossesItself_27 : decode cX8_crossesItself 27 = .ok (.iconst 1, 1) := by decide +kernel
theorem dX8_crossesItself_28 : decode cX8_crossesItself 28 = .ok (.ireturn, 1) := by decide +kernel
theorem dX8_crossesItself_29 : decode cX8_crossesItself 29 = .ok (.iinc 2 1, 3) := by decide +kernel
theorem dX8_crossesItself_32 : decode cX8_crossesItself 32 = .ok (.goto (-20), 3) := by decide +kernel
theorem dX8_crossesItself_35 : decode cX8_crossesItself 35 = .ok (.iinc 1 1, 3) := by decide +kernel
theorem dX8_crossesItself_38 : decode cX8_crossesItself 38 = .ok (.goto (-36), 3) := by decide +kernel
theorem dX8_crossesItself_41 : decode cX8_crossesItself 41 = .ok (.iconst 0, 1) := by decide +kernel
theorem dX8_crossesItself_42 : decode cX8_crossesItself 42 = .ok (.ireturn, 1) := by decide +kernel
theorem dX8_linesMeet_0 : decode cX8_linesMeet 0 = .ok (.aload_n 0, 1) := by decide +kernel
theorem dX8_linesMeet_1 : decode cX8_linesMeet 1 = .ok (.getfield 9, 3) := by decide +kernel
theorem dX8_linesMeet_4 : decode cX8_linesMeet 4 = .ok (.iload_n 1, 1) := by decide +kernel
theorem dX8_linesMeet_5 : decode cX8_linesMeet 5 = .ok (.iload_n 2, 1) := by decide +kernel
theorem dX8_linesMeet_6 : decode cX8_linesMeet 6 = .ok (.invokestatic 49, 3) := by decide +kernel
theorem dX8_linesMeet_9 : decode cX8_linesMeet 9 = .ok (.ifCond .eq 37, 3) := by decide +kernel
theorem dX8_linesMeet_12 : decode cX8_linesMeet 12 = .ok (.aload_n 0, 1) := by decide +kernel
theorem dX8_linesMeet_13 : decode cX8_linesMeet 13 = .ok (.getfield 15, 3) := by decide +kernel
theorem dX8_linesMeet_16 : decode cX8_linesMeet 16 = .ok (.iload_n 1, 1) := by decide +kernel
theorem dX8_linesMeet_17 : decode cX8_linesMeet 17 = .ok (.iload_n 2, 1) := by decide +kernel
theorem dX8_linesMeet_18 : decode cX8_linesMeet 18 = .ok (.invokestatic 49, 3) := by decide +kernel
theorem dX8_linesMeet_21 : decode cX8_linesMeet 21 = .ok (.ifCond .eq 25, 3) := by decide +kernel
theorem dX8_linesMeet_24 : decode cX8_linesMeet 24 = .ok (.aload_n 0, 1) := by decide +kernel
theorem dX8_linesMeet_25 : decode cX8_linesMeet 25 = .ok (.iload_n 1, 1) := by decide +kernel
theorem dX8_linesMeet_26 : decode cX8_linesMeet 26 = .ok (.iload_n 2, 1) := by decide +kernel
theorem dX8_linesMeet_27 : decode cX8_linesMeet 27 = .ok (.invokevirtual 53, 3) := by decide +kernel
theorem dX8_linesMeet_30 : decode cX8_linesMeet 30 = .ok (.ifCond .eq 16, 3) := by decide +kernel
theorem dX8_linesMeet_33 : decode cX8_linesMeet 33 = .ok (.aload_n 0, 1) := by decide +kernel
theorem dX8_linesMeet_34 : decode cX8_linesMeet 34 = .ok (.iload_n 2, 1) := by decide +kernel
theorem dX8_linesMeet_35 : decode cX8_linesMeet 35 = .ok (.iload_n 1, 1) := by decide +kernel
theorem dX8_linesMeet_36 : decode cX8_linesMeet 36 = .ok (.invokevirtual 53, 3) := by decide +kernel
theorem dX8_linesMeet_39 : decode cX8_linesMeet 39 = .ok (.ifCond .eq 7, 3) := by decide +kernel
theorem dX8_linesMeet_42 : decode cX8_linesMeet 42 = .ok (.iconst 1, 1) := by decide +kernel
theorem dX8_linesMeet_43 : decode cX8_linesMeet 43 = .ok (.goto 4, 3) := by decide +kernel
theorem dX8_linesMeet_46 : decode cX8_linesMeet 46 = .ok (.iconst 0, 1) := by decide +kernel
theorem dX8_linesMeet_47 : decode cX8_linesMeet 47 = .ok (.ireturn, 1) := by decide +kernel
theorem dX8_spansMeet_0 : decode cX8_spansMeet 0 = .ok (.aload_n 0, 1) := by decide +kernel
theorem dX8_spansMeet_1 : decode cX8_spansMeet 1 = .ok (.iload_n 1, 1) := by decide +kernel
theorem dX8_spansMeet_2 : decode cX8_spansMeet 2 = .ok (.laload, 1) := by decide +kernel
theorem dX8_spansMeet_3 : decode cX8_spansMeet 3 = .ok (.aload_n 0, 1) := by decide +kernel
theorem dX8_spansMeet_4 : decode cX8_spansMeet 4 = .ok (.iload_n 1, 1) := by decide +kernel
theorem dX8_spansMeet_5 : decode cX8_spansMeet 5 = .ok (.iconst 1, 1) := by decide +kernel
theorem dX8_spansMeet_6 : decode cX8_spansMeet 6 = .ok (.iadd, 1) := by decide +kernel
theorem dX8_spansMeet_7 : decode cX8_spansMeet 7 = .ok (.laload, 1) := by decide +kernel
theorem dX8_spansMeet_8 : decode cX8_spansMeet 8 = .ok (.invokestatic 56, 3) := by decide +kernel
theorem dX8_spansMeet_11 : decode cX8_spansMeet 11 = .ok (.aload_n 0, 1) := by decide +kernel
theorem dX8_spansMeet_12 : decode cX8_spansMeet 12 = .ok (.iload_n 2, 1) := by decide +kernel
theorem dX8_spansMeet_13 : decode cX8_spansMeet 13 = .ok (.laload, 1) := by decide +kernel
theorem dX8_spansMeet_14 : decode cX8_spansMeet 14 = .ok (.aload_n 0, 1) := by decide +kernel
theorem dX8_spansMeet_15 : decode cX8_spansMeet 15 = .ok (.iload_n 2, 1) := by decide +kernel
theorem dX8_spansMeet_16 : decode cX8_spansMeet 16 = .ok (.iconst 1, 1) := by decide +kernel
theorem dX8_spansMeet_17 : decode cX8_spansMeet 17 = .ok (.iadd, 1) := by decide +kernel
theorem dX8_spansMeet_18 : decode cX8_spansMeet 18 = .ok (.laload, 1) := by decide +kernel
theorem dX8_spansMeet_19 : decode cX8_spansMeet 19 = .ok (.invokestatic 62, 3) := by decide +kernel
theorem dX8_spansMeet_22 : decode cX8_spansMeet 22 = .ok (.lcmp, 1) := by decide +kernel
theorem dX8_spansMeet_23 : decode cX8_spansMeet 23 = .ok (.ifCond .gt 33, 3) := by decide +kernel
theorem dX8_spansMeet_26 : decode cX8_spansMeet 26 = .ok (.aload_n 0, 1) := by decide +kernel
theorem dX8_spansMeet_27 : decode cX8_spansMeet 27 = .ok (.iload_n 2, 1) := by decide +kernel
theorem dX8_spansMeet_28 : decode cX8_spansMeet 28 = .ok (.laload, 1) := by decide +kernel
theorem dX8_spansMeet_29 : decode cX8_spansMeet 29 = .ok (.aload_n 0, 1) := by decide +kernel
theorem dX8_spansMeet_30 : decode cX8_spansMeet 30 = .ok (.iload_n 2, 1) := by decide +kernel
theorem dX8_spansMeet_31 : decode cX8_spansMeet 31 = .ok (.iconst 1, 1) := by decide +kernel
theorem dX8_spansMeet_32 : decode cX8_spansMeet 32 = .ok (.iadd, 1) := by decide +kernel
theorem dX8_spansMeet_33 : decode cX8_spansMeet 33 = .ok (.laload, 1) := by decide +kernel
theorem dX8_spansMeet_34 : decode cX8_spansMeet 34 = .ok (.invokestatic 56, 3) := by decide +kernel
theorem dX8_spansMeet_37 : decode cX8_spansMeet 37 = .ok (.aload_n 0, 1) := by decide +kernel
theorem dX8_spansMeet_38 : decode cX8_spansMeet 38 = .ok (.iload_n 1, 1) := by decide +kernel
theorem dX8_spansMeet_39 : decode cX8_spansMeet 39 = .ok (.laload, 1) := by decide +kernel
theorem dX8_spansMeet_40 : decode cX8_spansMeet 40 = .ok (.aload_n 0, 1) := by decide +kernel
theorem dX8_spansMeet_41 : decode cX8_spansMeet 41 = .ok (.iload_n 1, 1) := by decide +kernel
theorem dX8_spansMeet_42 : decode cX8_spansMeet 42 = .ok (.iconst 1, 1) := by decide +kernel
theorem dX8_spansMeet_43 : decode cX8_spansMeet 43 = .ok (.iadd, 1) := by decide +kernel
theorem dX8_spansMeet_44 : decode cX8_spansMeet 44 = .ok (.laload, 1) := by decide +kernel
theorem dX8_spansMeet_45 : decode cX8_spansMeet 45 = .ok (.invokestatic 62, 3) := by decide +kernel
theorem dX8_spansMeet_48 : decode cX8_spansMeet 48 = .ok (.lcmp, 1) := by decide +kernel
theorem dX8_spansMeet_49 : decode cX8_spansMeet 49 = .ok (.ifCond .gt 7, 3) := by decide +kernel
theorem dX8_spansMeet_52 : decode cX8_spansMeet 52 = .ok (.iconst 1, 1) := by decide +kernel
theorem dX8_spansMeet_53 : decode cX8_spansMeet 53 = .ok (.goto 4, 3) := by decide +kernel
theorem dX8_spansMeet_56 : decode cX8_spansMeet 56 = .ok (.iconst 0, 1) := by decide +kernel
theorem dX8_spansMeet_57 : decode cX8_spansMeet 57 = .ok (.ireturn, 1) := by decide +kernel
theorem dX8_isAcross_0 : decode cX8_isAcross 0 = .ok (.aload_n 0, 1) := by decide +kernel
theorem dX8_isAcross_1 : decode cX8_isAcross 1 = .ok (.iload_n 1, 1) := by decide +kernel
theorem dX8_isAcross_2 : decode cX8_isAcross 2 = .ok (.iload_n 2, 1) := by decide +kernel
theorem dX8_isAcross_3 : decode cX8_isAcross 3 = .ok (.invokevirtual 65, 3) := by decide +kernel
theorem dX8_isAcross_6 : decode cX8_isAcross 6 = .ok (.invokestatic 69, 3) := by decide +kernel
theorem dX8_isAcross_9 : decode cX8_isAcross 9 = .ok (.aload_n 0, 1) := by decide +kernel
theorem dX8_isAcross_10 : decode cX8_isAcross 10 = .ok (.iload_n 1, 1) := by decide +kernel
theorem dX8_isAcross_11 : decode cX8_isAcross 11 = .ok (.iload_n 2, 1) := by decide +kernel
theorem dX8_isAcross_12 : decode cX8_isAcross 12 = .ok (.iconst 1, 1) := by decide +kernel
theorem dX8_isAcross_13 : decode cX8_isAcross 13 = .ok (.iadd, 1) := by decide +kernel
theorem dX8_isAcross_14 : decode cX8_isAcross 14 = .ok (.invokevirtual 65, 3) := by decide +kernel
theorem dX8_isAcross_17 : decode cX8_isAcross 17 = .ok (.invokestatic 69, 3) := by decide +kernel
theorem dX8_isAcross_20 : decode cX8_isAcross 20 = .ok (.imul, 1) := by decide +kernel
theorem dX8_isAcross_21 : decode cX8_isAcross 21 = .ok (.ifCond .gt 7, 3) := by decide +kernel
theorem dX8_isAcross_24 : decode cX8_isAcross 24 = .ok (.iconst 1, 1) := by decide +kernel
theorem dX8_isAcross_25 : decode cX8_isAcross 25 = .ok (.goto 4, 3) := by decide +kernel
theorem dX8_isAcross_28 : decode cX8_isAcross 28 = .ok (.iconst 0, 1) := by decide +kernel
theorem dX8_isAcross_29 : decode cX8_isAcross 29 = .ok (.ireturn, 1) := by decide +kernel
theorem dX8_side_0 : decode cX8_side 0 = .ok (.aload_n 0, 1) := by decide +kernel
theorem dX8_side_1 : decode cX8_side 1 = .ok (.getfield 9, 3) := by decide +kernel
theorem dX8_side_4 : decode cX8_side 4 = .ok (.iload_n 1, 1) := by decide +kernel
theorem dX8_side_5 : decode cX8_side 5 = .ok (.iconst 1, 1) := by decide +kernel
theorem dX8_side_6 : decode cX8_side 6 = .ok (.iadd, 1) := by decide +kernel
theorem dX8_side_7 : decode cX8_side 7 = .ok (.laload, 1) := by decide +kernel
theorem dX8_side_8 : decode cX8_side 8 = .ok (.aload_n 0, 1) := by decide +kernel
theorem dX8_side_9 : decode cX8_side 9 = .ok (.getfield 9, 3) := by decide +kernel
theorem dX8_side_12 : decode cX8_side 12 = .ok (.iload_n 1, 1) := by decide +kernel
theorem dX8_side_13 : decode cX8_side 13 = .ok (.laload, 1) := by decide +kernel
theorem dX8_side_14 : decode cX8_side 14 = .ok (.lsub, 1) := by decide +kernel
theorem dX8_side_15 : decode cX8_side 15 = .ok (.aload_n 0, 1) := by decide +kernel
theorem dX8_side_16 : decode cX8_side 16 = .ok (.getfield 15, 3) := by decide +kernel
theorem dX8_side_19 : decode cX8_side 19 = .ok (.iload_n 2, 1) := by decide +kernel
theorem dX8_side_20 : decode cX8_side 20 = .ok (.laload, 1) := by decide +kernel
theorem dX8_side_21 : decode cX8_side 21 = .ok (.aload_n 0, 1) := by decide +kernel
theorem dX8_side_22 : decode cX8_side 22 = .ok (.getfield 15, 3) := by decide +kernel
theorem dX8_side_25 : decode cX8_side 25 = .ok (.iload_n 1, 1) := by decide +kernel
theorem dX8_side_26 : decode cX8_side 26 = .ok (.laload, 1) := by decide +kernel
theorem dX8_side_27 : decode cX8_side 27 = .ok (.lsub, 1) := by decide +kernel
theorem dX8_side_28 : decode cX8_side 28 = .ok (.lmul, 1) := by decide +kernel
theorem dX8_side_29 : decode cX8_side 29 = .ok (.aload_n 0, 1) := by decide +kernel
theorem dX8_side_30 : decode cX8_side 30 = .ok (.getfield 15, 3) := by decide +kernel
theorem dX8_side_33 : decode cX8_side 33 = .ok (.iload_n 1, 1) := by decide +kernel
theorem dX8_side_34 : decode cX8_side 34 = .ok (.iconst 1, 1) := by decide +kernel
theorem dX8_side_35 : decode cX8_side 35 = .ok (.iadd, 1) := by decide +kernel
theorem dX8_side_36 : decode cX8_side 36 = .ok (.laload, 1) := by decide +kernel
theorem dX8_side_37 : decode cX8_side 37 = .ok (.aload_n 0, 1) := by decide +kernel
theorem dX8_side_38 : decode cX8_side 38 = .ok (.getfield 15, 3) := by decide +kernel
theorem dX8_side_41 : decode cX8_side 41 = .ok (.iload_n 1, 1) := by decide +kernel
theorem dX8_side_42 : decode cX8_side 42 = .ok (.laload, 1) := by decide +kernel
theorem dX8_side_43 : decode cX8_side 43 = .ok (.lsub, 1) := by decide +kernel
theorem dX8_side_44 : decode cX8_side 44 = .ok (.aload_n 0, 1) := by decide +kernel
theorem dX8_side_45 : decode cX8_side 45 = .ok (.getfield 9, 3) := by decide +kernel
theorem dX8_side_48 : decode cX8_side 48 = .ok (.iload_n 2, 1) := by decide +kernel
theorem dX8_side_49 : decode cX8_side 49 = .ok (.laload, 1) := by decide +kernel
theorem dX8_side_50 : decode cX8_side 50 = .ok (.aload_n 0, 1) := by decide +kernel
theorem dX8_side_51 : decode cX8_side 51 = .ok (.getfield 9, 3) := by decide +kernel
theorem dX8_side_54 : decode cX8_side 54 = .ok (.iload_n 1, 1) := by decide +kernel
theorem dX8_side_55 : decode cX8_side 55 = .ok (.laload, 1) := by decide +kernel
theorem dX8_side_56 : decode cX8_side 56 = .ok (.lsub, 1) := by decide +kernel
theorem dX8_side_57 : decode cX8_side 57 = .ok (.lmul, 1) := by decide +kernel
theorem dX8_side_58 : decode cX8_side 58 = .ok (.lsub, 1) := by decide +kernel
theorem dX8_side_59 : decode cX8_side 59 = .ok (.lreturn, 1) := by decide +kernel
theorem dX9_sine_0 : decode cX9_sine 0 = .ok (.getstatic 9, 3) := by decide +kernel
theorem dX9_sine_3 : decode cX9_sine 3 = .ok (.iload_n 0, 1) := by decide +kernel
theorem dX9_sine_4 : decode cX9_sine 4 = .ok (.bipush 24, 2) := by decide +kernel
theorem dX9_sine_6 : decode cX9_sine 6 = .ok (.invokestatic 15, 3) := by decide +kernel
theorem dX9_sine_9 : decode cX9_sine 9 = .ok (.iaload, 1) := by decide +kernel
theorem dX9_sine_10 : decode cX9_sine 10 = .ok (.i2l, 1) := by decide +kernel
theorem dX9_sine_11 : decode cX9_sine 11 = .ok (.lreturn, 1) := by decide +kernel
theorem dX9_cosine_0 : decode cX9_cosine 0 = .ok (.getstatic 9, 3) := by decide +kernel
theorem dX9_cosine_3 : decode cX9_cosine 3 = .ok (.iload_n 0, 1) := by decide +kernel
theorem dX9_cosine_4 : decode cX9_cosine 4 = .ok (.bipush 6, 2) := by decide +kernel
theorem dX9_cosine_6 : decode cX9_cosine 6 = .ok (.iadd, 1) := by decide +kernel
theorem dX9_cosine_7 : decode cX9_cosine 7 = .ok (.bipush 24, 2) := by decide +kernel
theorem dX9_cosine_9 : decode cX9_cosine 9 = .ok (.invokestatic 15, 3) := by decide +kernel
theorem dX9_cosine_12 : decode cX9_cosine 12 = .ok (.iaload, 1) := by decide +kernel
theorem dX9_cosine_13 : decode cX9_cosine 13 = .ok (.i2l, 1) := by decide +kernel
theorem dX9_cosine_14 : decode cX9_cosine 14 = .ok (.lreturn, 1) := by decide +kernel
theorem dX9_turnX_0 : decode cX9_turnX 0 = .ok (.lload_n 0, 1) := by decide +kernel
theorem dX9_turnX_1 : decode cX9_turnX 1 = .ok (.iload 4, 2) := by decide +kernel
theorem dX9_turnX_3 : decode cX9_turnX 3 = .ok (.invokestatic 21, 3) := by decide +kernel
theorem dX9_turnX_6 : decode cX9_turnX 6 = .ok (.lmul, 1) := by decide +kernel
theorem dX9_turnX_7 : decode cX9_turnX 7 = .ok (.lload_n 2, 1) := by decide +kernel
theorem dX9_turnX_8 : decode cX9_turnX 8 = .ok (.iload 4, 2) := by decide +kernel
theorem dX9_turnX_10 : decode cX9_turnX 10 = .ok (.invokestatic 25, 3) := by decide +kernel
theorem dX9_turnX_13 : decode cX9_turnX 13 = .ok (.lmul, 1) := by decide +kernel
theorem dX9_turnX_14 : decode cX9_turnX 14 = .ok (.lsub, 1) := by decide +kernel
theorem dX9_turnX_15 : decode cX9_turnX 15 = .ok (.ldc2_w 28, 3) := by decide +kernel
theorem dX9_turnX_18 : decode cX9_turnX 18 = .ok (.ldiv, 1) := by decide +kernel
theorem dX9_turnX_19 : decode cX9_turnX 19 = .ok (.lreturn, 1) := by decide +kernel
theorem dX9_turnY_0 : decode cX9_turnY 0 = .ok (.lload_n 0, 1) := by decide +kernel
theorem dX9_turnY_1 : decode cX9_turnY 1 = .ok (.iload 4, 2) := by decide +kernel
theorem dX9_turnY_3 : decode cX9_turnY 3 = .ok (.invokestatic 25, 3) := by decide +kernel
theorem dX9_turnY_6 : decode cX9_turnY 6 = .ok (.lmul, 1) := by decide +kernel
theorem dX9_turnY_7 : decode cX9_turnY 7 = .ok (.lload_n 2, 1) := by decide +kernel
theorem dX9_turnY_8 : decode cX9_turnY 8 = .ok (.iload 4, 2) := by decide +kernel
theorem dX9_turnY_10 : decode cX9_turnY 10 = .ok (.invokestatic 21, 3) := by decide +kernel
theorem dX9_turnY_13 : decode cX9_turnY 13 = .ok (.lmul, 1) := by decide +kernel
theorem dX9_turnY_14 : decode cX9_turnY 14 = .ok (.ladd, 1) := by decide +kernel
theorem dX9_turnY_15 : decode cX9_turnY 15 = .ok (.ldc2_w 28, 3) := by decide +kernel
theorem dX9_turnY_18 : decode cX9_turnY 18 = .ok (.ldiv, 1) := by decide +kernel
theorem dX9_turnY_19 : decode cX9_turnY 19 = .ok (.lreturn, 1) := by decide +kernel
theorem dX10_init_0 : decode cX10_init 0 = .ok (.aload_n 0, 1) := by decide +kernel
theorem dX10_init_1 : decode cX10_init 1 = .ok (.invokespecial 1, 3) := by decide +kernel
theorem dX10_init_4 : decode cX10_init 4 = .ok (.aload_n 0, 1) := by decide +kernel
theorem dX10_init_5 : decode cX10_init 5 = .ok (.new 7, 3) := by decide +kernel
theorem dX10_init_8 : decode cX10_init 8 = .ok (.dup, 1) := by decide +kernel
theorem dX10_init_9 : decode cX10_init 9 = .ok (.invokespecial 9, 3) := by decide +kernel
theorem dX10_init_12 : decode cX10_init 12 = .ok (.putfield 10, 3) := by decide +kernel
theorem dX10_init_15 : decode cX10_init 15 = .ok (.aload_n 0, 1) := by decide +kernel
theorem dX10_init_16 : decode cX10_init 16 = .ok (.new 16, 3) := by decide +kernel
theorem dX10_init_19 : decode cX10_init 19 = .ok (.dup, 1) := by decide +kernel
theorem dX10_init_20 : decode cX10_init 20 = .ok (.invokespecial 18, 3) := by decide +kernel
theorem dX10_init_23 : decode cX10_init 23 = .ok (.putfield 19, 3) := by decide +kernel
theorem dX10_init_26 : decode cX10_init 26 = .ok (.aload_n 0, 1) := by decide +kernel
theorem dX10_init_27 : decode cX10_init 27 = .ok (.iconst 2, 1) := by decide +kernel
theorem dX10_init_28 : decode cX10_init 28 = .ok (.anewarray 16, 3) := by decide +kernel
theorem dX10_init_31 : decode cX10_init 31 = .ok (.putfield 23, 3) := by decide +kernel
theorem dX10_init_34 : decode cX10_init 34 = .ok (.aload_n 0, 1) := by decide +kernel
theorem dX10_init_35 : decode cX10_init 35 = .ok (.new 27, 3) := by decide +kernel
theorem dX10_init_38 : decode cX10_init 38 = .ok (.dup, 1) := by decide +kernel
theorem dX10_init_39 : decode cX10_init 39 = .ok (.invokespecial 29, 3) := by decide +kernel
theorem dX10_init_42 : decode cX10_init 42 = .ok (.putfield 30, 3) := by decide +kernel
theorem dX10_init_45 : decode cX10_init 45 = .ok (.aload_n 0, 1) := by decide +kernel
theorem dX10_init_46 : decode cX10_init 46 = .ok (.new 34, 3) := by decide +kernel
theorem dX10_init_49 : decode cX10_init 49 = .ok (.dup, 1) := by decide +kernel
theorem dX10_init_50 : decode cX10_init 50 = .ok (.invokespecial 36, 3) := by decide +kernel
theorem dX10_init_53 : decode cX10_init 53 = .ok (.putfield 37, 3) := by decide +kernel
theorem dX10_init_56 : decode cX10_init 56 = .ok (.aload_n 0, 1) := by decide +kernel
theorem dX10_init_57 : decode cX10_init 57 = .ok (.new 41, 3) := by decide +kernel
theorem dX10_init_60 : decode cX10_init 60 = .ok (.dup, 1) := by decide +kernel
theorem dX10_init_61 : decode cX10_init 61 = .ok (.invokespecial 43, 3) := by decide +kernel
theorem dX10_init_64 : decode cX10_init 64 = .ok (.putfield 44, 3) := by decide +kernel
theorem dX10_init_67 : decode cX10_init 67 = .ok (.aload_n 0, 1) := by decide +kernel
theorem dX10_init_68 : decode cX10_init 68 = .ok (.new 48, 3) := by decide +kernel
theorem dX10_init_71 : decode cX10_init 71 = .ok (.dup, 1) := by decide +kernel
theorem dX10_init_72 : decode cX10_init 72 = .ok (.invokespecial 50, 3) := by decide +kernel
theorem dX10_init_75 : decode cX10_init 75 = .ok (.putfield 51, 3) := by decide +kernel
theorem dX10_init_78 : decode cX10_init 78 = .ok (.aload_n 0, 1) := by decide +kernel
theorem dX10_init_79 : decode cX10_init 79 = .ok (.new 55, 3) := by decide +kernel
theorem dX10_init_82 : decode cX10_init 82 = .ok (.dup, 1) := by decide +kernel
theorem dX10_init_83 : decode cX10_init 83 = .ok (.invokespecial 57, 3) := by decide +kernel
theorem dX10_init_86 : decode cX10_init 86 = .ok (.putfield 58, 3) := by decide +kernel
theorem dX10_init_89 : decode cX10_init 89 = .ok (.return_, 1) := by decide +kernel
theorem dX10_set_0 : decode cX10_set 0 = .ok (.iload_n 1, 1) := by decide +kernel
theorem dX10_set_1 : decode cX10_set 1 = .ok (.iload_n 2, 1) := by decide +kernel
theorem dX10_set_2 : decode cX10_set 2 = .ok (.invokestatic 62, 3) := by decide +kernel
theorem dX10_set_5 : decode cX10_set 5 = .ok (.ifCond .ne 6, 3) := by decide +kernel
theorem dX10_set_8 : decode cX10_set 8 = .ok (.bipush (-2), 2) := by decide +kernel
theorem dX10_set_10 : decode cX10_set 10 = .ok (.ireturn, 1) := by decide +kernel
theorem dX10_set_11 : decode cX10_set 11 = .ok (.aload_n 0, 1) := by decide +kernel
theorem dX10_set_12 : decode cX10_set 12 = .ok (.getfield 19, 3) := by decide +kernel
theorem dX10_set_15 : decode cX10_set 15 = .ok (.getfield 66, 3) := by decide +kernel
theorem dX10_set_18 : decode cX10_set 18 = .ok (.iload_n 1, 1) := by decide +kernel
theorem dX10_set_19 : decode cX10_set 19 = .ok (.iaload, 1) := by decide +kernel
theorem dX10_set_20 : decode cX10_set 20 = .ok (.istore_n 3, 1) := by decide +kernel
theorem dX10_set_21 : decode cX10_set 21 = .ok (.aload_n 0, 1) := by decide +kernel
theorem dX10_set_22 : decode cX10_set 22 = .ok (.getfield 19, 3) := by decide +kernel
theorem dX10_set_25 : decode cX10_set 25 = .ok (.getfield 66, 3) := by decide +kernel
theorem dX10_set_28 : decode cX10_set 28 = .ok (.iload_n 1, 1) := by decide +kernel
theorem dX10_set_29 : decode cX10_set 29 = .ok (.iload_n 2, 1) := by decide +kernel
theorem dX10_set_30 : decode cX10_set 30 = .ok (.iastore, 1) := by decide +kernel
theorem dX10_set_31 : decode cX10_set 31 = .ok (.iload_n 3, 1) := by decide +kernel
theorem dX10_set_32 : decode cX10_set 32 = .ok (.ireturn, 1) := by decide +kernel
theorem dX10_say_0 : decode cX10_say 0 = .ok (.iload_n 1, 1) := by decide +kernel
theorem dX10_say_1 : decode cX10_say 1 = .ok (.bipush 33, 2) := by decide +kernel
theorem dX10_say_3 : decode cX10_say 3 = .ok (.bipush 126, 2) := by decide +kernel
theorem dX10_say_5 : decode cX10_say 5 = .ok (.invokestatic 70, 3) := by decide +kernel
theorem dX10_say_8 : decode cX10_say 8 = .ok (.ifCond .ne 6, 3) := by decide +kernel
theorem dX10_say_11 : decode cX10_say 11 = .ok (.bipush (-2), 2) := by decide +kernel
theorem dX10_say_13 : decode cX10_say 13 = .ok (.ireturn, 1) := by decide +kernel
theorem dX10_say_14 : decode cX10_say 14 = .ok (.aload_n 0, 1) := by decide +kernel
theorem dX10_say_15 : decode cX10_say 15 = .ok (.getfield 10, 3) := by decide +kernel
theorem dX10_say_18 : decode cX10_say 18 = .ok (.iload_n 1, 1) := by decide +kernel
theorem dX10_say_19 : decode cX10_say 19 = .ok (.invokevirtual 74, 3) := by decide +kernel
theorem dX10_say_22 : decode cX10_say 22 = .ok (.ifCond .eq 13, 3) := by decide +kernel
theorem dX10_say_25 : decode cX10_say 25 = .ok (.aload_n 0, 1) := by decide +kernel
theorem dX10_say_26 : decode cX10_say 26 = .ok (.getfield 10, 3) := by decide +kernel
theorem dX10_say_29 : decode cX10_say 29 = .ok (.getfield 78, 3) := by decide +kernel
theorem dX10_say_32 : decode cX10_say 32 = .ok (.goto 5, 3) := by decide +kernel
theorem dX10_say_35 : decode cX10_say 35 = .ok (.bipush (-4), 2) := by decide +kernel
theorem dX10_say_37 : decode cX10_say 37 = .ok (.ireturn, 1) := by decide +kernel
theorem dX10_wipe_0 : decode cX10_wipe 0 = .ok (.aload_n 0, 1) := by decide +kernel
theorem dX10_wipe_1 : decode cX10_wipe 1 = .ok (.getfield 10, 3) := by decide +kernel
theorem dX10_wipe_4 : decode cX10_wipe 4 = .ok (.getfield 78, 3) := by decide +kernel
theorem dX10_wipe_7 : decode cX10_wipe 7 = .ok (.istore_n 1, 1) := by decide +kernel
theorem dX10_wipe_8 : decode cX10_wipe 8 = .ok (.aload_n 0, 1) := by decide +kernel
theorem dX10_wipe_9 : decode cX10_wipe 9 = .ok (.getfield 10, 3) := by decide +kernel
theorem dX10_wipe_12 : decode cX10_wipe 12 = .ok (.iconst 0, 1) := by decide +kernel
theorem dX10_wipe_13 : decode cX10_wipe 13 = .ok (.putfield 78, 3) := by decide +kernel
theorem dX10_wipe_16 : decode cX10_wipe 16 = .ok (.iload_n 1, 1) := by decide +kernel
theorem dX10_wipe_17 : decode cX10_wipe 17 = .ok (.ireturn, 1) := by decide +kernel
theorem dX10_fault_0 : decode cX10_fault 0 = .ok (.aload_n 0, 1) := by decide +kernel
theorem dX10_fault_1 : decode cX10_fault 1 = .ok (.getfield 10, 3) := by decide +kernel
theorem dX10_fault_4 : decode cX10_fault 4 = .ok (.invokevirtual 82, 3) := by decide +kernel
theorem dX10_fault_7 : decode cX10_fault 7 = .ok (.ireturn, 1) := by decide +kernel
theorem dX10_push_0 : decode cX10_push 0 = .ok (.aload_n 0, 1) := by decide +kernel
theorem dX10_push_1 : decode cX10_push 1 = .ok (.getfield 10, 3) := by decide +kernel
theorem dX10_push_4 : decode cX10_push 4 = .ok (.invokevirtual 82, 3) := by decide +kernel
theorem dX10_push_7 : decode cX10_push 7 = .ok (.bipush (-6), 2) := by decide +kernel
theorem dX10_push_9 : decode cX10_push 9 = .ok (.if_icmp .eq 6, 3) := by decide +kernel
theorem dX10_push_12 : decode cX10_push 12 = .ok (.bipush (-5), 2) := by decide +kernel
theorem dX10_push_14 : decode cX10_push 14 = .ok (.ireturn, 1) := by decide +kernel
theorem dX10_push_15 : decode cX10_push 15 = .ok (.aload_n 0, 1) := by decide +kernel
theorem dX10_push_16 : decode cX10_push 16 = .ok (.getfield 19, 3) := by decide +kernel
theorem dX10_push_19 : decode cX10_push 19 = .ok (.getfield 86, 3) := by decide +kernel
theorem dX10_push_22 : decode cX10_push 22 = .ok (.aload_n 0, 1) := by decide +kernel
theorem dX10_push_23 : decode cX10_push 23 = .ok (.getfield 10, 3) := by decide +kernel
theorem dX10_push_26 : decode cX10_push 26 = .ok (.invokevirtual 90, 3) := by decide +kernel
theorem dX10_push_29 : decode cX10_push 29 = .ok (.aload_n 0, 1) := by decide +kernel
theorem dX10_push_30 : decode cX10_push 30 = .ok (.getfield 10, 3) := by decide +kernel
theorem dX10_push_33 : decode cX10_push 33 = .ok (.iconst 0, 1) := by decide +kernel
theorem dX10_push_34 : decode cX10_push 34 = .ok (.putfield 78, 3) := by decide +kernel
theorem dX10_push_37 : decode cX10_push 37 = .ok (.aload_n 0, 1) := by decide +kernel
theorem dX10_push_38 : decode cX10_push 38 = .ok (.getfield 19, 3) := by decide +kernel
theorem dX10_push_41 : decode cX10_push 41 = .ok (.getfield 86, 3) := by decide +kernel
theorem dX10_push_44 : decode cX10_push 44 = .ok (.getfield 96, 3) := by decide +kernel
theorem dX10_push_47 : decode cX10_push 47 = .ok (.ireturn, 1) := by decide +kernel
theorem dX10_turn_0 : decode cX10_turn 0 = .ok (.iload_n 1, 1) := by decide +kernel
theorem dX10_turn_1 : decode cX10_turn 1 = .ok (.invokestatic 99, 3) := by decide +kernel
theorem dX10_turn_4 : decode cX10_turn 4 = .ok (.ifCond .eq 12, 3) := by decide +kernel
theorem dX10_turn_7 : decode cX10_turn 7 = .ok (.iload_n 2, 1) := by decide +kernel
theorem dX10_turn_8 : decode cX10_turn 8 = .ok (.iconst 0, 1) := by decide +kernel
theorem dX10_turn_9 : decode cX10_turn 9 = .ok (.iconst 1, 1) := by decide +kernel
theorem dX10_turn_10 : decode cX10_turn 10 = .ok (.invokestatic 70, 3) := by decide +kernel
theorem dX10_turn_13 : decode cX10_turn 13 = .ok (.ifCond .ne 6, 3) := by decide +kernel
theorem dX10_turn_16 : decode cX10_turn 16 = .ok (.bipush (-2), 2) := by decide +kernel
theorem dX10_turn_18 : decode cX10_turn 18 = .ok (.ireturn, 1) := by decide +kernel
theorem dX10_turn_19 : decode cX10_turn 19 = .ok (.aload_n 0, 1) := by decide +kernel
theorem dX10_turn_20 : decode cX10_turn 20 = .ok (.getfield 30, 3) := by decide +kernel
theorem dX10_turn_23 : decode cX10_turn 23 = .ok (.aload_n 0, 1) := by decide +kernel
theorem dX10_turn_24 : decode cX10_turn 24 = .ok (.getfield 19, 3) := by decide +kernel
theorem dX10_turn_27 : decode cX10_turn 27 = .ok (.aload_n 0, 1) := by decide +kernel
theorem dX10_turn_28 : decode cX10_turn 28 = .ok (.getfield 19, 3) := by decide +kernel
theorem dX10_turn_31 : decode cX10_turn 31 = .ok (.invokevirtual 102, 3) := by decide +kernel
theorem dX10_turn_34 : decode cX10_turn 34 = .ok (.invokevirtual 105, 3) := by decide +kernel
theorem dX10_turn_37 : decode cX10_turn 37 = .ok (.iload_n 2, 1) := by decide +kernel
theorem dX10_turn_38 : decode cX10_turn 38 = .ok (.ifCond .ne 15, 3) := by decide +kernel
theorem dX10_turn_41 : decode cX10_turn 41 = .ok (.aload_n 0, 1) := by decide +kernel
theorem dX10_turn_42 : decode cX10_turn 42 = .ok (.getfield 30, 3) := by decide +kernel
theorem dX10_turn_45 : decode cX10_turn 45 = .ok (.getfield 109, 3) := by decide +kernel
theorem dX10_turn_48 : decode cX10_turn 48 = .ok (.iload_n 1, 1) := by decide +kernel
theorem dX10_turn_49 : decode cX10_turn 49 = .ok (.iaload, 1) := by decide +kernel
theorem dX10_turn_50 : decode cX10_turn 50 = .ok (.goto 15, 3) := by decide +kernel
theorem dX10_turn_53 : decode cX10_turn 53 = .ok (.aload_n 0, 1) := by decide +kernel
theorem dX10_turn_54 : decode cX10_turn 54 = .ok (.getfield 30, 3) := by decide +kernel
theorem dX10_turn_57 : decode cX10_turn 57 = .ok (.getfield 112, 3) := by decide +kernel
theorem dX10_turn_60 : decode cX10_turn 60 = .ok (.iload_n 1, 1) := by decide +kernel
theorem dX10_turn_61 : decode cX10_turn 61 = .ok (.iaload, 1) := by decide +kernel
theorem dX10_turn_62 : decode cX10_turn 62 = .ok (.bipush 100, 2) := by decide +kernel
theorem dX10_turn_64 : decode cX10_turn 64 = .ok (.iadd, 1) := by decide +kernel
theorem dX10_turn_65 : decode cX10_turn 65 = .ok (.ireturn, 1) := by decide +kernel
theorem dX10_sit_0 : decode cX10_sit 0 = .ok (.iload_n 1, 1) := by decide +kernel
theorem dX10_sit_1 : decode cX10_sit 1 = .ok (.iconst 0, 1) := by decide +kernel
theorem dX10_sit_2 : decode cX10_sit 2 = .ok (.sipush 1000, 3) := by decide +kernel
theorem dX10_sit_5 : decode cX10_sit 5 = .ok (.invokestatic 70, 3) := by decide +kernel
theorem dX10_sit_8 : decode cX10_sit 8 = .ok (.ifCond .eq 10, 3) := by decide +kernel
theorem dX10_sit_11 : decode cX10_sit 11 = .ok (.iload_n 2, 1) := by decide +kernel
theorem dX10_sit_12 : decode cX10_sit 12 = .ok (.invokestatic 115, 3) := by decide +kernel
theorem dX10_sit_15 : decode cX10_sit 15 = .ok (.ifCond .ne 6, 3) := by decide +kernel
theorem dX10_sit_18 : decode cX10_sit 18 = .ok (.bipush (-2), 2) := by decide +kernel
theorem dX10_sit_20 : decode cX10_sit 20 = .ok (.ireturn, 1) := by decide +kernel
theorem dX10_sit_21 : decode cX10_sit 21 = .ok (.aload_n 0, 1) := by decide +kernel
theorem dX10_sit_22 : decode cX10_sit 22 = .ok (.getfield 19, 3) := by decide +kernel
theorem dX10_sit_25 : decode cX10_sit 25 = .ok (.getfield 118, 3) := by decide +kernel
theorem dX10_sit_28 : decode cX10_sit 28 = .ok (.bipush 8, 2) := by decide +kernel
theorem dX10_sit_30 : decode cX10_sit 30 = .ok (.if_icmp .ne 6, 3) := by decide +kernel
theorem dX10_sit_33 : decode cX10_sit 33 = .ok (.bipush (-4), 2) := by decide +kernel
theorem dX10_sit_35 : decode cX10_sit 35 = .ok (.ireturn, 1) := by decide +kernel
theorem dX10_sit_36 : decode cX10_sit 36 = .ok (.aload_n 0, 1) := by decide +kernel
theorem dX10_sit_37 : decode cX10_sit 37 = .ok (.getfield 19, 3) := by decide +kernel
theorem dX10_sit_40 : decode cX10_sit 40 = .ok (.iload_n 1, 1) := by decide +kernel
theorem dX10_sit_41 : decode cX10_sit 41 = .ok (.iload_n 2, 1) := by decide +kernel
theorem dX10_sit_42 : decode cX10_sit 42 = .ok (.invokevirtual 121, 3) := by decide +kernel
theorem dX10_sit_45 : decode cX10_sit 45 = .ok (.ireturn, 1) := by decide +kernel
theorem dX10_point_0 : decode cX10_point 0 = .ok (.aload_n 0, 1) := by decide +kernel
theorem dX10_point_1 : decode cX10_point 1 = .ok (.getfield 19, 3) := by decide +kernel
theorem dX10_point_4 : decode cX10_point 4 = .ok (.iload_n 1, 1) := by decide +kernel
theorem dX10_point_5 : decode cX10_point 5 = .ok (.invokevirtual 125, 3) := by decide +kernel
theorem dX10_point_8 : decode cX10_point 8 = .ok (.ifCond .ne 6, 3) := by decide +kernel
theorem dX10_point_11 : decode cX10_point 11 = .ok (.ldc 128, 2) := by decide +kernel
theorem dX10_point_13 : decode cX10_point 13 = .ok (.ireturn, 1) := by decide +kernel
theorem dX10_point_14 : decode cX10_point 14 = .ok (.iload_n 2, 1) := by decide +kernel
theorem dX10_point_15 : decode cX10_point 15 = .ok (.invokestatic 99, 3) := by decide +kernel
theorem dX10_point_18 : decode cX10_point 18 = .ok (.ifCond .eq 12, 3) := by decide +kernel
theorem dX10_point_21 : decode cX10_point 21 = .ok (.iload_n 3, 1) := by decide +kernel
theorem dX10_point_22 : decode cX10_point 22 = .ok (.iconst 0, 1) := by decide +kernel
theorem dX10_point_23 : decode cX10_point 23 = .ok (.iconst 3, 1) := by decide +kernel
theorem dX10_point_24 : decode cX10_point 24 = .ok (.invokestatic 70, 3) := by decide +kernel
theorem dX10_point_27 : decode cX10_point 27 = .ok (.ifCond .ne 6, 3) := by decide +kernel
theorem dX10_point_30 : decode cX10_point 30 = .ok (.ldc 129, 2) := by decide +kernel
theorem dX10_point_32 : decode cX10_point 32 = .ok (.ireturn, 1) := by decide +kernel
theorem dX10_point_33 : decode cX10_point 33 = .ok (.aload_n 0, 1) := by decide +kernel
theorem dX10_point_34 : decode cX10_point 34 = .ok (.getfield 19, 3) := by decide +kernel
theorem dX10_point_37 : decode cX10_point 37 = .ok (.getfield 130, 3) := by decide +kernel
theorem dX10_point_40 : decode cX10_point 40 = .ok (.iload_n 1, 1) := by decide +kernel
theorem dX10_point_41 : decode cX10_point 41 = .ok (.iaload, 1) := by decide +kernel
theorem dX10_point_42 : decode cX10_point 42 = .ok (.istore 4, 2) := by decide +kernel
theorem dX10_point_44 : decode cX10_point 44 = .ok (.aload_n 0, 1) := by decide +kernel
theorem dX10_point_45 : decode cX10_point 45 = .ok (.getfield 19, 3) := by decide +kernel
theorem dX10_point_48 : decode cX10_point 48 = .ok (.getfield 133, 3) := by decide +kernel
theorem dX10_point_51 : decode cX10_point 51 = .ok (.iload_n 1, 1) := by decide +kernel
theorem dX10_point_52 : decode cX10_point 52 = .ok (.iaload, 1) := by decide +kernel
theorem dX10_point_53 : decode cX10_point 53 = .ok (.istore 5, 2) := by decide +kernel
theorem dX10_point_55 : decode cX10_point 55 = .ok (.iload_n 3, 1) := by decide +kernel
theorem dX10_point_56 : decode cX10_point 56 = .ok (.iconst 2, 1) := by decide +kernel
theorem dX10_point_57 : decode cX10_point 57 = .ok (.if_icmp .ge 15, 3) := by decide +kernel
theorem dX10_point_60 : decode cX10_point 60 = .ok (.iload_n 3, 1) := by decide +kernel
theorem dX10_point_61 : decode cX10_point 61 = .ok (.ifCond .ne 8, 3) := by decide +kernel
theorem dX10_point_64 : decode cX10_point 64 = .ok (.iload 4, 2) := by decide +kernel
theorem dX10_point_66 : decode cX10_point 66 = .ok (.goto 5, 3) := by decide +kernel
theorem dX10_point_69 : decode cX10_point 69 = .ok (.iload 5, 2) := by decide +kernel
theorem dX10_point_71 : decode cX10_point 71 = .ok (.ireturn, 1) := by decide +kernel
theorem dX10_point_72 : decode cX10_point 72 = .ok (.aload_n 0, 1) := by decide +kernel
theorem dX10_point_73 : decode cX10_point 73 = .ok (.getfield 30, 3) := by decide +kernel
theorem dX10_point_76 : decode cX10_point 76 = .ok (.aload_n 0, 1) := by decide +kernel
theorem dX10_point_77 : decode cX10_point 77 = .ok (.getfield 19, 3) := by decide +kernel
theorem dX10_point_80 : decode cX10_point 80 = .ok (.aload_n 0, 1) := by decide +kernel
theorem dX10_point_81 : decode cX10_point 81 = .ok (.getfield 19, 3) := by decide +kernel
theorem dX10_point_84 : decode cX10_point 84 = .ok (.invokevirtual 102, 3) := by decide +kernel
theorem dX10_point_87 : decode cX10_point 87 = .ok (.invokevirtual 105, 3) := by decide +kernel
theorem dX10_point_90 : decode cX10_point 90 = .ok (.aload_n 0, 1) := by decide +kernel
theorem dX10_point_91 : decode cX10_point 91 = .ok (.getfield 30, 3) := by decide +kernel
theorem dX10_point_94 : decode cX10_point 94 = .ok (.iload_n 2, 1) := by decide +kernel
theorem dX10_point_95 : decode cX10_point 95 = .ok (.invokevirtual 136, 3) := by decide +kernel
theorem dX10_point_98 : decode cX10_point 98 = .ok (.istore 6, 2) := by decide +kernel
theorem dX10_point_100 : decode cX10_point 100 = .ok (.iload_n 3, 1) := by decide +kernel
theorem dX10_point_101 : decode cX10_point 101 = .ok (.iconst 2, 1) := by decide +kernel
theorem dX10_point_102 : decode cX10_point 102 = .ok (.if_icmp .ne 17, 3) := by decide +kernel
theorem dX10_point_105 : decode cX10_point 105 = .ok (.iload 4, 2) := by decide +kernel
theorem dX10_point_107 : decode cX10_point 107 = .ok (.i2l, 1) := by decide +kernel
theorem dX10_point_108 : decode cX10_point 108 = .ok (.iload 5, 2) := by decide +kernel
theorem dX10_point_110 : decode cX10_point 110 = .ok (.i2l, 1) := by decide +kernel
theorem dX10_point_111 : decode cX10_point 111 = .ok (.iload 6, 2) := by decide +kernel
theorem dX10_point_113 : decode cX10_point 113 = .ok (.invokestatic 140, 3) := by decide +kernel
theorem dX10_point_116 : decode cX10_point 116 = .ok (.goto 14, 3) := by decide +kernel
theorem dX10_point_119 : decode cX10_point 119 = .ok (.iload 4, 2) := by decide +kernel
theorem dX10_point_121 : decode cX10_point 121 = .ok (.i2l, 1) := by decide +kernel
theorem dX10_point_122 : decode cX10_point 122 = .ok (.iload 5, 2) := by decide +kernel
theorem dX10_point_124 : decode cX10_point 124 = .ok (.i2l, 1) := by decide +kernel
theorem dX10_point_125 : decode cX10_point 125 = .ok (.iload 6, 2) := by decide +kernel
theorem dX10_point_127 : decode cX10_point 127 = .ok (.invokestatic 146, 3) := by decide +kernel
theorem dX10_point_130 : decode cX10_point 130 = .ok (.l2i, 1) := by decide +kernel
theorem dX10_point_131 : decode cX10_point 131 = .ok (.ireturn, 1) := by decide +kernel
theorem dX10_ball_0 : decode cX10_ball 0 = .ok (.aload_n 0, 1) := by decide +kernel
theorem dX10_ball_1 : decode cX10_ball 1 = .ok (.getfield 19, 3) := by decide +kernel
theorem dX10_ball_4 : decode cX10_ball 4 = .ok (.iload_n 1, 1) := by decide +kernel
theorem dX10_ball_5 : decode cX10_ball 5 = .ok (.invokevirtual 125, 3) := by decide +kernel
theorem dX10_ball_8 : decode cX10_ball 8 = .ok (.ifCond .ne 6, 3) := by decide +kernel
theorem dX10_ball_11 : decode cX10_ball 11 = .ok (.ldc 128, 2) := by decide +kernel
theorem dX10_ball_13 : decode cX10_ball 13 = .ok (.ireturn, 1) := by decide +kernel
theorem dX10_ball_14 : decode cX10_ball 14 = .ok (.iload_n 2, 1) := by decide +kernel
theorem dX10_ball_15 : decode cX10_ball 15 = .ok (.iload_n 3, 1) := by decide +kernel
theorem dX10_ball_16 : decode cX10_ball 16 = .ok (.invokestatic 149, 3) := by decide +kernel
theorem dX10_ball_19 : decode cX10_ball 19 = .ok (.ifCond .eq 21, 3) := by decide +kernel
theorem dX10_ball_22 : decode cX10_ball 22 = .ok (.iload 4, 2) := by decide +kernel
theorem dX10_ball_24 : decode cX10_ball 24 = .ok (.invokestatic 99, 3) := by decide +kernel
theorem dX10_ball_27 : decode cX10_ball 27 = .ok (.ifCond .eq 13, 3) := by decide +kernel
theorem dX10_ball_30 : decode cX10_ball 30 = .ok (.iload 5, 2) := by decide +kernel
theorem dX10_ball_32 : decode cX10_ball 32 = .ok (.iconst 0, 1) := by decide +kernel
theorem dX10_ball_33 : decode cX10_ball 33 = .ok (.iconst 3, 1) := by decide +kernel
theorem dX10_ball_34 : decode cX10_ball 34 = .ok (.invokestatic 70, 3) := by decide +kernel
theorem dX10_ball_37 : decode cX10_ball 37 = .ok (.ifCond .ne 6, 3) := by decide +kernel
theorem dX10_ball_40 : decode cX10_ball 40 = .ok (.ldc 129, 2) := by decide +kernel
theorem dX10_ball_42 : decode cX10_ball 42 = .ok (.ireturn, 1) := by decide +kernel
theorem dX10_ball_43 : decode cX10_ball 43 = .ok (.aload_n 0, 1) := by decide +kernel
theorem dX10_ball_44 : decode cX10_ball 44 = .ok (.getfield 30, 3) := by decide +kernel
theorem dX10_ball_47 : decode cX10_ball 47 = .ok (.aload_n 0, 1) := by decide +kernel
theorem dX10_ball_48 : decode cX10_ball 48 = .ok (.getfield 19, 3) := by decide +kernel
theorem dX10_ball_51 : decode cX10_ball 51 = .ok (.aload_n 0, 1) := by decide +kernel
theorem dX10_ball_52 : decode cX10_ball 52 = .ok (.getfield 19, 3) := by decide +kernel
theorem dX10_ball_55 : decode cX10_ball 55 = .ok (.invokevirtual 102, 3) := by decide +kernel
theorem dX10_ball_58 : decode cX10_ball 58 = .ok (.invokevirtual 105, 3) := by decide +kernel
theorem dX10_ball_61 : decode cX10_ball 61 = .ok (.aload_n 0, 1) := by decide +kernel
theorem dX10_ball_62 : decode cX10_ball 62 = .ok (.getfield 37, 3) := by decide +kernel
theorem dX10_ball_65 : decode cX10_ball 65 = .ok (.aload_n 0, 1) := by decide +kernel
theorem dX10_ball_66 : decode cX10_ball 66 = .ok (.getfield 19, 3) := by decide +kernel
theorem dX10_ball_69 : decode cX10_ball 69 = .ok (.getfield 130, 3) := by decide +kernel
theorem dX10_ball_72 : decode cX10_ball 72 = .ok (.iload_n 1, 1) := by decide +kernel
theorem dX10_ball_73 : decode cX10_ball 73 = .ok (.iaload, 1) := by decide +kernel
theorem dX10_ball_74 : decode cX10_ball 74 = .ok (.aload_n 0, 1) := by decide +kernel
theorem dX10_ball_75 : decode cX10_ball 75 = .ok (.getfield 19, 3) := by decide +kernel
theorem dX10_ball_78 : decode cX10_ball 78 = .ok (.getfield 133, 3) := by decide +kernel
theorem dX10_ball_81 : decode cX10_ball 81 = .ok (.iload_n 1, 1) := by decide +kernel
theorem dX10_ball_82 : decode cX10_ball 82 = .ok (.iaload, 1) := by decide +kernel
theorem dX10_ball_83 : decode cX10_ball 83 = .ok (.iload_n 2, 1) := by decide +kernel
theorem dX10_ball_84 : decode cX10_ball 84 = .ok (.iload_n 3, 1) := by decide +kernel
theorem dX10_ball_85 : decode cX10_ball 85 = .ok (.aload_n 0, 1) := by decide +kernel
theorem dX10_ball_86 : decode cX10_ball 86 = .ok (.getfield 30, 3) := by decide +kernel
theorem dX10_ball_89 : decode cX10_ball 89 = .ok (.invokevirtual 152, 3) := by decide +kernel
theorem dX10_ball_92 : decode cX10_ball 92 = .ok (.aload_n 0, 1) := by decide +kernel
theorem dX10_ball_93 : decode cX10_ball 93 = .ok (.getfield 37, 3) := by decide +kernel
theorem dX10_ball_96 : decode cX10_ball 96 = .ok (.iload 4, 2) := by decide +kernel
theorem dX10_ball_98 : decode cX10_ball 98 = .ok (.invokevirtual 156, 3) := by decide +kernel
theorem dX10_ball_101 : decode cX10_ball 101 = .ok (.lstore 6, 2) := by decide +kernel
theorem dX10_ball_103 : decode cX10_ball 103 = .ok (.aload_n 0, 1) := by decide +kernel
theorem dX10_ball_104 : decode cX10_ball 104 = .ok (.getfield 37, 3) := by decide +kernel
theorem dX10_ball_107 : decode cX10_ball 107 = .ok (.iload 4, 2) := by decide +kernel
theorem dX10_ball_109 : decode cX10_ball 109 = .ok (.invokevirtual 160, 3) := by decide +kernel
theorem dX10_ball_112 : decode cX10_ball 112 = .ok (.lstore 8, 2) := by decide +kernel
theorem dX10_ball_114 : decode cX10_ball 114 = .ok (.aload_n 0, 1) := by decide +kernel
theorem dX10_ball_115 : decode cX10_ball 115 = .ok (.getfield 30, 3) := by decide +kernel
theorem dX10_ball_118 : decode cX10_ball 118 = .ok (.iload 4, 2) := by decide +kernel
theorem dX10_ball_120 : decode cX10_ball 120 = .ok (.invokevirtual 163, 3) := by decide +kernel
theorem dX10_ball_123 : decode cX10_ball 123 = .ok (.istore 10, 2) := by decide +kernel
theorem dX10_ball_125 : decode cX10_ball 125 = .ok (.iload 5, 2) := by decide +kernel
theorem dX10_ball_127 : decode cX10_ball 127 = .ok (.tableswitch 44 0 2 #[25, 29, 33], 25) := by decide +kernel
theorem dX10_ball_152 : decode cX10_ball 152 = .ok (.lload 6, 2) := by decide +kernel
theorem dX10_ball_154 : decode cX10_ball 154 = .ok (.l2i, 1) := by decide +kernel
theorem dX10_ball_155 : decode cX10_ball 155 = .ok (.ireturn, 1) := by decide +kernel
theorem dX10_ball_156 : decode cX10_ball 156 = .ok (.lload 8, 2) := by decide +kernel
theorem dX10_ball_158 : decode cX10_ball 158 = .ok (.l2i, 1) := by decide +kernel
theorem dX10_ball_159 : decode cX10_ball 159 = .ok (.ireturn, 1) := by decide +kernel
theorem dX10_ball_160 : decode cX10_ball 160 = .ok (.lload 6, 2) := by decide +kernel
theorem dX10_ball_162 : decode cX10_ball 162 = .ok (.lload 8, 2) := by decide +kernel
theorem dX10_ball_164 : decode cX10_ball 164 = .ok (.iload 10, 2) := by decide +kernel
theorem dX10_ball_166 : decode cX10_ball 166 = .ok (.invokestatic 140, 3) := by decide +kernel
theorem dX10_ball_169 : decode cX10_ball 169 = .ok (.l2i, 1) := by decide +kernel
theorem dX10_ball_170 : decode cX10_ball 170 = .ok (.ireturn, 1) := by decide +kernel
theorem dX10_ball_171 : decode cX10_ball 171 = .ok (.lload 6, 2) := by decide +kernel
theorem dX10_ball_173 : decode cX10_ball 173 = .ok (.lload 8, 2) := by decide +kernel
theorem dX10_ball_175 : decode cX10_ball 175 = .ok (.iload 10, 2) := by decide +kernel
theorem dX10_ball_177 : decode cX10_ball 177 = .ok (.invokestatic 146, 3) := by decide +kernel
theorem dX10_ball_180 : decode cX10_ball 180 = .ok (.l2i, 1) := by decide +kernel
theorem dX10_ball_181 : decode cX10_ball 181 = .ok (.ireturn, 1) := by decide +kernel
theorem dX10_caught_0 : decode cX10_caught 0 = .ok (.aload_n 0, 1) := by decide +kernel
theorem dX10_caught_1 : decode cX10_caught 1 = .ok (.getfield 19, 3) := by decide +kernel
theorem dX10_caught_4 : decode cX10_caught 4 = .ok (.iload_n 1, 1) := by decide +kernel
theorem dX10_caught_5 : decode cX10_caught 5 = .ok (.invokevirtual 125, 3) := by decide +kernel
theorem dX10_caught_8 : decode cX10_caught 8 = .ok (.ifCond .eq 15, 3) := by decide +kernel
theorem dX10_caught_11 : decode cX10_caught 11 = .ok (.aload_n 0, 1) := by decide +kernel
theorem dX10_caught_12 : decode cX10_caught 12 = .ok (.getfield 19, 3) := by decide +kernel
theorem dX10_caught_15 : decode cX10_caught 15 = .ok (.iload 4, 2) := by decide +kernel
theorem dX10_caught_17 : decode cX10_caught 17 = .ok (.invokevirtual 125, 3) := by decide +kernel
theorem dX10_caught_20 : decode cX10_caught 20 = .ok (.ifCond .ne 5, 3) := by decide +kernel
theorem dX10_caught_23 : decode cX10_caught 23 = .ok (.iconst (-1), 1) := by decide +kernel
theorem dX10_caught_24 : decode cX10_caught 24 = .ok (.ireturn, 1) := by decide +kernel
theorem dX10_caught_25 : decode cX10_caught 25 = .ok (.iload_n 2, 1) := by decide +kernel
theorem dX10_caught_26 : decode cX10_caught 26 = .ok (.iload_n 3, 1) := by decide +kernel
theorem dX10_caught_27 : decode cX10_caught 27 = .ok (.invokestatic 149, 3) := by decide +kernel
theorem dX10_caught_30 : decode cX10_caught 30 = .ok (.ifCond .ne 6, 3) := by decide +kernel
theorem dX10_caught_33 : decode cX10_caught 33 = .ok (.bipush (-2), 2) := by decide +kernel
theorem dX10_caught_35 : decode cX10_caught 35 = .ok (.ireturn, 1) := by decide +kernel
theorem dX10_caught_36 : decode cX10_caught 36 = .ok (.aload_n 0, 1) := by decide +kernel
theorem dX10_caught_37 : decode cX10_caught 37 = .ok (.getfield 30, 3) := by decide +kernel
theorem dX10_caught_40 : decode cX10_caught 40 = .ok (.aload_n 0, 1) := by decide +kernel
theorem dX10_caught_41 : decode cX10_caught 41 = .ok (.getfield 19, 3) := by decide +kernel
theorem dX10_caught_44 : decode cX10_caught 44 = .ok (.aload_n 0, 1) := by decide +kernel
theorem dX10_caught_45 : decode cX10_caught 45 = .ok (.getfield 19, 3) := by decide +kernel
theorem dX10_caught_48 : decode cX10_caught 48 = .ok (.invokevirtual 102, 3) := by decide +kernel
theorem dX10_caught_51 : decode cX10_caught 51 = .ok (.invokevirtual 105, 3) := by decide +kernel
theorem dX10_caught_54 : decode cX10_caught 54 = .ok (.aload_n 0, 1) := by decide +kernel
theorem dX10_caught_55 : decode cX10_caught 55 = .ok (.getfield 44, 3) := by decide +kernel
theorem dX10_caught_58 : decode cX10_caught 58 = .ok (.aload_n 0, 1) := by decide +kernel
theorem dX10_caught_59 : decode cX10_caught 59 = .ok (.getfield 19, 3) := by decide +kernel
theorem dX10_caught_62 : decode cX10_caught 62 = .ok (.getfield 130, 3) := by decide +kernel
theorem dX10_caught_65 : decode cX10_caught 65 = .ok (.iload 4, 2) := by decide +kernel
theorem dX10_caught_67 : decode cX10_caught 67 = .ok (.iaload, 1) := by decide +kernel
theorem dX10_caught_68 : decode cX10_caught 68 = .ok (.aload_n 0, 1) := by decide +kernel
theorem dX10_caught_69 : decode cX10_caught 69 = .ok (.getfield 19, 3) := by decide +kernel
theorem dX10_caught_72 : decode cX10_caught 72 = .ok (.getfield 133, 3) := by decide +kernel
theorem dX10_caught_75 : decode cX10_caught 75 = .ok (.iload 4, 2) := by decide +kernel
theorem dX10_caught_77 : decode cX10_caught 77 = .ok (.iaload, 1) := by decide +kernel
theorem dX10_caught_78 : decode cX10_caught 78 = .ok (.aload_n 0, 1) := by decide +kernel
theorem dX10_caught_79 : decode cX10_caught 79 = .ok (.getfield 30, 3) := by decide +kernel
theorem dX10_caught_82 : decode cX10_caught 82 = .ok (.invokevirtual 166, 3) := by decide +kernel
theorem dX10_caught_85 : decode cX10_caught 85 = .ok (.aload_n 0, 1) := by decide +kernel
theorem dX10_caught_86 : decode cX10_caught 86 = .ok (.getfield 37, 3) := by decide +kernel
theorem dX10_caught_89 : decode cX10_caught 89 = .ok (.aload_n 0, 1) := by decide +kernel
theorem dX10_caught_90 : decode cX10_caught 90 = .ok (.getfield 19, 3) := by decide +kernel
theorem dX10_caught_93 : decode cX10_caught 93 = .ok (.getfield 130, 3) := by decide +kernel
theorem dX10_caught_96 : decode cX10_caught 96 = .ok (.iload_n 1, 1) := by decide +kernel
theorem dX10_caught_97 : decode cX10_caught 97 = .ok (.iaload, 1) := by decide +kernel
theorem dX10_caught_98 : decode cX10_caught 98 = .ok (.aload_n 0, 1) := by decide +kernel
theorem dX10_caught_99 : decode cX10_caught 99 = .ok (.getfield 19, 3) := by decide +kernel
theorem dX10_caught_102 : decode cX10_caught 102 = .ok (.getfield 133, 3) := by decide +kernel
theorem dX10_caught_105 : decode cX10_caught 105 = .ok (.iload_n 1, 1) := by decide +kernel
theorem dX10_caught_106 : decode cX10_caught 106 = .ok (.iaload, 1) := by decide +kernel
theorem dX10_caught_107 : decode cX10_caught 107 = .ok (.iload_n 2, 1) := by decide +kernel
theorem dX10_caught_108 : decode cX10_caught 108 = .ok (.iload_n 3, 1) := by decide +kernel
theorem dX10_caught_109 : decode cX10_caught 109 = .ok (.aload_n 0, 1) := by decide +kernel
theorem dX10_caught_110 : decode cX10_caught 110 = .ok (.getfield 30, 3) := by decide +kernel
theorem dX10_caught_113 : decode cX10_caught 113 = .ok (.invokevirtual 152, 3) := by decide +kernel
theorem dX10_caught_116 : decode cX10_caught 116 = .ok (.aload_n 0, 1) := by decide +kernel
theorem dX10_caught_117 : decode cX10_caught 117 = .ok (.getfield 37, 3) := by decide +kernel
theorem dX10_caught_120 : decode cX10_caught 120 = .ok (.aload_n 0, 1) := by decide +kernel
theorem dX10_caught_121 : decode cX10_caught 121 = .ok (.getfield 44, 3) := by decide +kernel
theorem dX10_caught_124 : decode cX10_caught 124 = .ok (.aload_n 0, 1) := by decide +kernel
theorem dX10_caught_125 : decode cX10_caught 125 = .ok (.getfield 19, 3) := by decide +kernel
theorem dX10_caught_128 : decode cX10_caught 128 = .ok (.invokevirtual 170, 3) := by decide +kernel
theorem dX10_caught_131 : decode cX10_caught 131 = .ok (.invokevirtual 173, 3) := by decide +kernel
theorem dX10_caught_134 : decode cX10_caught 134 = .ok (.ireturn, 1) := by decide +kernel
theorem dX10_all_0 : decode cX10_all 0 = .ok (.aload_n 0, 1) := by decide +kernel
theorem dX10_all_1 : decode cX10_all 1 = .ok (.getfield 19, 3) := by decide +kernel
theorem dX10_all_4 : decode cX10_all 4 = .ok (.iload_n 1, 1) := by decide +kernel
theorem dX10_all_5 : decode cX10_all 5 = .ok (.invokevirtual 125, 3) := by decide +kernel
theorem dX10_all_8 : decode cX10_all 8 = .ok (.ifCond .eq 14, 3) := by decide +kernel
theorem dX10_all_11 : decode cX10_all 11 = .ok (.aload_n 0, 1) := by decide +kernel
theorem dX10_all_12 : decode cX10_all 12 = .ok (.getfield 19, 3) := by decide +kernel
theorem dX10_all_15 : decode cX10_all 15 = .ok (.iload_n 2, 1) := by decide +kernel
theorem dX10_all_16 : decode cX10_all 16 = .ok (.invokevirtual 125, 3) := by decide +kernel
theorem dX10_all_19 : decode cX10_all 19 = .ok (.ifCond .ne 5, 3) := by decide +kernel
theorem dX10_all_22 : decode cX10_all 22 = .ok (.iconst (-1), 1) := by decide +kernel
theorem dX10_all_23 : decode cX10_all 23 = .ok (.ireturn, 1) := by decide +kernel
theorem dX10_all_24 : decode cX10_all 24 = .ok (.iload_n 3, 1) := by decide +kernel
theorem dX10_all_25 : decode cX10_all 25 = .ok (.iconst 0, 1) := by decide +kernel
theorem dX10_all_26 : decode cX10_all 26 = .ok (.iconst 3, 1) := by decide +kernel
theorem dX10_all_27 : decode cX10_all 27 = .ok (.invokestatic 70, 3) := by decide +kernel
theorem dX10_all_30 : decode cX10_all 30 = .ok (.ifCond .ne 6, 3) := by decide +kernel
theorem dX10_all_33 : decode cX10_all 33 = .ok (.bipush (-2), 2) := by decide +kernel
theorem dX10_all_35 : decode cX10_all 35 = .ok (.ireturn, 1) := by decide +kernel
theorem dX10_all_36 : decode cX10_all 36 = .ok (.aload_n 0, 1) := by decide +kernel
theorem dX10_all_37 : decode cX10_all 37 = .ok (.getfield 30, 3) := by decide +kernel
theorem dX10_all_40 : decode cX10_all 40 = .ok (.aload_n 0, 1) := by decide +kernel
theorem dX10_all_41 : decode cX10_all 41 = .ok (.getfield 19, 3) := by decide +kernel
theorem dX10_all_44 : decode cX10_all 44 = .ok (.aload_n 0, 1) := by decide +kernel
theorem dX10_all_45 : decode cX10_all 45 = .ok (.getfield 19, 3) := by decide +kernel
theorem dX10_all_48 : decode cX10_all 48 = .ok (.invokevirtual 102, 3) := by decide +kernel
theorem dX10_all_51 : decode cX10_all 51 = .ok (.invokevirtual 105, 3) := by decide +kernel
theorem dX10_all_54 : decode cX10_all 54 = .ok (.aload_n 0, 1) := by decide +kernel
theorem dX10_all_55 : decode cX10_all 55 = .ok (.getfield 44, 3) := by decide +kernel
theorem dX10_all_58 : decode cX10_all 58 = .ok (.aload_n 0, 1) := by decide +kernel
theorem dX10_all_59 : decode cX10_all 59 = .ok (.getfield 19, 3) := by decide +kernel
theorem dX10_all_62 : decode cX10_all 62 = .ok (.getfield 130, 3) := by decide +kernel
theorem dX10_all_65 : decode cX10_all 65 = .ok (.iload_n 2, 1) := by decide +kernel
theorem dX10_all_66 : decode cX10_all 66 = .ok (.iaload, 1) := by decide +kernel
theorem dX10_all_67 : decode cX10_all 67 = .ok (.aload_n 0, 1) := by decide +kernel
theorem dX10_all_68 : decode cX10_all 68 = .ok (.getfield 19, 3) := by decide +kernel
theorem dX10_all_71 : decode cX10_all 71 = .ok (.getfield 133, 3) := by decide +kernel
theorem dX10_all_74 : decode cX10_all 74 = .ok (.iload_n 2, 1) := by decide +kernel
theorem dX10_all_75 : decode cX10_all 75 = .ok (.iaload, 1) := by decide +kernel
theorem dX10_all_76 : decode cX10_all 76 = .ok (.aload_n 0, 1) := by decide +kernel
theorem dX10_all_77 : decode cX10_all 77 = .ok (.getfield 30, 3) := by decide +kernel
theorem dX10_all_80 : decode cX10_all 80 = .ok (.invokevirtual 166, 3) := by decide +kernel
theorem dX10_all_83 : decode cX10_all 83 = .ok (.aload_n 0, 1) := by decide +kernel
theorem dX10_all_84 : decode cX10_all 84 = .ok (.getfield 37, 3) := by decide +kernel
theorem dX10_all_87 : decode cX10_all 87 = .ok (.aload_n 0, 1) := by decide +kernel
theorem dX10_all_88 : decode cX10_all 88 = .ok (.getfield 19, 3) := by decide +kernel
theorem dX10_all_91 : decode cX10_all 91 = .ok (.getfield 130, 3) := by decide +kernel
theorem dX10_all_94 : decode cX10_all 94 = .ok (.iload_n 1, 1) := by decide +kernel
theorem dX10_all_95 : decode cX10_all 95 = .ok (.iaload, 1) := by decide +kernel
theorem dX10_all_96 : decode cX10_all 96 = .ok (.aload_n 0, 1) := by decide +kernel
theorem dX10_all_97 : decode cX10_all 97 = .ok (.getfield 19, 3) := by decide +kernel
theorem dX10_all_100 : decode cX10_all 100 = .ok (.getfield 133, 3) := by decide +kernel
theorem dX10_all_103 : decode cX10_all 103 = .ok (.iload_n 1, 1) := by decide +kernel
theorem dX10_all_104 : decode cX10_all 104 = .ok (.iaload, 1) := by decide +kernel
theorem dX10_all_105 : decode cX10_all 105 = .ok (.iconst 0, 1) := by decide +kernel
theorem dX10_all_106 : decode cX10_all 106 = .ok (.iconst 0, 1) := by decide +kernel
theorem dX10_all_107 : decode cX10_all 107 = .ok (.aload_n 0, 1) := by decide +kernel
theorem dX10_all_108 : decode cX10_all 108 = .ok (.getfield 30, 3) := by decide +kernel
theorem dX10_all_111 : decode cX10_all 111 = .ok (.invokevirtual 152, 3) := by decide +kernel
theorem dX10_all_114 : decode cX10_all 114 = .ok (.aload_n 0, 1) := by decide +kernel
theorem dX10_all_115 : decode cX10_all 115 = .ok (.getfield 51, 3) := by decide +kernel
theorem dX10_all_118 : decode cX10_all 118 = .ok (.aload_n 0, 1) := by decide +kernel
theorem dX10_all_119 : decode cX10_all 119 = .ok (.getfield 37, 3) := by decide +kernel
theorem dX10_all_122 : decode cX10_all 122 = .ok (.aload_n 0, 1) := by decide +kernel
theorem dX10_all_123 : decode cX10_all 123 = .ok (.getfield 44, 3) := by decide +kernel
theorem dX10_all_126 : decode cX10_all 126 = .ok (.aload_n 0, 1) := by decide +kernel
theorem dX10_all_127 : decode cX10_all 127 = .ok (.getfield 19, 3) := by decide +kernel
theorem dX10_all_130 : decode cX10_all 130 = .ok (.invokevirtual 170, 3) := by decide +kernel
theorem dX10_all_133 : decode cX10_all 133 = .ok (.invokevirtual 177, 3) := by decide +kernel
theorem dX10_all_136 : decode cX10_all 136 = .ok (.iload_n 3, 1) := by decide +kernel
theorem dX10_all_137 : decode cX10_all 137 = .ok (.ifCond .ne 11, 3) := by decide +kernel
theorem dX10_all_140 : decode cX10_all 140 = .ok (.aload_n 0, 1) := by decide +kernel
theorem dX10_all_141 : decode cX10_all 141 = .ok (.getfield 51, 3) := by decide +kernel
theorem dX10_all_144 : decode cX10_all 144 = .ok (.invokevirtual 181, 3) := by decide +kernel
theorem dX10_all_147 : decode cX10_all 147 = .ok (.ireturn, 1) := by decide +kernel
theorem dX10_all_148 : decode cX10_all 148 = .ok (.aload_n 0, 1) := by decide +kernel
theorem dX10_all_149 : decode cX10_all 149 = .ok (.getfield 51, 3) := by decide +kernel
theorem dX10_all_152 : decode cX10_all 152 = .ok (.invokevirtual 184, 3) := by decide +kernel
theorem dX10_all_155 : decode cX10_all 155 = .ok (.iload_n 3, 1) := by decide +kernel
theorem dX10_all_156 : decode cX10_all 156 = .ok (.lookupswitch 44 #[(1, 28), (2, 36)], 28) := by decide +kernel
theorem dX10_all_184 : decode cX10_all 184 = .ok (.aload_n 0, 1) := by decide +kernel
theorem dX10_all_185 : decode cX10_all 185 = .ok (.getfield 51, 3) := by decide +kernel
theorem dX10_all_188 : decode cX10_all 188 = .ok (.getfield 187, 3) := by decide +kernel
theorem dX10_all_191 : decode cX10_all 191 = .ok (.ireturn, 1) := by decide +kernel
theorem dX10_all_192 : decode cX10_all 192 = .ok (.aload_n 0, 1) := by decide +kernel
theorem dX10_all_193 : decode cX10_all 193 = .ok (.getfield 51, 3) := by decide +kernel
theorem dX10_all_196 : decode cX10_all 196 = .ok (.getfield 190, 3) := by decide +kernel
theorem dX10_all_199 : decode cX10_all 199 = .ok (.ireturn, 1) := by decide +kernel
theorem dX10_all_200 : decode cX10_all 200 = .ok (.aload_n 0, 1) := by decide +kernel
theorem dX10_all_201 : decode cX10_all 201 = .ok (.getfield 51, 3) := by decide +kernel
theorem dX10_all_204 : decode cX10_all 204 = .ok (.getfield 193, 3) := by decide +kernel
theorem dX10_all_207 : decode cX10_all 207 = .ok (.ireturn, 1) := by decide +kernel
theorem dX10_loops_0 : decode cX10_loops 0 = .ok (.aload_n 0, 1) := by decide +kernel
theorem dX10_loops_1 : decode cX10_loops 1 = .ok (.getfield 19, 3) := by decide +kernel
theorem dX10_loops_4 : decode cX10_loops 4 = .ok (.iload_n 1, 1) := by decide +kernel
end
section
theorem dX10_loops_5 : decode cX10_loops 5 = .ok (.invokevirtual 125, 3) := by decide +kernel
theorem dX10_loops_8 : decode cX10_loops 8 = .ok (.ifCond .ne 5, 3) := by decide +kernel
theorem dX10_loops_11 : decode cX10_loops 11 = .ok (.iconst (-1), 1) := by decide +kernel
theorem dX10_loops_12 : decode cX10_loops 12 = .ok (.ireturn, 1) := by decide +kernel
theorem dX10_loops_13 : decode cX10_loops 13 = .ok (.iload_n 2, 1) := by decide +kernel
theorem dX10_loops_14 : decode cX10_loops 14 = .ok (.iload_n 3, 1) := by decide +kernel
theorem dX10_loops_15 : decode cX10_loops 15 = .ok (.invokestatic 149, 3) := by decide +kernel
theorem dX10_loops_18 : decode cX10_loops 18 = .ok (.ifCond .ne 6, 3) := by decide +kernel
theorem dX10_loops_21 : decode cX10_loops 21 = .ok (.bipush (-2), 2) := by decide +kernel
theorem dX10_loops_23 : decode cX10_loops 23 = .ok (.ireturn, 1) := by decide +kernel
theorem dX10_loops_24 : decode cX10_loops 24 = .ok (.aload_n 0, 1) := by decide +kernel
theorem dX10_loops_25 : decode cX10_loops 25 = .ok (.getfield 30, 3) := by decide +kernel
theorem dX10_loops_28 : decode cX10_loops 28 = .ok (.aload_n 0, 1) := by decide +kernel
theorem dX10_loops_29 : decode cX10_loops 29 = .ok (.getfield 19, 3) := by decide +kernel
theorem dX10_loops_32 : decode cX10_loops 32 = .ok (.aload_n 0, 1) := by decide +kernel
theorem dX10_loops_33 : decode cX10_loops 33 = .ok (.getfield 19, 3) := by decide +kernel
theorem dX10_loops_36 : decode cX10_loops 36 = .ok (.invokevirtual 102, 3) := by decide +kernel
theorem dX10_loops_39 : decode cX10_loops 39 = .ok (.invokevirtual 105, 3) := by decide +kernel
theorem dX10_loops_42 : decode cX10_loops 42 = .ok (.aload_n 0, 1) := by decide +kernel
theorem dX10_loops_43 : decode cX10_loops 43 = .ok (.getfield 37, 3) := by decide +kernel
theorem dX10_loops_46 : decode cX10_loops 46 = .ok (.aload_n 0, 1) := by decide +kernel
theorem dX10_loops_47 : decode cX10_loops 47 = .ok (.getfield 19, 3) := by decide +kernel
theorem dX10_loops_50 : decode cX10_loops 50 = .ok (.getfield 130, 3) := by decide +kernel
theorem dX10_loops_53 : decode cX10_loops 53 = .ok (.iload_n 1, 1) := by decide +kernel
theorem dX10_loops_54 : decode cX10_loops 54 = .ok (.iaload, 1) := by decide +kernel
theorem dX10_loops_55 : decode cX10_loops 55 = .ok (.aload_n 0, 1) := by decide +kernel
theorem dX10_loops_56 : decode cX10_loops 56 = .ok (.getfield 19, 3) := by decide +kernel
theorem dX10_loops_59 : decode cX10_loops 59 = .ok (.getfield 133, 3) := by decide +kernel
theorem dX10_loops_62 : decode cX10_loops 62 = .ok (.iload_n 1, 1) := by decide +kernel
theorem dX10_loops_63 : decode cX10_loops 63 = .ok (.iaload, 1) := by decide +kernel
theorem dX10_loops_64 : decode cX10_loops 64 = .ok (.iload_n 2, 1) := by decide +kernel
theorem dX10_loops_65 : decode cX10_loops 65 = .ok (.iload_n 3, 1) := by decide +kernel
theorem dX10_loops_66 : decode cX10_loops 66 = .ok (.aload_n 0, 1) := by decide +kernel
theorem dX10_loops_67 : decode cX10_loops 67 = .ok (.getfield 30, 3) := by decide +kernel
theorem dX10_loops_70 : decode cX10_loops 70 = .ok (.invokevirtual 152, 3) := by decide +kernel
theorem dX10_loops_73 : decode cX10_loops 73 = .ok (.aload_n 0, 1) := by decide +kernel
theorem dX10_loops_74 : decode cX10_loops 74 = .ok (.getfield 44, 3) := by decide +kernel
theorem dX10_loops_77 : decode cX10_loops 77 = .ok (.aload_n 0, 1) := by decide +kernel
theorem dX10_loops_78 : decode cX10_loops 78 = .ok (.getfield 37, 3) := by decide +kernel
theorem dX10_loops_81 : decode cX10_loops 81 = .ok (.aload_n 0, 1) := by decide +kernel
theorem dX10_loops_82 : decode cX10_loops 82 = .ok (.getfield 30, 3) := by decide +kernel
theorem dX10_loops_85 : decode cX10_loops 85 = .ok (.invokevirtual 196, 3) := by decide +kernel
theorem dX10_loops_88 : decode cX10_loops 88 = .ok (.aload_n 0, 1) := by decide +kernel
theorem dX10_loops_89 : decode cX10_loops 89 = .ok (.getfield 44, 3) := by decide +kernel
theorem dX10_loops_92 : decode cX10_loops 92 = .ok (.invokevirtual 200, 3) := by decide +kernel
theorem dX10_loops_95 : decode cX10_loops 95 = .ok (.ifCond .eq 7, 3) := by decide +kernel
theorem dX10_loops_98 : decode cX10_loops 98 = .ok (.iconst 1, 1) := by decide +kernel
theorem dX10_loops_99 : decode cX10_loops 99 = .ok (.goto 4, 3) := by decide +kernel
theorem dX10_loops_102 : decode cX10_loops 102 = .ok (.iconst 0, 1) := by decide +kernel
theorem dX10_loops_103 : decode cX10_loops 103 = .ok (.ireturn, 1) := by decide +kernel
theorem dX10_rolled_0 : decode cX10_rolled 0 = .ok (.iload_n 1, 1) := by decide +kernel
theorem dX10_rolled_1 : decode cX10_rolled 1 = .ok (.iload_n 2, 1) := by decide +kernel
theorem dX10_rolled_2 : decode cX10_rolled 2 = .ok (.invokestatic 204, 3) := by decide +kernel
theorem dX10_rolled_5 : decode cX10_rolled 5 = .ok (.ifCond .eq 30, 3) := by decide +kernel
theorem dX10_rolled_8 : decode cX10_rolled 8 = .ok (.iload_n 3, 1) := by decide +kernel
theorem dX10_rolled_9 : decode cX10_rolled 9 = .ok (.iload 4, 2) := by decide +kernel
theorem dX10_rolled_11 : decode cX10_rolled 11 = .ok (.invokestatic 149, 3) := by decide +kernel
theorem dX10_rolled_14 : decode cX10_rolled 14 = .ok (.ifCond .eq 21, 3) := by decide +kernel
theorem dX10_rolled_17 : decode cX10_rolled 17 = .ok (.iload 5, 2) := by decide +kernel
theorem dX10_rolled_19 : decode cX10_rolled 19 = .ok (.invokestatic 99, 3) := by decide +kernel
theorem dX10_rolled_22 : decode cX10_rolled 22 = .ok (.ifCond .eq 13, 3) := by decide +kernel
theorem dX10_rolled_25 : decode cX10_rolled 25 = .ok (.iload 6, 2) := by decide +kernel
theorem dX10_rolled_27 : decode cX10_rolled 27 = .ok (.iconst 0, 1) := by decide +kernel
theorem dX10_rolled_28 : decode cX10_rolled 28 = .ok (.iconst 1, 1) := by decide +kernel
theorem dX10_rolled_29 : decode cX10_rolled 29 = .ok (.invokestatic 70, 3) := by decide +kernel
theorem dX10_rolled_32 : decode cX10_rolled 32 = .ok (.ifCond .ne 6, 3) := by decide +kernel
theorem dX10_rolled_35 : decode cX10_rolled 35 = .ok (.ldc 129, 2) := by decide +kernel
theorem dX10_rolled_37 : decode cX10_rolled 37 = .ok (.ireturn, 1) := by decide +kernel
theorem dX10_rolled_38 : decode cX10_rolled 38 = .ok (.aload_n 0, 1) := by decide +kernel
theorem dX10_rolled_39 : decode cX10_rolled 39 = .ok (.getfield 30, 3) := by decide +kernel
theorem dX10_rolled_42 : decode cX10_rolled 42 = .ok (.aload_n 0, 1) := by decide +kernel
theorem dX10_rolled_43 : decode cX10_rolled 43 = .ok (.getfield 19, 3) := by decide +kernel
theorem dX10_rolled_46 : decode cX10_rolled 46 = .ok (.aload_n 0, 1) := by decide +kernel
theorem dX10_rolled_47 : decode cX10_rolled 47 = .ok (.getfield 19, 3) := by decide +kernel
theorem dX10_rolled_50 : decode cX10_rolled 50 = .ok (.invokevirtual 102, 3) := by decide +kernel
theorem dX10_rolled_53 : decode cX10_rolled 53 = .ok (.invokevirtual 105, 3) := by decide +kernel
theorem dX10_rolled_56 : decode cX10_rolled 56 = .ok (.aload_n 0, 1) := by decide +kernel
theorem dX10_rolled_57 : decode cX10_rolled 57 = .ok (.getfield 37, 3) := by decide +kernel
theorem dX10_rolled_60 : decode cX10_rolled 60 = .ok (.iload_n 1, 1) := by decide +kernel
theorem dX10_rolled_61 : decode cX10_rolled 61 = .ok (.iload_n 2, 1) := by decide +kernel
theorem dX10_rolled_62 : decode cX10_rolled 62 = .ok (.iload_n 3, 1) := by decide +kernel
theorem dX10_rolled_63 : decode cX10_rolled 63 = .ok (.iload 4, 2) := by decide +kernel
theorem dX10_rolled_65 : decode cX10_rolled 65 = .ok (.aload_n 0, 1) := by decide +kernel
theorem dX10_rolled_66 : decode cX10_rolled 66 = .ok (.getfield 30, 3) := by decide +kernel
theorem dX10_rolled_69 : decode cX10_rolled 69 = .ok (.invokevirtual 152, 3) := by decide +kernel
theorem dX10_rolled_72 : decode cX10_rolled 72 = .ok (.iconst 0, 1) := by decide +kernel
theorem dX10_rolled_73 : decode cX10_rolled 73 = .ok (.istore 7, 2) := by decide +kernel
theorem dX10_rolled_75 : decode cX10_rolled 75 = .ok (.iload 7, 2) := by decide +kernel
theorem dX10_rolled_77 : decode cX10_rolled 77 = .ok (.iload 5, 2) := by decide +kernel
theorem dX10_rolled_79 : decode cX10_rolled 79 = .ok (.if_icmp .ge 29, 3) := by decide +kernel
theorem dX10_rolled_82 : decode cX10_rolled 82 = .ok (.aload_n 0, 1) := by decide +kernel
theorem dX10_rolled_83 : decode cX10_rolled 83 = .ok (.getfield 37, 3) := by decide +kernel
theorem dX10_rolled_86 : decode cX10_rolled 86 = .ok (.iload 7, 2) := by decide +kernel
theorem dX10_rolled_88 : decode cX10_rolled 88 = .ok (.aload_n 0, 1) := by decide +kernel
theorem dX10_rolled_89 : decode cX10_rolled 89 = .ok (.getfield 19, 3) := by decide +kernel
theorem dX10_rolled_92 : decode cX10_rolled 92 = .ok (.invokevirtual 207, 3) := by decide +kernel
theorem dX10_rolled_95 : decode cX10_rolled 95 = .ok (.aload_n 0, 1) := by decide +kernel
theorem dX10_rolled_96 : decode cX10_rolled 96 = .ok (.getfield 30, 3) := by decide +kernel
theorem dX10_rolled_99 : decode cX10_rolled 99 = .ok (.invokevirtual 210, 3) := by decide +kernel
theorem dX10_rolled_102 : decode cX10_rolled 102 = .ok (.iinc 7 1, 3) := by decide +kernel
theorem dX10_rolled_105 : decode cX10_rolled 105 = .ok (.goto (-30), 3) := by decide +kernel
theorem dX10_rolled_108 : decode cX10_rolled 108 = .ok (.iload 6, 2) := by decide +kernel
theorem dX10_rolled_110 : decode cX10_rolled 110 = .ok (.ifCond .ne 13, 3) := by decide +kernel
theorem dX10_rolled_113 : decode cX10_rolled 113 = .ok (.aload_n 0, 1) := by decide +kernel
theorem dX10_rolled_114 : decode cX10_rolled 114 = .ok (.getfield 37, 3) := by decide +kernel
theorem dX10_rolled_117 : decode cX10_rolled 117 = .ok (.getfield 213, 3) := by decide +kernel
theorem dX10_rolled_120 : decode cX10_rolled 120 = .ok (.goto 10, 3) := by decide +kernel
theorem dX10_rolled_123 : decode cX10_rolled 123 = .ok (.aload_n 0, 1) := by decide +kernel
theorem dX10_rolled_124 : decode cX10_rolled 124 = .ok (.getfield 37, 3) := by decide +kernel
theorem dX10_rolled_127 : decode cX10_rolled 127 = .ok (.getfield 217, 3) := by decide +kernel
theorem dX10_rolled_130 : decode cX10_rolled 130 = .ok (.l2i, 1) := by decide +kernel
theorem dX10_rolled_131 : decode cX10_rolled 131 = .ok (.ireturn, 1) := by decide +kernel
theorem dX10_off_0 : decode cX10_off 0 = .ok (.iload_n 1, 1) := by decide +kernel
theorem dX10_off_1 : decode cX10_off 1 = .ok (.iload_n 2, 1) := by decide +kernel
theorem dX10_off_2 : decode cX10_off 2 = .ok (.invokestatic 204, 3) := by decide +kernel
theorem dX10_off_5 : decode cX10_off 5 = .ok (.ifCond .eq 12, 3) := by decide +kernel
theorem dX10_off_8 : decode cX10_off 8 = .ok (.iload_n 3, 1) := by decide +kernel
theorem dX10_off_9 : decode cX10_off 9 = .ok (.iload 4, 2) := by decide +kernel
theorem dX10_off_11 : decode cX10_off 11 = .ok (.invokestatic 149, 3) := by decide +kernel
theorem dX10_off_14 : decode cX10_off 14 = .ok (.ifCond .ne 6, 3) := by decide +kernel
theorem dX10_off_17 : decode cX10_off 17 = .ok (.bipush (-2), 2) := by decide +kernel
theorem dX10_off_19 : decode cX10_off 19 = .ok (.ireturn, 1) := by decide +kernel
theorem dX10_off_20 : decode cX10_off 20 = .ok (.aload_n 0, 1) := by decide +kernel
theorem dX10_off_21 : decode cX10_off 21 = .ok (.getfield 30, 3) := by decide +kernel
theorem dX10_off_24 : decode cX10_off 24 = .ok (.aload_n 0, 1) := by decide +kernel
theorem dX10_off_25 : decode cX10_off 25 = .ok (.getfield 19, 3) := by decide +kernel
theorem dX10_off_28 : decode cX10_off 28 = .ok (.aload_n 0, 1) := by decide +kernel
theorem dX10_off_29 : decode cX10_off 29 = .ok (.getfield 19, 3) := by decide +kernel
theorem dX10_off_32 : decode cX10_off 32 = .ok (.invokevirtual 102, 3) := by decide +kernel
theorem dX10_off_35 : decode cX10_off 35 = .ok (.invokevirtual 105, 3) := by decide +kernel
theorem dX10_off_38 : decode cX10_off 38 = .ok (.aload_n 0, 1) := by decide +kernel
theorem dX10_off_39 : decode cX10_off 39 = .ok (.getfield 37, 3) := by decide +kernel
theorem dX10_off_42 : decode cX10_off 42 = .ok (.iload_n 1, 1) := by decide +kernel
theorem dX10_off_43 : decode cX10_off 43 = .ok (.iload_n 2, 1) := by decide +kernel
theorem dX10_off_44 : decode cX10_off 44 = .ok (.iload_n 3, 1) := by decide +kernel
theorem dX10_off_45 : decode cX10_off 45 = .ok (.iload 4, 2) := by decide +kernel
theorem dX10_off_47 : decode cX10_off 47 = .ok (.aload_n 0, 1) := by decide +kernel
theorem dX10_off_48 : decode cX10_off 48 = .ok (.getfield 30, 3) := by decide +kernel
theorem dX10_off_51 : decode cX10_off 51 = .ok (.invokevirtual 152, 3) := by decide +kernel
theorem dX10_off_54 : decode cX10_off 54 = .ok (.iconst 0, 1) := by decide +kernel
theorem dX10_off_55 : decode cX10_off 55 = .ok (.istore 5, 2) := by decide +kernel
theorem dX10_off_57 : decode cX10_off 57 = .ok (.iload 5, 2) := by decide +kernel
theorem dX10_off_59 : decode cX10_off 59 = .ok (.bipush 60, 2) := by decide +kernel
theorem dX10_off_61 : decode cX10_off 61 = .ok (.if_icmp .gt 57, 3) := by decide +kernel
theorem dX10_off_64 : decode cX10_off 64 = .ok (.aload_n 0, 1) := by decide +kernel
theorem dX10_off_65 : decode cX10_off 65 = .ok (.getfield 37, 3) := by decide +kernel
theorem dX10_off_68 : decode cX10_off 68 = .ok (.aload_n 0, 1) := by decide +kernel
theorem dX10_off_69 : decode cX10_off 69 = .ok (.getfield 19, 3) := by decide +kernel
theorem dX10_off_72 : decode cX10_off 72 = .ok (.invokevirtual 220, 3) := by decide +kernel
theorem dX10_off_75 : decode cX10_off 75 = .ok (.i2l, 1) := by decide +kernel
theorem dX10_off_76 : decode cX10_off 76 = .ok (.invokevirtual 223, 3) := by decide +kernel
theorem dX10_off_79 : decode cX10_off 79 = .ok (.ifCond .eq 6, 3) := by decide +kernel
theorem dX10_off_82 : decode cX10_off 82 = .ok (.iload 5, 2) := by decide +kernel
theorem dX10_off_84 : decode cX10_off 84 = .ok (.ireturn, 1) := by decide +kernel
theorem dX10_off_85 : decode cX10_off 85 = .ok (.iload 5, 2) := by decide +kernel
theorem dX10_off_87 : decode cX10_off 87 = .ok (.bipush 60, 2) := by decide +kernel
theorem dX10_off_89 : decode cX10_off 89 = .ok (.if_icmp .ge 23, 3) := by decide +kernel
theorem dX10_off_92 : decode cX10_off 92 = .ok (.aload_n 0, 1) := by decide +kernel
theorem dX10_off_93 : decode cX10_off 93 = .ok (.getfield 37, 3) := by decide +kernel
theorem dX10_off_96 : decode cX10_off 96 = .ok (.iload 5, 2) := by decide +kernel
theorem dX10_off_98 : decode cX10_off 98 = .ok (.aload_n 0, 1) := by decide +kernel
theorem dX10_off_99 : decode cX10_off 99 = .ok (.getfield 19, 3) := by decide +kernel
theorem dX10_off_102 : decode cX10_off 102 = .ok (.invokevirtual 207, 3) := by decide +kernel
theorem dX10_off_105 : decode cX10_off 105 = .ok (.aload_n 0, 1) := by decide +kernel
theorem dX10_off_106 : decode cX10_off 106 = .ok (.getfield 30, 3) := by decide +kernel
theorem dX10_off_109 : decode cX10_off 109 = .ok (.invokevirtual 210, 3) := by decide +kernel
theorem dX10_off_112 : decode cX10_off 112 = .ok (.iinc 5 1, 3) := by decide +kernel
theorem dX10_off_115 : decode cX10_off 115 = .ok (.goto (-58), 3) := by decide +kernel
theorem dX10_off_118 : decode cX10_off 118 = .ok (.bipush (-6), 2) := by decide +kernel
theorem dX10_off_120 : decode cX10_off 120 = .ok (.ireturn, 1) := by decide +kernel
theorem dX10_leans_0 : decode cX10_leans 0 = .ok (.iload_n 1, 1) := by decide +kernel
theorem dX10_leans_1 : decode cX10_leans 1 = .ok (.iconst 0, 1) := by decide +kernel
theorem dX10_leans_2 : decode cX10_leans 2 = .ok (.sipush 1000, 3) := by decide +kernel
theorem dX10_leans_5 : decode cX10_leans 5 = .ok (.invokestatic 70, 3) := by decide +kernel
theorem dX10_leans_8 : decode cX10_leans 8 = .ok (.ifCond .ne 6, 3) := by decide +kernel
theorem dX10_leans_11 : decode cX10_leans 11 = .ok (.bipush (-2), 2) := by decide +kernel
theorem dX10_leans_13 : decode cX10_leans 13 = .ok (.ireturn, 1) := by decide +kernel
theorem dX10_leans_14 : decode cX10_leans 14 = .ok (.iload_n 1, 1) := by decide +kernel
theorem dX10_leans_15 : decode cX10_leans 15 = .ok (.aload_n 0, 1) := by decide +kernel
theorem dX10_leans_16 : decode cX10_leans 16 = .ok (.getfield 19, 3) := by decide +kernel
theorem dX10_leans_19 : decode cX10_leans 19 = .ok (.invokevirtual 102, 3) := by decide +kernel
theorem dX10_leans_22 : decode cX10_leans 22 = .ok (.invokestatic 227, 3) := by decide +kernel
theorem dX10_leans_25 : decode cX10_leans 25 = .ok (.ireturn, 1) := by decide +kernel
theorem dX10_stays_0 : decode cX10_stays 0 = .ok (.iload_n 1, 1) := by decide +kernel
theorem dX10_stays_1 : decode cX10_stays 1 = .ok (.iconst 0, 1) := by decide +kernel
theorem dX10_stays_2 : decode cX10_stays 2 = .ok (.sipush 9999, 3) := by decide +kernel
theorem dX10_stays_5 : decode cX10_stays 5 = .ok (.invokestatic 70, 3) := by decide +kernel
theorem dX10_stays_8 : decode cX10_stays 8 = .ok (.ifCond .ne 6, 3) := by decide +kernel
theorem dX10_stays_11 : decode cX10_stays 11 = .ok (.bipush (-2), 2) := by decide +kernel
theorem dX10_stays_13 : decode cX10_stays 13 = .ok (.ireturn, 1) := by decide +kernel
theorem dX10_stays_14 : decode cX10_stays 14 = .ok (.sipush 1000, 3) := by decide +kernel
theorem dX10_stays_17 : decode cX10_stays 17 = .ok (.istore_n 2, 1) := by decide +kernel
theorem dX10_stays_18 : decode cX10_stays 18 = .ok (.iload_n 2, 1) := by decide +kernel
theorem dX10_stays_19 : decode cX10_stays 19 = .ok (.ifCond .le 26, 3) := by decide +kernel
theorem dX10_stays_22 : decode cX10_stays 22 = .ok (.iload_n 2, 1) := by decide +kernel
theorem dX10_stays_23 : decode cX10_stays 23 = .ok (.aload_n 0, 1) := by decide +kernel
theorem dX10_stays_24 : decode cX10_stays 24 = .ok (.getfield 19, 3) := by decide +kernel
theorem dX10_stays_27 : decode cX10_stays 27 = .ok (.invokevirtual 102, 3) := by decide +kernel
theorem dX10_stays_30 : decode cX10_stays 30 = .ok (.invokestatic 227, 3) := by decide +kernel
theorem dX10_stays_33 : decode cX10_stays 33 = .ok (.iload_n 1, 1) := by decide +kernel
theorem dX10_stays_34 : decode cX10_stays 34 = .ok (.if_icmp .gt 5, 3) := by decide +kernel
theorem dX10_stays_37 : decode cX10_stays 37 = .ok (.iload_n 2, 1) := by decide +kernel
theorem dX10_stays_38 : decode cX10_stays 38 = .ok (.ireturn, 1) := by decide +kernel
theorem dX10_stays_39 : decode cX10_stays 39 = .ok (.iinc 2 (-1), 3) := by decide +kernel
theorem dX10_stays_42 : decode cX10_stays 42 = .ok (.goto (-24), 3) := by decide +kernel
theorem dX10_stays_45 : decode cX10_stays 45 = .ok (.iconst 0, 1) := by decide +kernel
theorem dX10_stays_46 : decode cX10_stays 46 = .ok (.ireturn, 1) := by decide +kernel
theorem dX10_hut_0 : decode cX10_hut 0 = .ok (.iload_n 1, 1) := by decide +kernel
theorem dX10_hut_1 : decode cX10_hut 1 = .ok (.iconst 1, 1) := by decide +kernel
theorem dX10_hut_2 : decode cX10_hut 2 = .ok (.sipush 1000, 3) := by decide +kernel
theorem dX10_hut_5 : decode cX10_hut 5 = .ok (.invokestatic 70, 3) := by decide +kernel
theorem dX10_hut_8 : decode cX10_hut 8 = .ok (.ifCond .eq 25, 3) := by decide +kernel
theorem dX10_hut_11 : decode cX10_hut 11 = .ok (.iload_n 2, 1) := by decide +kernel
theorem dX10_hut_12 : decode cX10_hut 12 = .ok (.iconst 1, 1) := by decide +kernel
theorem dX10_hut_13 : decode cX10_hut 13 = .ok (.sipush 200, 3) := by decide +kernel
theorem dX10_hut_16 : decode cX10_hut 16 = .ok (.invokestatic 70, 3) := by decide +kernel
theorem dX10_hut_19 : decode cX10_hut 19 = .ok (.ifCond .eq 14, 3) := by decide +kernel
theorem dX10_hut_22 : decode cX10_hut 22 = .ok (.iload_n 3, 1) := by decide +kernel
theorem dX10_hut_23 : decode cX10_hut 23 = .ok (.iconst 0, 1) := by decide +kernel
theorem dX10_hut_24 : decode cX10_hut 24 = .ok (.sipush 9999, 3) := by decide +kernel
theorem dX10_hut_27 : decode cX10_hut 27 = .ok (.invokestatic 70, 3) := by decide +kernel
theorem dX10_hut_30 : decode cX10_hut 30 = .ok (.ifCond .ne 6, 3) := by decide +kernel
theorem dX10_hut_33 : decode cX10_hut 33 = .ok (.bipush (-2), 2) := by decide +kernel
theorem dX10_hut_35 : decode cX10_hut 35 = .ok (.ireturn, 1) := by decide +kernel
theorem dX10_hut_36 : decode cX10_hut 36 = .ok (.iload_n 1, 1) := by decide +kernel
theorem dX10_hut_37 : decode cX10_hut 37 = .ok (.iload_n 2, 1) := by decide +kernel
theorem dX10_hut_38 : decode cX10_hut 38 = .ok (.iadd, 1) := by decide +kernel
theorem dX10_hut_39 : decode cX10_hut 39 = .ok (.iconst 1, 1) := by decide +kernel
theorem dX10_hut_40 : decode cX10_hut 40 = .ok (.isub, 1) := by decide +kernel
theorem dX10_hut_41 : decode cX10_hut 41 = .ok (.iload_n 2, 1) := by decide +kernel
theorem dX10_hut_42 : decode cX10_hut 42 = .ok (.idiv, 1) := by decide +kernel
theorem dX10_hut_43 : decode cX10_hut 43 = .ok (.istore 4, 2) := by decide +kernel
theorem dX10_hut_45 : decode cX10_hut 45 = .ok (.iconst 1, 1) := by decide +kernel
theorem dX10_hut_46 : decode cX10_hut 46 = .ok (.istore 5, 2) := by decide +kernel
theorem dX10_hut_48 : decode cX10_hut 48 = .ok (.iload 5, 2) := by decide +kernel
theorem dX10_hut_50 : decode cX10_hut 50 = .ok (.bipush 99, 2) := by decide +kernel
theorem dX10_hut_52 : decode cX10_hut 52 = .ok (.if_icmp .gt 26, 3) := by decide +kernel
theorem dX10_hut_55 : decode cX10_hut 55 = .ok (.iload_n 1, 1) := by decide +kernel
theorem dX10_hut_56 : decode cX10_hut 56 = .ok (.iload 5, 2) := by decide +kernel
theorem dX10_hut_58 : decode cX10_hut 58 = .ok (.imul, 1) := by decide +kernel
theorem dX10_hut_59 : decode cX10_hut 59 = .ok (.iload 4, 2) := by decide +kernel
theorem dX10_hut_61 : decode cX10_hut 61 = .ok (.imul, 1) := by decide +kernel
theorem dX10_hut_62 : decode cX10_hut 62 = .ok (.bipush 38, 2) := by decide +kernel
theorem dX10_hut_64 : decode cX10_hut 64 = .ok (.idiv, 1) := by decide +kernel
theorem dX10_hut_65 : decode cX10_hut 65 = .ok (.iload_n 3, 1) := by decide +kernel
theorem dX10_hut_66 : decode cX10_hut 66 = .ok (.if_icmp .le 6, 3) := by decide +kernel
theorem dX10_hut_69 : decode cX10_hut 69 = .ok (.iload 5, 2) := by decide +kernel
theorem dX10_hut_71 : decode cX10_hut 71 = .ok (.ireturn, 1) := by decide +kernel
theorem dX10_hut_72 : decode cX10_hut 72 = .ok (.iinc 5 1, 3) := by decide +kernel
theorem dX10_hut_75 : decode cX10_hut 75 = .ok (.goto (-27), 3) := by decide +kernel
theorem dX10_hut_78 : decode cX10_hut 78 = .ok (.bipush (-6), 2) := by decide +kernel
theorem dX10_hut_80 : decode cX10_hut 80 = .ok (.ireturn, 1) := by decide +kernel
theorem dX10_film_0 : decode cX10_film 0 = .ok (.iload_n 1, 1) := by decide +kernel
theorem dX10_film_1 : decode cX10_film 1 = .ok (.sipush (-2000), 3) := by decide +kernel
theorem dX10_film_4 : decode cX10_film 4 = .ok (.sipush 2000, 3) := by decide +kernel
theorem dX10_film_7 : decode cX10_film 7 = .ok (.invokestatic 70, 3) := by decide +kernel
theorem dX10_film_10 : decode cX10_film 10 = .ok (.ifCond .eq 16, 3) := by decide +kernel
theorem dX10_film_13 : decode cX10_film 13 = .ok (.iload_n 2, 1) := by decide +kernel
theorem dX10_film_14 : decode cX10_film 14 = .ok (.sipush (-2000), 3) := by decide +kernel
theorem dX10_film_17 : decode cX10_film 17 = .ok (.sipush 2000, 3) := by decide +kernel
theorem dX10_film_20 : decode cX10_film 20 = .ok (.invokestatic 70, 3) := by decide +kernel
theorem dX10_film_23 : decode cX10_film 23 = .ok (.ifCond .ne 6, 3) := by decide +kernel
theorem dX10_film_26 : decode cX10_film 26 = .ok (.bipush (-2), 2) := by decide +kernel
theorem dX10_film_28 : decode cX10_film 28 = .ok (.ireturn, 1) := by decide +kernel
theorem dX10_film_29 : decode cX10_film 29 = .ok (.aload_n 0, 1) := by decide +kernel
theorem dX10_film_30 : decode cX10_film 30 = .ok (.getfield 19, 3) := by decide +kernel
theorem dX10_film_33 : decode cX10_film 33 = .ok (.getfield 232, 3) := by decide +kernel
theorem dX10_film_36 : decode cX10_film 36 = .ok (.iload_n 1, 1) := by decide +kernel
theorem dX10_film_37 : decode cX10_film 37 = .ok (.iload_n 2, 1) := by decide +kernel
theorem dX10_film_38 : decode cX10_film 38 = .ok (.invokevirtual 236, 3) := by decide +kernel
theorem dX10_film_41 : decode cX10_film 41 = .ok (.ifCond .eq 16, 3) := by decide +kernel
theorem dX10_film_44 : decode cX10_film 44 = .ok (.aload_n 0, 1) := by decide +kernel
theorem dX10_film_45 : decode cX10_film 45 = .ok (.getfield 19, 3) := by decide +kernel
theorem dX10_film_48 : decode cX10_film 48 = .ok (.getfield 232, 3) := by decide +kernel
theorem dX10_film_51 : decode cX10_film 51 = .ok (.getfield 238, 3) := by decide +kernel
theorem dX10_film_54 : decode cX10_film 54 = .ok (.goto 5, 3) := by decide +kernel
theorem dX10_film_57 : decode cX10_film 57 = .ok (.bipush (-4), 2) := by decide +kernel
theorem dX10_film_59 : decode cX10_film 59 = .ok (.ireturn, 1) := by decide +kernel
theorem dX10_clear_0 : decode cX10_clear 0 = .ok (.aload_n 0, 1) := by decide +kernel
theorem dX10_clear_1 : decode cX10_clear 1 = .ok (.getfield 19, 3) := by decide +kernel
theorem dX10_clear_4 : decode cX10_clear 4 = .ok (.getfield 232, 3) := by decide +kernel
theorem dX10_clear_7 : decode cX10_clear 7 = .ok (.getfield 238, 3) := by decide +kernel
theorem dX10_clear_10 : decode cX10_clear 10 = .ok (.istore_n 1, 1) := by decide +kernel
theorem dX10_clear_11 : decode cX10_clear 11 = .ok (.aload_n 0, 1) := by decide +kernel
theorem dX10_clear_12 : decode cX10_clear 12 = .ok (.getfield 19, 3) := by decide +kernel
theorem dX10_clear_15 : decode cX10_clear 15 = .ok (.getfield 232, 3) := by decide +kernel
theorem dX10_clear_18 : decode cX10_clear 18 = .ok (.iconst 0, 1) := by decide +kernel
theorem dX10_clear_19 : decode cX10_clear 19 = .ok (.putfield 238, 3) := by decide +kernel
theorem dX10_clear_22 : decode cX10_clear 22 = .ok (.iload_n 1, 1) := by decide +kernel
theorem dX10_clear_23 : decode cX10_clear 23 = .ok (.ireturn, 1) := by decide +kernel
theorem dX10_bent_0 : decode cX10_bent 0 = .ok (.iload_n 1, 1) := by decide +kernel
theorem dX10_bent_1 : decode cX10_bent 1 = .ok (.bipush (-60), 2) := by decide +kernel
theorem dX10_bent_3 : decode cX10_bent 3 = .ok (.bipush 60, 2) := by decide +kernel
theorem dX10_bent_5 : decode cX10_bent 5 = .ok (.invokestatic 70, 3) := by decide +kernel
theorem dX10_bent_8 : decode cX10_bent 8 = .ok (.ifCond .ne 6, 3) := by decide +kernel
theorem dX10_bent_11 : decode cX10_bent 11 = .ok (.bipush (-2), 2) := by decide +kernel
theorem dX10_bent_13 : decode cX10_bent 13 = .ok (.ireturn, 1) := by decide +kernel
theorem dX10_bent_14 : decode cX10_bent 14 = .ok (.aload_n 0, 1) := by decide +kernel
theorem dX10_bent_15 : decode cX10_bent 15 = .ok (.getfield 19, 3) := by decide +kernel
theorem dX10_bent_18 : decode cX10_bent 18 = .ok (.getfield 232, 3) := by decide +kernel
theorem dX10_bent_21 : decode cX10_bent 21 = .ok (.iload_n 1, 1) := by decide +kernel
theorem dX10_bent_22 : decode cX10_bent 22 = .ok (.invokevirtual 241, 3) := by decide +kernel
theorem dX10_bent_25 : decode cX10_bent 25 = .ok (.ireturn, 1) := by decide +kernel
theorem dX10_turned_0 : decode cX10_turned 0 = .ok (.aload_n 0, 1) := by decide +kernel
theorem dX10_turned_1 : decode cX10_turned 1 = .ok (.getfield 19, 3) := by decide +kernel
theorem dX10_turned_4 : decode cX10_turned 4 = .ok (.getfield 232, 3) := by decide +kernel
theorem dX10_turned_7 : decode cX10_turned 7 = .ok (.invokevirtual 244, 3) := by decide +kernel
theorem dX10_turned_10 : decode cX10_turned 10 = .ok (.ifCond .eq 16, 3) := by decide +kernel
theorem dX10_turned_13 : decode cX10_turned 13 = .ok (.aload_n 0, 1) := by decide +kernel
theorem dX10_turned_14 : decode cX10_turned 14 = .ok (.getfield 19, 3) := by decide +kernel
theorem dX10_turned_17 : decode cX10_turned 17 = .ok (.getfield 232, 3) := by decide +kernel
theorem dX10_turned_20 : decode cX10_turned 20 = .ok (.invokevirtual 247, 3) := by decide +kernel
theorem dX10_turned_23 : decode cX10_turned 23 = .ok (.goto 5, 3) := by decide +kernel
theorem dX10_turned_26 : decode cX10_turned 26 = .ok (.ldc 250, 2) := by decide +kernel
theorem dX10_turned_28 : decode cX10_turned 28 = .ok (.ireturn, 1) := by decide +kernel
theorem dX10_span_0 : decode cX10_span 0 = .ok (.iload_n 1, 1) := by decide +kernel
theorem dX10_span_1 : decode cX10_span 1 = .ok (.iconst 0, 1) := by decide +kernel
theorem dX10_span_2 : decode cX10_span 2 = .ok (.sipush 9999, 3) := by decide +kernel
theorem dX10_span_5 : decode cX10_span 5 = .ok (.invokestatic 70, 3) := by decide +kernel
theorem dX10_span_8 : decode cX10_span 8 = .ok (.ifCond .eq 12, 3) := by decide +kernel
theorem dX10_span_11 : decode cX10_span 11 = .ok (.iload_n 2, 1) := by decide +kernel
theorem dX10_span_12 : decode cX10_span 12 = .ok (.iconst 0, 1) := by decide +kernel
theorem dX10_span_13 : decode cX10_span 13 = .ok (.iconst 1, 1) := by decide +kernel
theorem dX10_span_14 : decode cX10_span 14 = .ok (.invokestatic 70, 3) := by decide +kernel
theorem dX10_span_17 : decode cX10_span 17 = .ok (.ifCond .ne 6, 3) := by decide +kernel
theorem dX10_span_20 : decode cX10_span 20 = .ok (.ldc 129, 2) := by decide +kernel
theorem dX10_span_22 : decode cX10_span 22 = .ok (.ireturn, 1) := by decide +kernel
theorem dX10_span_23 : decode cX10_span 23 = .ok (.aload_n 0, 1) := by decide +kernel
theorem dX10_span_24 : decode cX10_span 24 = .ok (.getfield 19, 3) := by decide +kernel
theorem dX10_span_27 : decode cX10_span 27 = .ok (.getfield 232, 3) := by decide +kernel
theorem dX10_span_30 : decode cX10_span 30 = .ok (.invokevirtual 244, 3) := by decide +kernel
theorem dX10_span_33 : decode cX10_span 33 = .ok (.ifCond .eq 26, 3) := by decide +kernel
theorem dX10_span_36 : decode cX10_span 36 = .ok (.aload_n 0, 1) := by decide +kernel
theorem dX10_span_37 : decode cX10_span 37 = .ok (.getfield 19, 3) := by decide +kernel
theorem dX10_span_40 : decode cX10_span 40 = .ok (.getfield 232, 3) := by decide +kernel
theorem dX10_span_43 : decode cX10_span 43 = .ok (.iload_n 1, 1) := by decide +kernel
theorem dX10_span_44 : decode cX10_span 44 = .ok (.iload_n 2, 1) := by decide +kernel
theorem dX10_span_45 : decode cX10_span 45 = .ok (.ifCond .ne 7, 3) := by decide +kernel
theorem dX10_span_48 : decode cX10_span 48 = .ok (.iconst (-1), 1) := by decide +kernel
theorem dX10_span_49 : decode cX10_span 49 = .ok (.goto 4, 3) := by decide +kernel
theorem dX10_span_52 : decode cX10_span 52 = .ok (.iconst 1, 1) := by decide +kernel
theorem dX10_span_53 : decode cX10_span 53 = .ok (.invokevirtual 251, 3) := by decide +kernel
theorem dX10_span_56 : decode cX10_span 56 = .ok (.goto 5, 3) := by decide +kernel
theorem dX10_span_59 : decode cX10_span 59 = .ok (.ldc 250, 2) := by decide +kernel
theorem dX10_span_61 : decode cX10_span 61 = .ok (.ireturn, 1) := by decide +kernel
theorem dX10_learns_0 : decode cX10_learns 0 = .ok (.aload_n 0, 1) := by decide +kernel
theorem dX10_learns_1 : decode cX10_learns 1 = .ok (.iload_n 1, 1) := by decide +kernel
theorem dX10_learns_2 : decode cX10_learns 2 = .ok (.iload_n 3, 1) := by decide +kernel
theorem dX10_learns_3 : decode cX10_learns 3 = .ok (.invokevirtual 254, 3) := by decide +kernel
theorem dX10_learns_6 : decode cX10_learns 6 = .ok (.ifCond .ne 5, 3) := by decide +kernel
theorem dX10_learns_9 : decode cX10_learns 9 = .ok (.iconst (-1), 1) := by decide +kernel
theorem dX10_learns_10 : decode cX10_learns 10 = .ok (.ireturn, 1) := by decide +kernel
theorem dX10_learns_11 : decode cX10_learns 11 = .ok (.iload_n 2, 1) := by decide +kernel
theorem dX10_learns_12 : decode cX10_learns 12 = .ok (.iconst 1, 1) := by decide +kernel
theorem dX10_learns_13 : decode cX10_learns 13 = .ok (.sipush 200, 3) := by decide +kernel
theorem dX10_learns_16 : decode cX10_learns 16 = .ok (.invokestatic 70, 3) := by decide +kernel
theorem dX10_learns_19 : decode cX10_learns 19 = .ok (.ifCond .eq 13, 3) := by decide +kernel
theorem dX10_learns_22 : decode cX10_learns 22 = .ok (.iload 4, 2) := by decide +kernel
theorem dX10_learns_24 : decode cX10_learns 24 = .ok (.iconst 0, 1) := by decide +kernel
theorem dX10_learns_25 : decode cX10_learns 25 = .ok (.iconst 1, 1) := by decide +kernel
theorem dX10_learns_26 : decode cX10_learns 26 = .ok (.invokestatic 70, 3) := by decide +kernel
theorem dX10_learns_29 : decode cX10_learns 29 = .ok (.ifCond .ne 6, 3) := by decide +kernel
theorem dX10_learns_32 : decode cX10_learns 32 = .ok (.bipush (-2), 2) := by decide +kernel
theorem dX10_learns_34 : decode cX10_learns 34 = .ok (.ireturn, 1) := by decide +kernel
theorem dX10_learns_35 : decode cX10_learns 35 = .ok (.aload_n 0, 1) := by decide +kernel
theorem dX10_learns_36 : decode cX10_learns 36 = .ok (.iload_n 1, 1) := by decide +kernel
theorem dX10_learns_37 : decode cX10_learns 37 = .ok (.iload_n 2, 1) := by decide +kernel
theorem dX10_learns_38 : decode cX10_learns 38 = .ok (.iload_n 3, 1) := by decide +kernel
theorem dX10_learns_39 : decode cX10_learns 39 = .ok (.invokevirtual 257, 3) := by decide +kernel
theorem dX10_learns_42 : decode cX10_learns 42 = .ok (.ifCond .ne 6, 3) := by decide +kernel
theorem dX10_learns_45 : decode cX10_learns 45 = .ok (.bipush (-6), 2) := by decide +kernel
theorem dX10_learns_47 : decode cX10_learns 47 = .ok (.ireturn, 1) := by decide +kernel
theorem dX10_learns_48 : decode cX10_learns 48 = .ok (.iload 4, 2) := by decide +kernel
theorem dX10_learns_50 : decode cX10_learns 50 = .ok (.ifCond .ne 13, 3) := by decide +kernel
theorem dX10_learns_53 : decode cX10_learns 53 = .ok (.aload_n 0, 1) := by decide +kernel
theorem dX10_learns_54 : decode cX10_learns 54 = .ok (.getfield 58, 3) := by decide +kernel
theorem dX10_learns_57 : decode cX10_learns 57 = .ok (.getfield 260, 3) := by decide +kernel
theorem dX10_learns_60 : decode cX10_learns 60 = .ok (.goto 10, 3) := by decide +kernel
theorem dX10_learns_63 : decode cX10_learns 63 = .ok (.aload_n 0, 1) := by decide +kernel
theorem dX10_learns_64 : decode cX10_learns 64 = .ok (.getfield 58, 3) := by decide +kernel
theorem dX10_learns_67 : decode cX10_learns 67 = .ok (.getfield 263, 3) := by decide +kernel
theorem dX10_learns_70 : decode cX10_learns 70 = .ok (.ireturn, 1) := by decide +kernel
theorem dX10_along_0 : decode cX10_along 0 = .ok (.aload_n 0, 1) := by decide +kernel
theorem dX10_along_1 : decode cX10_along 1 = .ok (.iload_n 1, 1) := by decide +kernel
theorem dX10_along_2 : decode cX10_along 2 = .ok (.iload_n 3, 1) := by decide +kernel
theorem dX10_along_3 : decode cX10_along 3 = .ok (.invokevirtual 254, 3) := by decide +kernel
theorem dX10_along_6 : decode cX10_along 6 = .ok (.ifCond .ne 5, 3) := by decide +kernel
theorem dX10_along_9 : decode cX10_along 9 = .ok (.iconst (-1), 1) := by decide +kernel
theorem dX10_along_10 : decode cX10_along 10 = .ok (.ireturn, 1) := by decide +kernel
theorem dX10_along_11 : decode cX10_along 11 = .ok (.iload_n 2, 1) := by decide +kernel
theorem dX10_along_12 : decode cX10_along 12 = .ok (.iconst 1, 1) := by decide +kernel
theorem dX10_along_13 : decode cX10_along 13 = .ok (.sipush 200, 3) := by decide +kernel
theorem dX10_along_16 : decode cX10_along 16 = .ok (.invokestatic 70, 3) := by decide +kernel
theorem dX10_along_19 : decode cX10_along 19 = .ok (.ifCond .eq 15, 3) := by decide +kernel
theorem dX10_along_22 : decode cX10_along 22 = .ok (.iload 4, 2) := by decide +kernel
theorem dX10_along_24 : decode cX10_along 24 = .ok (.iconst 0, 1) := by decide +kernel
theorem dX10_along_25 : decode cX10_along 25 = .ok (.sipush 198, 3) := by decide +kernel
theorem dX10_along_28 : decode cX10_along 28 = .ok (.invokestatic 70, 3) := by decide +kernel
theorem dX10_along_31 : decode cX10_along 31 = .ok (.ifCond .ne 6, 3) := by decide +kernel
theorem dX10_along_34 : decode cX10_along 34 = .ok (.bipush (-2), 2) := by decide +kernel
theorem dX10_along_36 : decode cX10_along 36 = .ok (.ireturn, 1) := by decide +kernel
theorem dX10_along_37 : decode cX10_along 37 = .ok (.aload_n 0, 1) := by decide +kernel
theorem dX10_along_38 : decode cX10_along 38 = .ok (.iload_n 1, 1) := by decide +kernel
theorem dX10_along_39 : decode cX10_along 39 = .ok (.iload_n 2, 1) := by decide +kernel
theorem dX10_along_40 : decode cX10_along 40 = .ok (.iload_n 3, 1) := by decide +kernel
theorem dX10_along_41 : decode cX10_along 41 = .ok (.invokevirtual 257, 3) := by decide +kernel
theorem dX10_along_44 : decode cX10_along 44 = .ok (.ifCond .ne 6, 3) := by decide +kernel
theorem dX10_along_47 : decode cX10_along 47 = .ok (.bipush (-6), 2) := by decide +kernel
theorem dX10_along_49 : decode cX10_along 49 = .ok (.ireturn, 1) := by decide +kernel
theorem dX10_along_50 : decode cX10_along 50 = .ok (.aload_n 0, 1) := by decide +kernel
theorem dX10_along_51 : decode cX10_along 51 = .ok (.iload_n 1, 1) := by decide +kernel
theorem dX10_along_52 : decode cX10_along 52 = .ok (.iload_n 2, 1) := by decide +kernel
theorem dX10_along_53 : decode cX10_along 53 = .ok (.iload_n 3, 1) := by decide +kernel
theorem dX10_along_54 : decode cX10_along 54 = .ok (.iload 4, 2) := by decide +kernel
theorem dX10_along_56 : decode cX10_along 56 = .ok (.bipush 99, 2) := by decide +kernel
theorem dX10_along_58 : decode cX10_along 58 = .ok (.isub, 1) := by decide +kernel
theorem dX10_along_59 : decode cX10_along 59 = .ok (.invokevirtual 266, 3) := by decide +kernel
theorem dX10_along_62 : decode cX10_along 62 = .ok (.ifCond .eq 13, 3) := by decide +kernel
theorem dX10_along_65 : decode cX10_along 65 = .ok (.aload_n 0, 1) := by decide +kernel
theorem dX10_along_66 : decode cX10_along 66 = .ok (.getfield 58, 3) := by decide +kernel
theorem dX10_along_69 : decode cX10_along 69 = .ok (.getfield 260, 3) := by decide +kernel
theorem dX10_along_72 : decode cX10_along 72 = .ok (.goto 5, 3) := by decide +kernel
theorem dX10_along_75 : decode cX10_along 75 = .ok (.bipush (-6), 2) := by decide +kernel
theorem dX10_along_77 : decode cX10_along 77 = .ok (.ireturn, 1) := by decide +kernel
theorem dX10_image_0 : decode cX10_image 0 = .ok (.iload_n 1, 1) := by decide +kernel
theorem dX10_image_1 : decode cX10_image 1 = .ok (.invokestatic 269, 3) := by decide +kernel
theorem dX10_image_4 : decode cX10_image 4 = .ok (.ifCond .ne 6, 3) := by decide +kernel
theorem dX10_image_7 : decode cX10_image 7 = .ok (.bipush (-2), 2) := by decide +kernel
theorem dX10_image_9 : decode cX10_image 9 = .ok (.ireturn, 1) := by decide +kernel
theorem dX10_image_10 : decode cX10_image 10 = .ok (.aload_n 0, 1) := by decide +kernel
theorem dX10_image_11 : decode cX10_image 11 = .ok (.getfield 23, 3) := by decide +kernel
theorem dX10_image_14 : decode cX10_image 14 = .ok (.iload_n 1, 1) := by decide +kernel
theorem dX10_image_15 : decode cX10_image 15 = .ok (.aaload, 1) := by decide +kernel
theorem dX10_image_16 : decode cX10_image 16 = .ok (.ifnonnull 16, 3) := by decide +kernel
theorem dX10_image_19 : decode cX10_image 19 = .ok (.aload_n 0, 1) := by decide +kernel
theorem dX10_image_20 : decode cX10_image 20 = .ok (.getfield 23, 3) := by decide +kernel
theorem dX10_image_23 : decode cX10_image 23 = .ok (.iload_n 1, 1) := by decide +kernel
theorem dX10_image_24 : decode cX10_image 24 = .ok (.new 16, 3) := by decide +kernel
theorem dX10_image_27 : decode cX10_image 27 = .ok (.dup, 1) := by decide +kernel
theorem dX10_image_28 : decode cX10_image 28 = .ok (.invokespecial 18, 3) := by decide +kernel
theorem dX10_image_31 : decode cX10_image 31 = .ok (.aastore, 1) := by decide +kernel
theorem dX10_image_32 : decode cX10_image 32 = .ok (.aload_n 0, 1) := by decide +kernel
theorem dX10_image_33 : decode cX10_image 33 = .ok (.getfield 23, 3) := by decide +kernel
theorem dX10_image_36 : decode cX10_image 36 = .ok (.iload_n 1, 1) := by decide +kernel
theorem dX10_image_37 : decode cX10_image 37 = .ok (.aaload, 1) := by decide +kernel
theorem dX10_image_38 : decode cX10_image 38 = .ok (.aload_n 0, 1) := by decide +kernel
theorem dX10_image_39 : decode cX10_image 39 = .ok (.getfield 19, 3) := by decide +kernel
theorem dX10_image_42 : decode cX10_image 42 = .ok (.invokevirtual 272, 3) := by decide +kernel
theorem dX10_image_45 : decode cX10_image 45 = .ok (.iconst 1, 1) := by decide +kernel
theorem dX10_image_46 : decode cX10_image 46 = .ok (.ireturn, 1) := by decide +kernel
theorem dX10_restore_0 : decode cX10_restore 0 = .ok (.iload_n 1, 1) := by decide +kernel
theorem dX10_restore_1 : decode cX10_restore 1 = .ok (.invokestatic 269, 3) := by decide +kernel
theorem dX10_restore_4 : decode cX10_restore 4 = .ok (.ifCond .ne 6, 3) := by decide +kernel
theorem dX10_restore_7 : decode cX10_restore 7 = .ok (.bipush (-2), 2) := by decide +kernel
theorem dX10_restore_9 : decode cX10_restore 9 = .ok (.ireturn, 1) := by decide +kernel
theorem dX10_restore_10 : decode cX10_restore 10 = .ok (.aload_n 0, 1) := by decide +kernel
theorem dX10_restore_11 : decode cX10_restore 11 = .ok (.getfield 23, 3) := by decide +kernel
theorem dX10_restore_14 : decode cX10_restore 14 = .ok (.iload_n 1, 1) := by decide +kernel
theorem dX10_restore_15 : decode cX10_restore 15 = .ok (.aaload, 1) := by decide +kernel
theorem dX10_restore_16 : decode cX10_restore 16 = .ok (.ifnonnull 6, 3) := by decide +kernel
theorem dX10_restore_19 : decode cX10_restore 19 = .ok (.bipush (-3), 2) := by decide +kernel
theorem dX10_restore_21 : decode cX10_restore 21 = .ok (.ireturn, 1) := by decide +kernel
theorem dX10_restore_22 : decode cX10_restore 22 = .ok (.aload_n 0, 1) := by decide +kernel
theorem dX10_restore_23 : decode cX10_restore 23 = .ok (.getfield 19, 3) := by decide +kernel
theorem dX10_restore_26 : decode cX10_restore 26 = .ok (.aload_n 0, 1) := by decide +kernel
theorem dX10_restore_27 : decode cX10_restore 27 = .ok (.getfield 23, 3) := by decide +kernel
theorem dX10_restore_30 : decode cX10_restore 30 = .ok (.iload_n 1, 1) := by decide +kernel
theorem dX10_restore_31 : decode cX10_restore 31 = .ok (.aaload, 1) := by decide +kernel
theorem dX10_restore_32 : decode cX10_restore 32 = .ok (.invokevirtual 272, 3) := by decide +kernel
theorem dX10_restore_35 : decode cX10_restore 35 = .ok (.iconst 1, 1) := by decide +kernel
theorem dX10_restore_36 : decode cX10_restore 36 = .ok (.ireturn, 1) := by decide +kernel
theorem dX10_told_0 : decode cX10_told 0 = .ok (.iload_n 1, 1) := by decide +kernel
theorem dX10_told_1 : decode cX10_told 1 = .ok (.iconst 0, 1) := by decide +kernel
theorem dX10_told_2 : decode cX10_told 2 = .ok (.bipush 8, 2) := by decide +kernel
theorem dX10_told_4 : decode cX10_told 4 = .ok (.invokestatic 70, 3) := by decide +kernel
theorem dX10_told_7 : decode cX10_told 7 = .ok (.ifCond .ne 6, 3) := by decide +kernel
theorem dX10_told_10 : decode cX10_told 10 = .ok (.bipush (-2), 2) := by decide +kernel
theorem dX10_told_12 : decode cX10_told 12 = .ok (.ireturn, 1) := by decide +kernel
theorem dX10_told_13 : decode cX10_told 13 = .ok (.iload_n 1, 1) := by decide +kernel
theorem dX10_told_14 : decode cX10_told 14 = .ok (.tableswitch 68 0 3 #[30, 38, 49, 57], 30) := by decide +kernel
theorem dX10_told_44 : decode cX10_told 44 = .ok (.aload_n 0, 1) := by decide +kernel
theorem dX10_told_45 : decode cX10_told 45 = .ok (.getfield 10, 3) := by decide +kernel
theorem dX10_told_48 : decode cX10_told 48 = .ok (.getfield 78, 3) := by decide +kernel
theorem dX10_told_51 : decode cX10_told 51 = .ok (.ireturn, 1) := by decide +kernel
theorem dX10_told_52 : decode cX10_told 52 = .ok (.aload_n 0, 1) := by decide +kernel
theorem dX10_told_53 : decode cX10_told 53 = .ok (.getfield 19, 3) := by decide +kernel
theorem dX10_told_56 : decode cX10_told 56 = .ok (.getfield 86, 3) := by decide +kernel
theorem dX10_told_59 : decode cX10_told 59 = .ok (.getfield 96, 3) := by decide +kernel
theorem dX10_told_62 : decode cX10_told 62 = .ok (.ireturn, 1) := by decide +kernel
theorem dX10_told_63 : decode cX10_told 63 = .ok (.aload_n 0, 1) := by decide +kernel
theorem dX10_told_64 : decode cX10_told 64 = .ok (.getfield 19, 3) := by decide +kernel
theorem dX10_told_67 : decode cX10_told 67 = .ok (.getfield 118, 3) := by decide +kernel
theorem dX10_told_70 : decode cX10_told 70 = .ok (.ireturn, 1) := by decide +kernel
theorem dX10_told_71 : decode cX10_told 71 = .ok (.aload_n 0, 1) := by decide +kernel
theorem dX10_told_72 : decode cX10_told 72 = .ok (.getfield 19, 3) := by decide +kernel
theorem dX10_told_75 : decode cX10_told 75 = .ok (.getfield 232, 3) := by decide +kernel
theorem dX10_told_78 : decode cX10_told 78 = .ok (.getfield 238, 3) := by decide +kernel
theorem dX10_told_81 : decode cX10_told 81 = .ok (.ireturn, 1) := by decide +kernel
theorem dX10_told_82 : decode cX10_told 82 = .ok (.aload_n 0, 1) := by decide +kernel
theorem dX10_told_83 : decode cX10_told 83 = .ok (.getfield 19, 3) := by decide +kernel
theorem dX10_told_86 : decode cX10_told 86 = .ok (.getfield 66, 3) := by decide +kernel
theorem dX10_told_89 : decode cX10_told 89 = .ok (.iload_n 1, 1) := by decide +kernel
theorem dX10_told_90 : decode cX10_told 90 = .ok (.iconst 4, 1) := by decide +kernel
theorem dX10_told_91 : decode cX10_told 91 = .ok (.isub, 1) := by decide +kernel
theorem dX10_told_92 : decode cX10_told 92 = .ok (.iaload, 1) := by decide +kernel
theorem dX10_told_93 : decode cX10_told 93 = .ok (.ireturn, 1) := by decide +kernel
theorem dX10_learnsAtFirst_0 : decode cX10_learnsAtFirst 0 = .ok (.aload_n 0, 1) := by decide +kernel
theorem dX10_learnsAtFirst_1 : decode cX10_learnsAtFirst 1 = .ok (.getfield 58, 3) := by decide +kernel
theorem dX10_learnsAtFirst_4 : decode cX10_learnsAtFirst 4 = .ok (.aload_n 0, 1) := by decide +kernel
theorem dX10_learnsAtFirst_5 : decode cX10_learnsAtFirst 5 = .ok (.getfield 19, 3) := by decide +kernel
theorem dX10_learnsAtFirst_8 : decode cX10_learnsAtFirst 8 = .ok (.getfield 130, 3) := by decide +kernel
theorem dX10_learnsAtFirst_11 : decode cX10_learnsAtFirst 11 = .ok (.iload_n 3, 1) := by decide +kernel
theorem dX10_learnsAtFirst_12 : decode cX10_learnsAtFirst 12 = .ok (.iaload, 1) := by decide +kernel
theorem dX10_learnsAtFirst_13 : decode cX10_learnsAtFirst 13 = .ok (.aload_n 0, 1) := by decide +kernel
theorem dX10_learnsAtFirst_14 : decode cX10_learnsAtFirst 14 = .ok (.getfield 19, 3) := by decide +kernel
theorem dX10_learnsAtFirst_17 : decode cX10_learnsAtFirst 17 = .ok (.getfield 130, 3) := by decide +kernel
theorem dX10_learnsAtFirst_20 : decode cX10_learnsAtFirst 20 = .ok (.iload_n 1, 1) := by decide +kernel
theorem dX10_learnsAtFirst_21 : decode cX10_learnsAtFirst 21 = .ok (.iaload, 1) := by decide +kernel
theorem dX10_learnsAtFirst_22 : decode cX10_learnsAtFirst 22 = .ok (.isub, 1) := by decide +kernel
theorem dX10_learnsAtFirst_23 : decode cX10_learnsAtFirst 23 = .ok (.aload_n 0, 1) := by decide +kernel
theorem dX10_learnsAtFirst_24 : decode cX10_learnsAtFirst 24 = .ok (.getfield 19, 3) := by decide +kernel
theorem dX10_learnsAtFirst_27 : decode cX10_learnsAtFirst 27 = .ok (.getfield 133, 3) := by decide +kernel
theorem dX10_learnsAtFirst_30 : decode cX10_learnsAtFirst 30 = .ok (.iload_n 3, 1) := by decide +kernel
theorem dX10_learnsAtFirst_31 : decode cX10_learnsAtFirst 31 = .ok (.iaload, 1) := by decide +kernel
theorem dX10_learnsAtFirst_32 : decode cX10_learnsAtFirst 32 = .ok (.aload_n 0, 1) := by decide +kernel
theorem dX10_learnsAtFirst_33 : decode cX10_learnsAtFirst 33 = .ok (.getfield 19, 3) := by decide +kernel
theorem dX10_learnsAtFirst_36 : decode cX10_learnsAtFirst 36 = .ok (.getfield 133, 3) := by decide +kernel
theorem dX10_learnsAtFirst_39 : decode cX10_learnsAtFirst 39 = .ok (.iload_n 1, 1) := by decide +kernel
theorem dX10_learnsAtFirst_40 : decode cX10_learnsAtFirst 40 = .ok (.iaload, 1) := by decide +kernel
theorem dX10_learnsAtFirst_41 : decode cX10_learnsAtFirst 41 = .ok (.isub, 1) := by decide +kernel
theorem dX10_learnsAtFirst_42 : decode cX10_learnsAtFirst 42 = .ok (.iload_n 2, 1) := by decide +kernel
theorem dX10_learnsAtFirst_43 : decode cX10_learnsAtFirst 43 = .ok (.invokevirtual 276, 3) := by decide +kernel
theorem dX10_learnsAtFirst_46 : decode cX10_learnsAtFirst 46 = .ok (.aload_n 0, 1) := by decide +kernel
theorem dX10_learnsAtFirst_47 : decode cX10_learnsAtFirst 47 = .ok (.iload_n 1, 1) := by decide +kernel
theorem dX10_learnsAtFirst_48 : decode cX10_learnsAtFirst 48 = .ok (.iload_n 2, 1) := by decide +kernel
theorem dX10_learnsAtFirst_49 : decode cX10_learnsAtFirst 49 = .ok (.iload_n 3, 1) := by decide +kernel
theorem dX10_learnsAtFirst_50 : decode cX10_learnsAtFirst 50 = .ok (.aload_n 0, 1) := by decide +kernel
theorem dX10_learnsAtFirst_51 : decode cX10_learnsAtFirst 51 = .ok (.getfield 19, 3) := by decide +kernel
theorem dX10_learnsAtFirst_54 : decode cX10_learnsAtFirst 54 = .ok (.invokevirtual 102, 3) := by decide +kernel
theorem dX10_learnsAtFirst_57 : decode cX10_learnsAtFirst 57 = .ok (.invokevirtual 266, 3) := by decide +kernel
theorem dX10_learnsAtFirst_60 : decode cX10_learnsAtFirst 60 = .ok (.ireturn, 1) := by decide +kernel
theorem dX10_tries_0 : decode cX10_tries 0 = .ok (.aload_n 0, 1) := by decide +kernel
theorem dX10_tries_1 : decode cX10_tries 1 = .ok (.getfield 30, 3) := by decide +kernel
theorem dX10_tries_4 : decode cX10_tries 4 = .ok (.aload_n 0, 1) := by decide +kernel
theorem dX10_tries_5 : decode cX10_tries 5 = .ok (.getfield 19, 3) := by decide +kernel
theorem dX10_tries_8 : decode cX10_tries 8 = .ok (.iload 4, 2) := by decide +kernel
theorem dX10_tries_10 : decode cX10_tries 10 = .ok (.invokevirtual 105, 3) := by decide +kernel
theorem dX10_tries_13 : decode cX10_tries 13 = .ok (.aload_n 0, 1) := by decide +kernel
theorem dX10_tries_14 : decode cX10_tries 14 = .ok (.getfield 44, 3) := by decide +kernel
theorem dX10_tries_17 : decode cX10_tries 17 = .ok (.aload_n 0, 1) := by decide +kernel
theorem dX10_tries_18 : decode cX10_tries 18 = .ok (.getfield 19, 3) := by decide +kernel
theorem dX10_tries_21 : decode cX10_tries 21 = .ok (.getfield 130, 3) := by decide +kernel
theorem dX10_tries_24 : decode cX10_tries 24 = .ok (.iload_n 3, 1) := by decide +kernel
theorem dX10_tries_25 : decode cX10_tries 25 = .ok (.iaload, 1) := by decide +kernel
theorem dX10_tries_26 : decode cX10_tries 26 = .ok (.aload_n 0, 1) := by decide +kernel
theorem dX10_tries_27 : decode cX10_tries 27 = .ok (.getfield 19, 3) := by decide +kernel
theorem dX10_tries_30 : decode cX10_tries 30 = .ok (.getfield 133, 3) := by decide +kernel
theorem dX10_tries_33 : decode cX10_tries 33 = .ok (.iload_n 3, 1) := by decide +kernel
theorem dX10_tries_34 : decode cX10_tries 34 = .ok (.iaload, 1) := by decide +kernel
theorem dX10_tries_35 : decode cX10_tries 35 = .ok (.aload_n 0, 1) := by decide +kernel
theorem dX10_tries_36 : decode cX10_tries 36 = .ok (.getfield 30, 3) := by decide +kernel
theorem dX10_tries_39 : decode cX10_tries 39 = .ok (.invokevirtual 166, 3) := by decide +kernel
theorem dX10_tries_42 : decode cX10_tries 42 = .ok (.aload_n 0, 1) := by decide +kernel
theorem dX10_tries_43 : decode cX10_tries 43 = .ok (.getfield 37, 3) := by decide +kernel
theorem dX10_tries_46 : decode cX10_tries 46 = .ok (.aload_n 0, 1) := by decide +kernel
theorem dX10_tries_47 : decode cX10_tries 47 = .ok (.getfield 19, 3) := by decide +kernel
theorem dX10_tries_50 : decode cX10_tries 50 = .ok (.getfield 130, 3) := by decide +kernel
theorem dX10_tries_53 : decode cX10_tries 53 = .ok (.iload_n 1, 1) := by decide +kernel
theorem dX10_tries_54 : decode cX10_tries 54 = .ok (.iaload, 1) := by decide +kernel
theorem dX10_tries_55 : decode cX10_tries 55 = .ok (.aload_n 0, 1) := by decide +kernel
theorem dX10_tries_56 : decode cX10_tries 56 = .ok (.getfield 19, 3) := by decide +kernel
theorem dX10_tries_59 : decode cX10_tries 59 = .ok (.getfield 133, 3) := by decide +kernel
theorem dX10_tries_62 : decode cX10_tries 62 = .ok (.iload_n 1, 1) := by decide +kernel
theorem dX10_tries_63 : decode cX10_tries 63 = .ok (.iaload, 1) := by decide +kernel
theorem dX10_tries_64 : decode cX10_tries 64 = .ok (.iconst 0, 1) := by decide +kernel
theorem dX10_tries_65 : decode cX10_tries 65 = .ok (.iconst 0, 1) := by decide +kernel
theorem dX10_tries_66 : decode cX10_tries 66 = .ok (.aload_n 0, 1) := by decide +kernel
theorem dX10_tries_67 : decode cX10_tries 67 = .ok (.getfield 30, 3) := by decide +kernel
theorem dX10_tries_70 : decode cX10_tries 70 = .ok (.invokevirtual 152, 3) := by decide +kernel
theorem dX10_tries_73 : decode cX10_tries 73 = .ok (.aload_n 0, 1) := by decide +kernel
theorem dX10_tries_74 : decode cX10_tries 74 = .ok (.getfield 58, 3) := by decide +kernel
theorem dX10_tries_77 : decode cX10_tries 77 = .ok (.aload_n 0, 1) := by decide +kernel
theorem dX10_tries_78 : decode cX10_tries 78 = .ok (.getfield 37, 3) := by decide +kernel
theorem dX10_tries_81 : decode cX10_tries 81 = .ok (.iload_n 2, 1) := by decide +kernel
theorem dX10_tries_82 : decode cX10_tries 82 = .ok (.aload_n 0, 1) := by decide +kernel
theorem dX10_tries_83 : decode cX10_tries 83 = .ok (.getfield 44, 3) := by decide +kernel
theorem dX10_tries_86 : decode cX10_tries 86 = .ok (.aload_n 0, 1) := by decide +kernel
theorem dX10_tries_87 : decode cX10_tries 87 = .ok (.getfield 19, 3) := by decide +kernel
theorem dX10_tries_90 : decode cX10_tries 90 = .ok (.invokevirtual 170, 3) := by decide +kernel
theorem dX10_tries_93 : decode cX10_tries 93 = .ok (.invokevirtual 280, 3) := by decide +kernel
theorem dX10_tries_96 : decode cX10_tries 96 = .ok (.ireturn, 1) := by decide +kernel
theorem dX10_areTwo_0 : decode cX10_areTwo 0 = .ok (.aload_n 0, 1) := by decide +kernel
theorem dX10_areTwo_1 : decode cX10_areTwo 1 = .ok (.getfield 19, 3) := by decide +kernel
theorem dX10_areTwo_4 : decode cX10_areTwo 4 = .ok (.iload_n 1, 1) := by decide +kernel
theorem dX10_areTwo_5 : decode cX10_areTwo 5 = .ok (.invokevirtual 125, 3) := by decide +kernel
theorem dX10_areTwo_8 : decode cX10_areTwo 8 = .ok (.ifCond .eq 23, 3) := by decide +kernel
theorem dX10_areTwo_11 : decode cX10_areTwo 11 = .ok (.aload_n 0, 1) := by decide +kernel
theorem dX10_areTwo_12 : decode cX10_areTwo 12 = .ok (.getfield 19, 3) := by decide +kernel
theorem dX10_areTwo_15 : decode cX10_areTwo 15 = .ok (.iload_n 2, 1) := by decide +kernel
theorem dX10_areTwo_16 : decode cX10_areTwo 16 = .ok (.invokevirtual 125, 3) := by decide +kernel
theorem dX10_areTwo_19 : decode cX10_areTwo 19 = .ok (.ifCond .eq 12, 3) := by decide +kernel
theorem dX10_areTwo_22 : decode cX10_areTwo 22 = .ok (.iload_n 1, 1) := by decide +kernel
theorem dX10_areTwo_23 : decode cX10_areTwo 23 = .ok (.iload_n 2, 1) := by decide +kernel
theorem dX10_areTwo_24 : decode cX10_areTwo 24 = .ok (.if_icmp .eq 7, 3) := by decide +kernel
theorem dX10_areTwo_27 : decode cX10_areTwo 27 = .ok (.iconst 1, 1) := by decide +kernel
theorem dX10_areTwo_28 : decode cX10_areTwo 28 = .ok (.goto 4, 3) := by decide +kernel
theorem dX10_areTwo_31 : decode cX10_areTwo 31 = .ok (.iconst 0, 1) := by decide +kernel
theorem dX10_areTwo_32 : decode cX10_areTwo 32 = .ok (.ireturn, 1) := by decide +kernel
theorem dX10_within_0 : decode cX10_within 0 = .ok (.iload_n 0, 1) := by decide +kernel
theorem dX10_within_1 : decode cX10_within 1 = .ok (.iload_n 1, 1) := by decide +kernel
theorem dX10_within_2 : decode cX10_within 2 = .ok (.if_icmp .lt 12, 3) := by decide +kernel
theorem dX10_within_5 : decode cX10_within 5 = .ok (.iload_n 0, 1) := by decide +kernel
theorem dX10_within_6 : decode cX10_within 6 = .ok (.iload_n 2, 1) := by decide +kernel
theorem dX10_within_7 : decode cX10_within 7 = .ok (.if_icmp .gt 7, 3) := by decide +kernel
theorem dX10_within_10 : decode cX10_within 10 = .ok (.iconst 1, 1) := by decide +kernel
theorem dX10_within_11 : decode cX10_within 11 = .ok (.goto 4, 3) := by decide +kernel
theorem dX10_within_14 : decode cX10_within 14 = .ok (.iconst 0, 1) := by decide +kernel
theorem dX10_within_15 : decode cX10_within 15 = .ok (.ireturn, 1) := by decide +kernel
theorem dX10_isWay_0 : decode cX10_isWay 0 = .ok (.iload_n 0, 1) := by decide +kernel
theorem dX10_isWay_1 : decode cX10_isWay 1 = .ok (.iconst 0, 1) := by decide +kernel
theorem dX10_isWay_2 : decode cX10_isWay 2 = .ok (.bipush 23, 2) := by decide +kernel
theorem dX10_isWay_4 : decode cX10_isWay 4 = .ok (.invokestatic 70, 3) := by decide +kernel
theorem dX10_isWay_7 : decode cX10_isWay 7 = .ok (.ireturn, 1) := by decide +kernel
theorem dX10_isTick_0 : decode cX10_isTick 0 = .ok (.iload_n 0, 1) := by decide +kernel
theorem dX10_isTick_1 : decode cX10_isTick 1 = .ok (.iconst 0, 1) := by decide +kernel
theorem dX10_isTick_2 : decode cX10_isTick 2 = .ok (.bipush 60, 2) := by decide +kernel
theorem dX10_isTick_4 : decode cX10_isTick 4 = .ok (.invokestatic 70, 3) := by decide +kernel
theorem dX10_isTick_7 : decode cX10_isTick 7 = .ok (.ireturn, 1) := by decide +kernel
theorem dX10_isThrow_0 : decode cX10_isThrow 0 = .ok (.iload_n 0, 1) := by decide +kernel
theorem dX10_isThrow_1 : decode cX10_isThrow 1 = .ok (.iconst 0, 1) := by decide +kernel
theorem dX10_isThrow_2 : decode cX10_isThrow 2 = .ok (.sipush 200, 3) := by decide +kernel
theorem dX10_isThrow_5 : decode cX10_isThrow 5 = .ok (.invokestatic 70, 3) := by decide +kernel
theorem dX10_isThrow_8 : decode cX10_isThrow 8 = .ok (.ifCond .eq 14, 3) := by decide +kernel
theorem dX10_isThrow_11 : decode cX10_isThrow 11 = .ok (.iload_n 1, 1) := by decide +kernel
theorem dX10_isThrow_12 : decode cX10_isThrow 12 = .ok (.invokestatic 115, 3) := by decide +kernel
theorem dX10_isThrow_15 : decode cX10_isThrow 15 = .ok (.ifCond .eq 7, 3) := by decide +kernel
theorem dX10_isThrow_18 : decode cX10_isThrow 18 = .ok (.iconst 1, 1) := by decide +kernel
theorem dX10_isThrow_19 : decode cX10_isThrow 19 = .ok (.goto 4, 3) := by decide +kernel
theorem dX10_isThrow_22 : decode cX10_isThrow 22 = .ok (.iconst 0, 1) := by decide +kernel
theorem dX10_isThrow_23 : decode cX10_isThrow 23 = .ok (.ireturn, 1) := by decide +kernel
theorem dX10_isPlace_0 : decode cX10_isPlace 0 = .ok (.iload_n 0, 1) := by decide +kernel
theorem dX10_isPlace_1 : decode cX10_isPlace 1 = .ok (.sipush (-1000), 3) := by decide +kernel
theorem dX10_isPlace_4 : decode cX10_isPlace 4 = .ok (.sipush 1000, 3) := by decide +kernel
theorem dX10_isPlace_7 : decode cX10_isPlace 7 = .ok (.invokestatic 70, 3) := by decide +kernel
theorem dX10_isPlace_10 : decode cX10_isPlace 10 = .ok (.ifCond .eq 20, 3) := by decide +kernel
theorem dX10_isPlace_13 : decode cX10_isPlace 13 = .ok (.iload_n 1, 1) := by decide +kernel
theorem dX10_isPlace_14 : decode cX10_isPlace 14 = .ok (.sipush (-1000), 3) := by decide +kernel
theorem dX10_isPlace_17 : decode cX10_isPlace 17 = .ok (.sipush 1000, 3) := by decide +kernel
theorem dX10_isPlace_20 : decode cX10_isPlace 20 = .ok (.invokestatic 70, 3) := by decide +kernel
theorem dX10_isPlace_23 : decode cX10_isPlace 23 = .ok (.ifCond .eq 7, 3) := by decide +kernel
theorem dX10_isPlace_26 : decode cX10_isPlace 26 = .ok (.iconst 1, 1) := by decide +kernel
theorem dX10_isPlace_27 : decode cX10_isPlace 27 = .ok (.goto 4, 3) := by decide +kernel
theorem dX10_isPlace_30 : decode cX10_isPlace 30 = .ok (.iconst 0, 1) := by decide +kernel
theorem dX10_isPlace_31 : decode cX10_isPlace 31 = .ok (.ireturn, 1) := by decide +kernel
theorem dX10_isImage_0 : decode cX10_isImage 0 = .ok (.iload_n 0, 1) := by decide +kernel
theorem dX10_isImage_1 : decode cX10_isImage 1 = .ok (.iconst 0, 1) := by decide +kernel
theorem dX10_isImage_2 : decode cX10_isImage 2 = .ok (.iconst 1, 1) := by decide +kernel
theorem dX10_isImage_3 : decode cX10_isImage 3 = .ok (.invokestatic 70, 3) := by decide +kernel
theorem dX10_isImage_6 : decode cX10_isImage 6 = .ok (.ireturn, 1) := by decide +kernel
theorem dX10_lean_0 : decode cX10_lean 0 = .ok (.iload_n 0, 1) := by decide +kernel
theorem dX10_lean_1 : decode cX10_lean 1 = .ok (.iload_n 1, 1) := by decide +kernel
theorem dX10_lean_2 : decode cX10_lean 2 = .ok (.imul, 1) := by decide +kernel
theorem dX10_lean_3 : decode cX10_lean 3 = .ok (.iload_n 1, 1) := by decide +kernel
theorem dX10_lean_4 : decode cX10_lean 4 = .ok (.imul, 1) := by decide +kernel
theorem dX10_lean_5 : decode cX10_lean 5 = .ok (.sipush 1000, 3) := by decide +kernel
theorem dX10_lean_8 : decode cX10_lean 8 = .ok (.idiv, 1) := by decide +kernel
theorem dX10_lean_9 : decode cX10_lean 9 = .ok (.ireturn, 1) := by decide +kernel
theorem dX11_init_0 : decode cX11_init 0 = .ok (.aload_n 0, 1) := by decide +kernel
theorem dX11_init_1 : decode cX11_init 1 = .ok (.invokespecial 1, 3) := by decide +kernel
theorem dX11_init_4 : decode cX11_init 4 = .ok (.aload_n 0, 1) := by decide +kernel
theorem dX11_init_5 : decode cX11_init 5 = .ok (.bipush 24, 2) := by decide +kernel
theorem dX11_init_7 : decode cX11_init 7 = .ok (.newarray .int, 2) := by decide +kernel
theorem dX11_init_9 : decode cX11_init 9 = .ok (.putfield 7, 3) := by decide +kernel
theorem dX11_init_12 : decode cX11_init 12 = .ok (.aload_n 0, 1) := by decide +kernel
theorem dX11_init_13 : decode cX11_init 13 = .ok (.iconst 5, 1) := by decide +kernel
theorem dX11_init_14 : decode cX11_init 14 = .ok (.newarray .int, 2) := by decide +kernel
theorem dX11_init_16 : decode cX11_init 16 = .ok (.putfield 13, 3) := by decide +kernel
theorem dX11_init_19 : decode cX11_init 19 = .ok (.aload_n 0, 1) := by decide +kernel
theorem dX11_init_20 : decode cX11_init 20 = .ok (.bipush 62, 2) := by decide +kernel
theorem dX11_init_22 : decode cX11_init 22 = .ok (.newarray .int, 2) := by decide +kernel
theorem dX11_init_24 : decode cX11_init 24 = .ok (.putfield 16, 3) := by decide +kernel
theorem dX11_init_27 : decode cX11_init 27 = .ok (.aload_n 0, 1) := by decide +kernel
theorem dX11_init_28 : decode cX11_init 28 = .ok (.bipush 62, 2) := by decide +kernel
theorem dX11_init_30 : decode cX11_init 30 = .ok (.newarray .int, 2) := by decide +kernel
theorem dX11_init_32 : decode cX11_init 32 = .ok (.putfield 19, 3) := by decide +kernel
theorem dX11_init_35 : decode cX11_init 35 = .ok (.aload_n 0, 1) := by decide +kernel
theorem dX11_init_36 : decode cX11_init 36 = .ok (.bipush 40, 2) := by decide +kernel
theorem dX11_init_38 : decode cX11_init 38 = .ok (.newarray .int, 2) := by decide +kernel
theorem dX11_init_40 : decode cX11_init 40 = .ok (.putfield 22, 3) := by decide +kernel
theorem dX11_init_43 : decode cX11_init 43 = .ok (.aload_n 0, 1) := by decide +kernel
theorem dX11_init_44 : decode cX11_init 44 = .ok (.bipush 20, 2) := by decide +kernel
theorem dX11_init_46 : decode cX11_init 46 = .ok (.newarray .int, 2) := by decide +kernel
theorem dX11_init_48 : decode cX11_init 48 = .ok (.putfield 25, 3) := by decide +kernel
theorem dX11_init_51 : decode cX11_init 51 = .ok (.aload_n 0, 1) := by decide +kernel
theorem dX11_init_52 : decode cX11_init 52 = .ok (.bipush 20, 2) := by decide +kernel
theorem dX11_init_54 : decode cX11_init 54 = .ok (.newarray .int, 2) := by decide +kernel
theorem dX11_init_56 : decode cX11_init 56 = .ok (.putfield 28, 3) := by decide +kernel
theorem dX11_init_59 : decode cX11_init 59 = .ok (.aload_n 0, 1) := by decide +kernel
theorem dX11_init_60 : decode cX11_init 60 = .ok (.bipush 8, 2) := by decide +kernel
theorem dX11_init_62 : decode cX11_init 62 = .ok (.newarray .int, 2) := by decide +kernel
theorem dX11_init_64 : decode cX11_init 64 = .ok (.putfield 31, 3) := by decide +kernel
theorem dX11_init_67 : decode cX11_init 67 = .ok (.aload_n 0, 1) := by decide +kernel
theorem dX11_init_68 : decode cX11_init 68 = .ok (.bipush 8, 2) := by decide +kernel
theorem dX11_init_70 : decode cX11_init 70 = .ok (.newarray .int, 2) := by decide +kernel
theorem dX11_init_72 : decode cX11_init 72 = .ok (.putfield 34, 3) := by decide +kernel
theorem dX11_init_75 : decode cX11_init 75 = .ok (.aload_n 0, 1) := by decide +kernel
theorem dX11_init_76 : decode cX11_init 76 = .ok (.sipush 1488, 3) := by decide +kernel
theorem dX11_init_79 : decode cX11_init 79 = .ok (.newarray .boolean, 2) := by decide +kernel
theorem dX11_init_81 : decode cX11_init 81 = .ok (.putfield 37, 3) := by decide +kernel
theorem dX11_init_84 : decode cX11_init 84 = .ok (.aload_n 0, 1) := by decide +kernel
theorem dX11_init_85 : decode cX11_init 85 = .ok (.bipush 21, 2) := by decide +kernel
theorem dX11_init_87 : decode cX11_init 87 = .ok (.newarray .int, 2) := by decide +kernel
theorem dX11_init_89 : decode cX11_init 89 = .ok (.putfield 41, 3) := by decide +kernel
theorem dX11_init_92 : decode cX11_init 92 = .ok (.aload_n 0, 1) := by decide +kernel
theorem dX11_init_93 : decode cX11_init 93 = .ok (.bipush 21, 2) := by decide +kernel
theorem dX11_init_95 : decode cX11_init 95 = .ok (.newarray .int, 2) := by decide +kernel
theorem dX11_init_97 : decode cX11_init 97 = .ok (.putfield 44, 3) := by decide +kernel
theorem dX11_init_100 : decode cX11_init 100 = .ok (.aload_n 0, 1) := by decide +kernel
theorem dX11_init_101 : decode cX11_init 101 = .ok (.bipush 24, 2) := by decide +kernel
theorem dX11_init_103 : decode cX11_init 103 = .ok (.newarray .int, 2) := by decide +kernel
theorem dX11_init_105 : decode cX11_init 105 = .ok (.putfield 47, 3) := by decide +kernel
theorem dX11_init_108 : decode cX11_init 108 = .ok (.aload_n 0, 1) := by decide +kernel
theorem dX11_init_109 : decode cX11_init 109 = .ok (.bipush 24, 2) := by decide +kernel
theorem dX11_init_111 : decode cX11_init 111 = .ok (.newarray .int, 2) := by decide +kernel
theorem dX11_init_113 : decode cX11_init 113 = .ok (.putfield 50, 3) := by decide +kernel
theorem dX11_init_116 : decode cX11_init 116 = .ok (.aload_n 0, 1) := by decide +kernel
theorem dX11_init_117 : decode cX11_init 117 = .ok (.bipush 24, 2) := by decide +kernel
theorem dX11_init_119 : decode cX11_init 119 = .ok (.newarray .int, 2) := by decide +kernel
theorem dX11_init_121 : decode cX11_init 121 = .ok (.putfield 53, 3) := by decide +kernel
theorem dX11_init_124 : decode cX11_init 124 = .ok (.aload_n 0, 1) := by decide +kernel
theorem dX11_init_125 : decode cX11_init 125 = .ok (.bipush 24, 2) := by decide +kernel
theorem dX11_init_127 : decode cX11_init 127 = .ok (.newarray .int, 2) := by decide +kernel
theorem dX11_init_129 : decode cX11_init 129 = .ok (.putfield 56, 3) := by decide +kernel
theorem dX11_init_132 : decode cX11_init 132 = .ok (.aload_n 0, 1) := by decide +kernel
theorem dX11_init_133 : decode cX11_init 133 = .ok (.sipush 280, 3) := by decide +kernel
theorem dX11_init_136 : decode cX11_init 136 = .ok (.newarray .int, 2) := by decide +kernel
theorem dX11_init_138 : decode cX11_init 138 = .ok (.putfield 59, 3) := by decide +kernel
theorem dX11_init_141 : decode cX11_init 141 = .ok (.aload_n 0, 1) := by decide +kernel
theorem dX11_init_142 : decode cX11_init 142 = .ok (.iconst 2, 1) := by decide +kernel
theorem dX11_init_143 : decode cX11_init 143 = .ok (.newarray .boolean, 2) := by decide +kernel
theorem dX11_init_145 : decode cX11_init 145 = .ok (.putfield 62, 3) := by decide +kernel
theorem dX11_init_148 : decode cX11_init 148 = .ok (.aload_n 0, 1) := by decide +kernel
theorem dX11_init_149 : decode cX11_init 149 = .ok (.getfield 13, 3) := by decide +kernel
theorem dX11_init_152 : decode cX11_init 152 = .ok (.iconst 0, 1) := by decide +kernel
theorem dX11_init_153 : decode cX11_init 153 = .ok (.bipush 10, 2) := by decide +kernel
theorem dX11_init_155 : decode cX11_init 155 = .ok (.iastore, 1) := by decide +kernel
theorem dX11_init_156 : decode cX11_init 156 = .ok (.aload_n 0, 1) := by decide +kernel
theorem dX11_init_157 : decode cX11_init 157 = .ok (.getfield 13, 3) := by decide +kernel
theorem dX11_init_160 : decode cX11_init 160 = .ok (.iconst 2, 1) := by decide +kernel
theorem dX11_init_161 : decode cX11_init 161 = .ok (.bipush 30, 2) := by decide +kernel
theorem dX11_init_163 : decode cX11_init 163 = .ok (.iastore, 1) := by decide +kernel
theorem dX11_init_164 : decode cX11_init 164 = .ok (.aload_n 0, 1) := by decide +kernel
theorem dX11_init_165 : decode cX11_init 165 = .ok (.getfield 13, 3) := by decide +kernel
theorem dX11_init_168 : decode cX11_init 168 = .ok (.iconst 3, 1) := by decide +kernel
theorem dX11_init_169 : decode cX11_init 169 = .ok (.bipush 20, 2) := by decide +kernel
theorem dX11_init_171 : decode cX11_init 171 = .ok (.iastore, 1) := by decide +kernel
theorem dX11_init_172 : decode cX11_init 172 = .ok (.aload_n 0, 1) := by decide +kernel
theorem dX11_init_173 : decode cX11_init 173 = .ok (.getfield 13, 3) := by decide +kernel
theorem dX11_init_176 : decode cX11_init 176 = .ok (.iconst 4, 1) := by decide +kernel
theorem dX11_init_177 : decode cX11_init 177 = .ok (.sipush 500, 3) := by decide +kernel
theorem dX11_init_180 : decode cX11_init 180 = .ok (.iastore, 1) := by decide +kernel
theorem dX11_init_181 : decode cX11_init 181 = .ok (.aload_n 0, 1) := by decide +kernel
theorem dX11_init_182 : decode cX11_init 182 = .ok (.getfield 7, 3) := by decide +kernel
theorem dX11_init_185 : decode cX11_init 185 = .ok (.iconst 0, 1) := by decide +kernel
theorem dX11_init_186 : decode cX11_init 186 = .ok (.iconst 0, 1) := by decide +kernel
theorem dX11_init_187 : decode cX11_init 187 = .ok (.iastore, 1) := by decide +kernel
theorem dX11_init_188 : decode cX11_init 188 = .ok (.aload_n 0, 1) := by decide +kernel
theorem dX11_init_189 : decode cX11_init 189 = .ok (.getfield 7, 3) := by decide +kernel
theorem dX11_init_192 : decode cX11_init 192 = .ok (.iconst 1, 1) := by decide +kernel
theorem dX11_init_193 : decode cX11_init 193 = .ok (.sipush 2588, 3) := by decide +kernel
theorem dX11_init_196 : decode cX11_init 196 = .ok (.iastore, 1) := by decide +kernel
theorem dX11_init_197 : decode cX11_init 197 = .ok (.aload_n 0, 1) := by decide +kernel
theorem dX11_init_198 : decode cX11_init 198 = .ok (.getfield 7, 3) := by decide +kernel
theorem dX11_init_201 : decode cX11_init 201 = .ok (.iconst 2, 1) := by decide +kernel
theorem dX11_init_202 : decode cX11_init 202 = .ok (.sipush 5000, 3) := by decide +kernel
theorem dX11_init_205 : decode cX11_init 205 = .ok (.iastore, 1) := by decide +kernel
theorem dX11_init_206 : decode cX11_init 206 = .ok (.aload_n 0, 1) := by decide +kernel
theorem dX11_init_207 : decode cX11_init 207 = .ok (.getfield 7, 3) := by decide +kernel
theorem dX11_init_210 : decode cX11_init 210 = .ok (.iconst 3, 1) := by decide +kernel
theorem dX11_init_211 : decode cX11_init 211 = .ok (.sipush 7071, 3) := by decide +kernel
theorem dX11_init_214 : decode cX11_init 214 = .ok (.iastore, 1) := by decide +kernel
theorem dX11_init_215 : decode cX11_init 215 = .ok (.aload_n 0, 1) := by decide +kernel
theorem dX11_init_216 : decode cX11_init 216 = .ok (.getfield 7, 3) := by decide +kernel
theorem dX11_init_219 : decode cX11_init 219 = .ok (.iconst 4, 1) := by decide +kernel
theorem dX11_init_220 : decode cX11_init 220 = .ok (.sipush 8660, 3) := by decide +kernel
theorem dX11_init_223 : decode cX11_init 223 = .ok (.iastore, 1) := by decide +kernel
theorem dX11_init_224 : decode cX11_init 224 = .ok (.aload_n 0, 1) := by decide +kernel
theorem dX11_init_225 : decode cX11_init 225 = .ok (.getfield 7, 3) := by decide +kernel
theorem dX11_init_228 : decode cX11_init 228 = .ok (.iconst 5, 1) := by decide +kernel
theorem dX11_init_229 : decode cX11_init 229 = .ok (.sipush 9659, 3) := by decide +kernel
theorem dX11_init_232 : decode cX11_init 232 = .ok (.iastore, 1) := by decide +kernel
theorem dX11_init_233 : decode cX11_init 233 = .ok (.aload_n 0, 1) := by decide +kernel
theorem dX11_init_234 : decode cX11_init 234 = .ok (.getfield 7, 3) := by decide +kernel
theorem dX11_init_237 : decode cX11_init 237 = .ok (.bipush 6, 2) := by decide +kernel
theorem dX11_init_239 : decode cX11_init 239 = .ok (.sipush 10000, 3) := by decide +kernel
theorem dX11_init_242 : decode cX11_init 242 = .ok (.iastore, 1) := by decide +kernel
theorem dX11_init_243 : decode cX11_init 243 = .ok (.bipush 7, 2) := by decide +kernel
theorem dX11_init_245 : decode cX11_init 245 = .ok (.istore_n 1, 1) := by decide +kernel
theorem dX11_init_246 : decode cX11_init 246 = .ok (.iload_n 1, 1) := by decide +kernel
theorem dX11_init_247 : decode cX11_init 247 = .ok (.bipush 12, 2) := by decide +kernel
theorem dX11_init_249 : decode cX11_init 249 = .ok (.if_icmp .gt 24, 3) := by decide +kernel
theorem dX11_init_252 : decode cX11_init 252 = .ok (.aload_n 0, 1) := by decide +kernel
theorem dX11_init_253 : decode cX11_init 253 = .ok (.getfield 7, 3) := by decide +kernel
theorem dX11_init_256 : decode cX11_init 256 = .ok (.iload_n 1, 1) := by decide +kernel
theorem dX11_init_257 : decode cX11_init 257 = .ok (.aload_n 0, 1) := by decide +kernel
theorem dX11_init_258 : decode cX11_init 258 = .ok (.getfield 7, 3) := by decide +kernel
theorem dX11_init_261 : decode cX11_init 261 = .ok (.bipush 12, 2) := by decide +kernel
theorem dX11_init_263 : decode cX11_init 263 = .ok (.iload_n 1, 1) := by decide +kernel
theorem dX11_init_264 : decode cX11_init 264 = .ok (.isub, 1) := by decide +kernel
theorem dX11_init_265 : decode cX11_init 265 = .ok (.iaload, 1) := by decide +kernel
theorem dX11_init_266 : decode cX11_init 266 = .ok (.iastore, 1) := by decide +kernel
theorem dX11_init_267 : decode cX11_init 267 = .ok (.iinc 1 1, 3) := by decide +kernel
theorem dX11_init_270 : decode cX11_init 270 = .ok (.goto (-24), 3) := by decide +kernel
theorem dX11_init_273 : decode cX11_init 273 = .ok (.bipush 13, 2) := by decide +kernel
theorem dX11_init_275 : decode cX11_init 275 = .ok (.istore_n 1, 1) := by decide +kernel
theorem dX11_init_276 : decode cX11_init 276 = .ok (.iload_n 1, 1) := by decide +kernel
theorem dX11_init_277 : decode cX11_init 277 = .ok (.bipush 24, 2) := by decide +kernel
theorem dX11_init_279 : decode cX11_init 279 = .ok (.if_icmp .ge 25, 3) := by decide +kernel
theorem dX11_init_282 : decode cX11_init 282 = .ok (.aload_n 0, 1) := by decide +kernel
theorem dX11_init_283 : decode cX11_init 283 = .ok (.getfield 7, 3) := by decide +kernel
theorem dX11_init_286 : decode cX11_init 286 = .ok (.iload_n 1, 1) := by decide +kernel
theorem dX11_init_287 : decode cX11_init 287 = .ok (.aload_n 0, 1) := by decide +kernel
theorem dX11_init_288 : decode cX11_init 288 = .ok (.getfield 7, 3) := by decide +kernel
theorem dX11_init_291 : decode cX11_init 291 = .ok (.iload_n 1, 1) := by decide +kernel
theorem dX11_init_292 : decode cX11_init 292 = .ok (.bipush 12, 2) := by decide +kernel
theorem dX11_init_294 : decode cX11_init 294 = .ok (.isub, 1) := by decide +kernel
theorem dX11_init_295 : decode cX11_init 295 = .ok (.iaload, 1) := by decide +kernel
theorem dX11_init_296 : decode cX11_init 296 = .ok (.ineg, 1) := by decide +kernel
theorem dX11_init_297 : decode cX11_init 297 = .ok (.iastore, 1) := by decide +kernel
theorem dX11_init_298 : decode cX11_init 298 = .ok (.iinc 1 1, 3) := by decide +kernel
theorem dX11_init_301 : decode cX11_init 301 = .ok (.goto (-25), 3) := by decide +kernel
theorem dX11_init_304 : decode cX11_init 304 = .ok (.return_, 1) := by decide +kernel
theorem dX11_in_0 : decode cX11_in 0 = .ok (.lload_n 0, 1) := by decide +kernel
theorem dX11_in_1 : decode cX11_in 1 = .ok (.lload_n 2, 1) := by decide +kernel
theorem dX11_in_2 : decode cX11_in 2 = .ok (.lcmp, 1) := by decide +kernel
theorem dX11_in_3 : decode cX11_in 3 = .ok (.ifCond .lt 14, 3) := by decide +kernel
theorem dX11_in_6 : decode cX11_in 6 = .ok (.lload_n 0, 1) := by decide +kernel
theorem dX11_in_7 : decode cX11_in 7 = .ok (.lload 4, 2) := by decide +kernel
theorem dX11_in_9 : decode cX11_in 9 = .ok (.lcmp, 1) := by decide +kernel
theorem dX11_in_10 : decode cX11_in 10 = .ok (.ifCond .gt 7, 3) := by decide +kernel
theorem dX11_in_13 : decode cX11_in 13 = .ok (.iconst 1, 1) := by decide +kernel
theorem dX11_in_14 : decode cX11_in 14 = .ok (.goto 4, 3) := by decide +kernel
theorem dX11_in_17 : decode cX11_in 17 = .ok (.iconst 0, 1) := by decide +kernel
theorem dX11_in_18 : decode cX11_in 18 = .ok (.ireturn, 1) := by decide +kernel
theorem dX11_size_0 : decode cX11_size 0 = .ok (.iload_n 0, 1) := by decide +kernel
theorem dX11_size_1 : decode cX11_size 1 = .ok (.ifCond .ge 8, 3) := by decide +kernel
theorem dX11_size_4 : decode cX11_size 4 = .ok (.iload_n 0, 1) := by decide +kernel
theorem dX11_size_5 : decode cX11_size 5 = .ok (.ineg, 1) := by decide +kernel
theorem dX11_size_6 : decode cX11_size 6 = .ok (.goto 4, 3) := by decide +kernel
theorem dX11_size_9 : decode cX11_size 9 = .ok (.iload_n 0, 1) := by decide +kernel
theorem dX11_size_10 : decode cX11_size 10 = .ok (.ireturn, 1) := by decide +kernel
theorem dX11_isWay_0 : decode cX11_isWay 0 = .ok (.iload_n 0, 1) := by decide +kernel
theorem dX11_isWay_1 : decode cX11_isWay 1 = .ok (.i2l, 1) := by decide +kernel
theorem dX11_isWay_2 : decode cX11_isWay 2 = .ok (.lconst 0, 1) := by decide +kernel
theorem dX11_isWay_3 : decode cX11_isWay 3 = .ok (.ldc2_w 65, 3) := by decide +kernel
theorem dX11_isWay_6 : decode cX11_isWay 6 = .ok (.invokestatic 67, 3) := by decide +kernel
theorem dX11_isWay_9 : decode cX11_isWay 9 = .ok (.ireturn, 1) := by decide +kernel
theorem dX11_isTick_0 : decode cX11_isTick 0 = .ok (.iload_n 0, 1) := by decide +kernel
theorem dX11_isTick_1 : decode cX11_isTick 1 = .ok (.i2l, 1) := by decide +kernel
theorem dX11_isTick_2 : decode cX11_isTick 2 = .ok (.lconst 0, 1) := by decide +kernel
theorem dX11_isTick_3 : decode cX11_isTick 3 = .ok (.ldc2_w 71, 3) := by decide +kernel
theorem dX11_isTick_6 : decode cX11_isTick 6 = .ok (.invokestatic 67, 3) := by decide +kernel
theorem dX11_isTick_9 : decode cX11_isTick 9 = .ok (.ireturn, 1) := by decide +kernel
theorem dX11_isEnd_0 : decode cX11_isEnd 0 = .ok (.iload_n 0, 1) := by decide +kernel
theorem dX11_isEnd_1 : decode cX11_isEnd 1 = .ok (.i2l, 1) := by decide +kernel
theorem dX11_isEnd_2 : decode cX11_isEnd 2 = .ok (.lconst 0, 1) := by decide +kernel
theorem dX11_isEnd_3 : decode cX11_isEnd 3 = .ok (.lconst 1, 1) := by decide +kernel
theorem dX11_isEnd_4 : decode cX11_isEnd 4 = .ok (.invokestatic 67, 3) := by decide +kernel
theorem dX11_isEnd_7 : decode cX11_isEnd 7 = .ok (.ireturn, 1) := by decide +kernel
theorem dX11_turnPoint_0 : decode cX11_turnPoint 0 = .ok (.aload_n 0, 1) := by decide +kernel
theorem dX11_turnPoint_1 : decode cX11_turnPoint 1 = .ok (.getfield 7, 3) := by decide +kernel
theorem dX11_turnPoint_4 : decode cX11_turnPoint 4 = .ok (.iload_n 3, 1) := by decide +kernel
theorem dX11_turnPoint_5 : decode cX11_turnPoint 5 = .ok (.iaload, 1) := by decide +kernel
theorem dX11_turnPoint_6 : decode cX11_turnPoint 6 = .ok (.i2l, 1) := by decide +kernel
theorem dX11_turnPoint_7 : decode cX11_turnPoint 7 = .ok (.lstore 4, 2) := by decide +kernel
theorem dX11_turnPoint_9 : decode cX11_turnPoint 9 = .ok (.aload_n 0, 1) := by decide +kernel
theorem dX11_turnPoint_10 : decode cX11_turnPoint 10 = .ok (.getfield 7, 3) := by decide +kernel
theorem dX11_turnPoint_13 : decode cX11_turnPoint 13 = .ok (.iload_n 3, 1) := by decide +kernel
theorem dX11_turnPoint_14 : decode cX11_turnPoint 14 = .ok (.bipush 6, 2) := by decide +kernel
theorem dX11_turnPoint_16 : decode cX11_turnPoint 16 = .ok (.iadd, 1) := by decide +kernel
theorem dX11_turnPoint_17 : decode cX11_turnPoint 17 = .ok (.bipush 24, 2) := by decide +kernel
theorem dX11_turnPoint_19 : decode cX11_turnPoint 19 = .ok (.irem, 1) := by decide +kernel
theorem dX11_turnPoint_20 : decode cX11_turnPoint 20 = .ok (.iaload, 1) := by decide +kernel
theorem dX11_turnPoint_21 : decode cX11_turnPoint 21 = .ok (.i2l, 1) := by decide +kernel
theorem dX11_turnPoint_22 : decode cX11_turnPoint 22 = .ok (.lstore 6, 2) := by decide +kernel
theorem dX11_turnPoint_24 : decode cX11_turnPoint 24 = .ok (.aload_n 0, 1) := by decide +kernel
theorem dX11_turnPoint_25 : decode cX11_turnPoint 25 = .ok (.iload_n 1, 1) := by decide +kernel
theorem dX11_turnPoint_26 : decode cX11_turnPoint 26 = .ok (.i2l, 1) := by decide +kernel
theorem dX11_turnPoint_27 : decode cX11_turnPoint 27 = .ok (.lload 6, 2) := by decide +kernel
theorem dX11_turnPoint_29 : decode cX11_turnPoint 29 = .ok (.lmul, 1) := by decide +kernel
theorem dX11_turnPoint_30 : decode cX11_turnPoint 30 = .ok (.iload_n 2, 1) := by decide +kernel
theorem dX11_turnPoint_31 : decode cX11_turnPoint 31 = .ok (.i2l, 1) := by decide +kernel
theorem dX11_turnPoint_32 : decode cX11_turnPoint 32 = .ok (.lload 4, 2) := by decide +kernel
theorem dX11_turnPoint_34 : decode cX11_turnPoint 34 = .ok (.lmul, 1) := by decide +kernel
theorem dX11_turnPoint_35 : decode cX11_turnPoint 35 = .ok (.lsub, 1) := by decide +kernel
theorem dX11_turnPoint_36 : decode cX11_turnPoint 36 = .ok (.ldc2_w 73, 3) := by decide +kernel
theorem dX11_turnPoint_39 : decode cX11_turnPoint 39 = .ok (.ldiv, 1) := by decide +kernel
theorem dX11_turnPoint_40 : decode cX11_turnPoint 40 = .ok (.l2i, 1) := by decide +kernel
theorem dX11_turnPoint_41 : decode cX11_turnPoint 41 = .ok (.putfield 75, 3) := by decide +kernel
theorem dX11_turnPoint_44 : decode cX11_turnPoint 44 = .ok (.aload_n 0, 1) := by decide +kernel
theorem dX11_turnPoint_45 : decode cX11_turnPoint 45 = .ok (.iload_n 1, 1) := by decide +kernel
theorem dX11_turnPoint_46 : decode cX11_turnPoint 46 = .ok (.i2l, 1) := by decide +kernel
theorem dX11_turnPoint_47 : decode cX11_turnPoint 47 = .ok (.lload 4, 2) := by decide +kernel
theorem dX11_turnPoint_49 : decode cX11_turnPoint 49 = .ok (.lmul, 1) := by decide +kernel
theorem dX11_turnPoint_50 : decode cX11_turnPoint 50 = .ok (.iload_n 2, 1) := by decide +kernel
theorem dX11_turnPoint_51 : decode cX11_turnPoint 51 = .ok (.i2l, 1) := by decide +kernel
theorem dX11_turnPoint_52 : decode cX11_turnPoint 52 = .ok (.lload 6, 2) := by decide +kernel
theorem dX11_turnPoint_54 : decode cX11_turnPoint 54 = .ok (.lmul, 1) := by decide +kernel
theorem dX11_turnPoint_55 : decode cX11_turnPoint 55 = .ok (.ladd, 1) := by decide +kernel
theorem dX11_turnPoint_56 : decode cX11_turnPoint 56 = .ok (.ldc2_w 73, 3) := by decide +kernel
theorem dX11_turnPoint_59 : decode cX11_turnPoint 59 = .ok (.ldiv, 1) := by decide +kernel
theorem dX11_turnPoint_60 : decode cX11_turnPoint 60 = .ok (.l2i, 1) := by decide +kernel
theorem dX11_turnPoint_61 : decode cX11_turnPoint 61 = .ok (.putfield 79, 3) := by decide +kernel
theorem dX11_turnPoint_64 : decode cX11_turnPoint 64 = .ok (.return_, 1) := by decide +kernel
theorem dX11_set_0 : decode cX11_set 0 = .ok (.iload_n 1, 1) := by decide +kernel
theorem dX11_set_1 : decode cX11_set 1 = .ok (.ifCond .ne 7, 3) := by decide +kernel
theorem dX11_set_4 : decode cX11_set 4 = .ok (.iconst 1, 1) := by decide +kernel
theorem dX11_set_5 : decode cX11_set 5 = .ok (.goto 14, 3) := by decide +kernel
theorem dX11_set_8 : decode cX11_set 8 = .ok (.iload_n 1, 1) := by decide +kernel
theorem dX11_set_9 : decode cX11_set 9 = .ok (.iconst 4, 1) := by decide +kernel
theorem dX11_set_10 : decode cX11_set 10 = .ok (.if_icmp .ne 8, 3) := by decide +kernel
theorem dX11_set_13 : decode cX11_set 13 = .ok (.bipush 100, 2) := by decide +kernel
theorem dX11_set_15 : decode cX11_set 15 = .ok (.goto 4, 3) := by decide +kernel
theorem dX11_set_18 : decode cX11_set 18 = .ok (.iconst 0, 1) := by decide +kernel
theorem dX11_set_19 : decode cX11_set 19 = .ok (.istore_n 3, 1) := by decide +kernel
theorem dX11_set_20 : decode cX11_set 20 = .ok (.iload_n 1, 1) := by decide +kernel
theorem dX11_set_21 : decode cX11_set 21 = .ok (.ifCond .ne 9, 3) := by decide +kernel
theorem dX11_set_24 : decode cX11_set 24 = .ok (.sipush 199, 3) := by decide +kernel
theorem dX11_set_27 : decode cX11_set 27 = .ok (.goto 37, 3) := by decide +kernel
theorem dX11_set_30 : decode cX11_set 30 = .ok (.iload_n 1, 1) := by decide +kernel
theorem dX11_set_31 : decode cX11_set 31 = .ok (.iconst 1, 1) := by decide +kernel
theorem dX11_set_32 : decode cX11_set 32 = .ok (.if_icmp .ne 8, 3) := by decide +kernel
theorem dX11_set_35 : decode cX11_set 35 = .ok (.bipush 9, 2) := by decide +kernel
theorem dX11_set_37 : decode cX11_set 37 = .ok (.goto 27, 3) := by decide +kernel
theorem dX11_set_40 : decode cX11_set 40 = .ok (.iload_n 1, 1) := by decide +kernel
theorem dX11_set_41 : decode cX11_set 41 = .ok (.iconst 2, 1) := by decide +kernel
theorem dX11_set_42 : decode cX11_set 42 = .ok (.if_icmp .ne 9, 3) := by decide +kernel
theorem dX11_set_45 : decode cX11_set 45 = .ok (.sipush 200, 3) := by decide +kernel
theorem dX11_set_48 : decode cX11_set 48 = .ok (.goto 16, 3) := by decide +kernel
theorem dX11_set_51 : decode cX11_set 51 = .ok (.iload_n 1, 1) := by decide +kernel
theorem dX11_set_52 : decode cX11_set 52 = .ok (.iconst 3, 1) := by decide +kernel
theorem dX11_set_53 : decode cX11_set 53 = .ok (.if_icmp .ne 8, 3) := by decide +kernel
theorem dX11_set_56 : decode cX11_set 56 = .ok (.bipush 100, 2) := by decide +kernel
theorem dX11_set_58 : decode cX11_set 58 = .ok (.goto 6, 3) := by decide +kernel
theorem dX11_set_61 : decode cX11_set 61 = .ok (.sipush 1000, 3) := by decide +kernel
theorem dX11_set_64 : decode cX11_set 64 = .ok (.istore 4, 2) := by decide +kernel
theorem dX11_set_66 : decode cX11_set 66 = .ok (.iload_n 1, 1) := by decide +kernel
theorem dX11_set_67 : decode cX11_set 67 = .ok (.i2l, 1) := by decide +kernel
theorem dX11_set_68 : decode cX11_set 68 = .ok (.lconst 0, 1) := by decide +kernel
theorem dX11_set_69 : decode cX11_set 69 = .ok (.ldc2_w 82, 3) := by decide +kernel
theorem dX11_set_72 : decode cX11_set 72 = .ok (.invokestatic 67, 3) := by decide +kernel
theorem dX11_set_75 : decode cX11_set 75 = .ok (.ifCond .eq 16, 3) := by decide +kernel
theorem dX11_set_78 : decode cX11_set 78 = .ok (.iload_n 2, 1) := by decide +kernel
theorem dX11_set_79 : decode cX11_set 79 = .ok (.i2l, 1) := by decide +kernel
theorem dX11_set_80 : decode cX11_set 80 = .ok (.iload_n 3, 1) := by decide +kernel
theorem dX11_set_81 : decode cX11_set 81 = .ok (.i2l, 1) := by decide +kernel
theorem dX11_set_82 : decode cX11_set 82 = .ok (.iload 4, 2) := by decide +kernel
theorem dX11_set_84 : decode cX11_set 84 = .ok (.i2l, 1) := by decide +kernel
theorem dX11_set_85 : decode cX11_set 85 = .ok (.invokestatic 67, 3) := by decide +kernel
theorem dX11_set_88 : decode cX11_set 88 = .ok (.ifCond .ne 6, 3) := by decide +kernel
theorem dX11_set_91 : decode cX11_set 91 = .ok (.bipush (-2), 2) := by decide +kernel
theorem dX11_set_93 : decode cX11_set 93 = .ok (.ireturn, 1) := by decide +kernel
theorem dX11_set_94 : decode cX11_set 94 = .ok (.aload_n 0, 1) := by decide +kernel
theorem dX11_set_95 : decode cX11_set 95 = .ok (.iload_n 1, 1) := by decide +kernel
theorem dX11_set_96 : decode cX11_set 96 = .ok (.invokevirtual 84, 3) := by decide +kernel
theorem dX11_set_99 : decode cX11_set 99 = .ok (.istore 5, 2) := by decide +kernel
theorem dX11_set_101 : decode cX11_set 101 = .ok (.aload_n 0, 1) := by decide +kernel
theorem dX11_set_102 : decode cX11_set 102 = .ok (.getfield 13, 3) := by decide +kernel
theorem dX11_set_105 : decode cX11_set 105 = .ok (.iload_n 1, 1) := by decide +kernel
theorem dX11_set_106 : decode cX11_set 106 = .ok (.iload_n 1, 1) := by decide +kernel
theorem dX11_set_107 : decode cX11_set 107 = .ok (.ifCond .ne 10, 3) := by decide +kernel
theorem dX11_set_110 : decode cX11_set 110 = .ok (.iload_n 2, 1) := by decide +kernel
theorem dX11_set_111 : decode cX11_set 111 = .ok (.bipush 100, 2) := by decide +kernel
theorem dX11_set_113 : decode cX11_set 113 = .ok (.isub, 1) := by decide +kernel
theorem dX11_set_114 : decode cX11_set 114 = .ok (.goto 4, 3) := by decide +kernel
theorem dX11_set_117 : decode cX11_set 117 = .ok (.iload_n 2, 1) := by decide +kernel
theorem dX11_set_118 : decode cX11_set 118 = .ok (.iastore, 1) := by decide +kernel
theorem dX11_set_119 : decode cX11_set 119 = .ok (.iload 5, 2) := by decide +kernel
theorem dX11_set_121 : decode cX11_set 121 = .ok (.ireturn, 1) := by decide +kernel
theorem dX11_setNow_0 : decode cX11_setNow 0 = .ok (.iload_n 1, 1) := by decide +kernel
theorem dX11_setNow_1 : decode cX11_setNow 1 = .ok (.ifCond .ne 15, 3) := by decide +kernel
theorem dX11_setNow_4 : decode cX11_setNow 4 = .ok (.aload_n 0, 1) := by decide +kernel
theorem dX11_setNow_5 : decode cX11_setNow 5 = .ok (.getfield 13, 3) := by decide +kernel
theorem dX11_setNow_8 : decode cX11_setNow 8 = .ok (.iconst 0, 1) := by decide +kernel
theorem dX11_setNow_9 : decode cX11_setNow 9 = .ok (.iaload, 1) := by decide +kernel
theorem dX11_setNow_10 : decode cX11_setNow 10 = .ok (.bipush 100, 2) := by decide +kernel
theorem dX11_setNow_12 : decode cX11_setNow 12 = .ok (.iadd, 1) := by decide +kernel
theorem dX11_setNow_13 : decode cX11_setNow 13 = .ok (.goto 9, 3) := by decide +kernel
theorem dX11_setNow_16 : decode cX11_setNow 16 = .ok (.aload_n 0, 1) := by decide +kernel
theorem dX11_setNow_17 : decode cX11_setNow 17 = .ok (.getfield 13, 3) := by decide +kernel
theorem dX11_setNow_20 : decode cX11_setNow 20 = .ok (.iload_n 1, 1) := by decide +kernel
theorem dX11_setNow_21 : decode cX11_setNow 21 = .ok (.iaload, 1) := by decide +kernel
theorem dX11_setNow_22 : decode cX11_setNow 22 = .ok (.ireturn, 1) := by decide +kernel
theorem dX11_say_0 : decode cX11_say 0 = .ok (.iload_n 1, 1) := by decide +kernel
theorem dX11_say_1 : decode cX11_say 1 = .ok (.i2l, 1) := by decide +kernel
theorem dX11_say_2 : decode cX11_say 2 = .ok (.ldc2_w 88, 3) := by decide +kernel
theorem dX11_say_5 : decode cX11_say 5 = .ok (.ldc2_w 90, 3) := by decide +kernel
theorem dX11_say_8 : decode cX11_say 8 = .ok (.invokestatic 67, 3) := by decide +kernel
theorem dX11_say_11 : decode cX11_say 11 = .ok (.ifCond .ne 6, 3) := by decide +kernel
theorem dX11_say_14 : decode cX11_say 14 = .ok (.bipush (-2), 2) := by decide +kernel
theorem dX11_say_16 : decode cX11_say 16 = .ok (.ireturn, 1) := by decide +kernel
theorem dX11_say_17 : decode cX11_say 17 = .ok (.aload_n 0, 1) := by decide +kernel
theorem dX11_say_18 : decode cX11_say 18 = .ok (.getfield 92, 3) := by decide +kernel
theorem dX11_say_21 : decode cX11_say 21 = .ok (.bipush 40, 2) := by decide +kernel
theorem dX11_say_23 : decode cX11_say 23 = .ok (.if_icmp .ne 6, 3) := by decide +kernel
theorem dX11_say_26 : decode cX11_say 26 = .ok (.bipush (-4), 2) := by decide +kernel
theorem dX11_say_28 : decode cX11_say 28 = .ok (.ireturn, 1) := by decide +kernel
theorem dX11_say_29 : decode cX11_say 29 = .ok (.aload_n 0, 1) := by decide +kernel
theorem dX11_say_30 : decode cX11_say 30 = .ok (.getfield 22, 3) := by decide +kernel
theorem dX11_say_33 : decode cX11_say 33 = .ok (.aload_n 0, 1) := by decide +kernel
theorem dX11_say_34 : decode cX11_say 34 = .ok (.getfield 92, 3) := by decide +kernel
theorem dX11_say_37 : decode cX11_say 37 = .ok (.iload_n 1, 1) := by decide +kernel
theorem dX11_say_38 : decode cX11_say 38 = .ok (.iastore, 1) := by decide +kernel
theorem dX11_say_39 : decode cX11_say 39 = .ok (.aload_n 0, 1) := by decide +kernel
theorem dX11_say_40 : decode cX11_say 40 = .ok (.dup, 1) := by decide +kernel
theorem dX11_say_41 : decode cX11_say 41 = .ok (.getfield 92, 3) := by decide +kernel
theorem dX11_say_44 : decode cX11_say 44 = .ok (.iconst 1, 1) := by decide +kernel
theorem dX11_say_45 : decode cX11_say 45 = .ok (.iadd, 1) := by decide +kernel
theorem dX11_say_46 : decode cX11_say 46 = .ok (.putfield 92, 3) := by decide +kernel
theorem dX11_say_49 : decode cX11_say 49 = .ok (.aload_n 0, 1) := by decide +kernel
theorem dX11_say_50 : decode cX11_say 50 = .ok (.getfield 92, 3) := by decide +kernel
theorem dX11_say_53 : decode cX11_say 53 = .ok (.ireturn, 1) := by decide +kernel
theorem dX11_wipe_0 : decode cX11_wipe 0 = .ok (.aload_n 0, 1) := by decide +kernel
theorem dX11_wipe_1 : decode cX11_wipe 1 = .ok (.getfield 92, 3) := by decide +kernel
theorem dX11_wipe_4 : decode cX11_wipe 4 = .ok (.istore_n 1, 1) := by decide +kernel
theorem dX11_wipe_5 : decode cX11_wipe 5 = .ok (.aload_n 0, 1) := by decide +kernel
theorem dX11_wipe_6 : decode cX11_wipe 6 = .ok (.iconst 0, 1) := by decide +kernel
theorem dX11_wipe_7 : decode cX11_wipe 7 = .ok (.putfield 92, 3) := by decide +kernel
theorem dX11_wipe_10 : decode cX11_wipe 10 = .ok (.iload_n 1, 1) := by decide +kernel
theorem dX11_wipe_11 : decode cX11_wipe 11 = .ok (.ireturn, 1) := by decide +kernel
theorem dX11_isDigit_0 : decode cX11_isDigit 0 = .ok (.iload_n 0, 1) := by decide +kernel
theorem dX11_isDigit_1 : decode cX11_isDigit 1 = .ok (.i2l, 1) := by decide +kernel
theorem dX11_isDigit_2 : decode cX11_isDigit 2 = .ok (.ldc2_w 95, 3) := by decide +kernel
theorem dX11_isDigit_5 : decode cX11_isDigit 5 = .ok (.ldc2_w 97, 3) := by decide +kernel
theorem dX11_isDigit_8 : decode cX11_isDigit 8 = .ok (.invokestatic 67, 3) := by decide +kernel
theorem dX11_isDigit_11 : decode cX11_isDigit 11 = .ok (.ireturn, 1) := by decide +kernel
theorem dX11_fault_0 : decode cX11_fault 0 = .ok (.iconst 0, 1) := by decide +kernel
theorem dX11_fault_1 : decode cX11_fault 1 = .ok (.istore_n 1, 1) := by decide +kernel
theorem dX11_fault_2 : decode cX11_fault 2 = .ok (.iconst 0, 1) := by decide +kernel
theorem dX11_fault_3 : decode cX11_fault 3 = .ok (.istore_n 2, 1) := by decide +kernel
theorem dX11_fault_4 : decode cX11_fault 4 = .ok (.iload_n 2, 1) := by decide +kernel
theorem dX11_fault_5 : decode cX11_fault 5 = .ok (.aload_n 0, 1) := by decide +kernel
theorem dX11_fault_6 : decode cX11_fault 6 = .ok (.getfield 92, 3) := by decide +kernel
theorem dX11_fault_9 : decode cX11_fault 9 = .ok (.if_icmp .ge 108, 3) := by decide +kernel
theorem dX11_fault_12 : decode cX11_fault 12 = .ok (.aload_n 0, 1) := by decide +kernel
theorem dX11_fault_13 : decode cX11_fault 13 = .ok (.getfield 22, 3) := by decide +kernel
theorem dX11_fault_16 : decode cX11_fault 16 = .ok (.iload_n 2, 1) := by decide +kernel
theorem dX11_fault_17 : decode cX11_fault 17 = .ok (.iaload, 1) := by decide +kernel
theorem dX11_fault_18 : decode cX11_fault 18 = .ok (.istore_n 3, 1) := by decide +kernel
theorem dX11_fault_19 : decode cX11_fault 19 = .ok (.iload_n 1, 1) := by decide +kernel
theorem dX11_fault_20 : decode cX11_fault 20 = .ok (.iconst 1, 1) := by decide +kernel
theorem dX11_fault_21 : decode cX11_fault 21 = .ok (.if_icmp .ne 24, 3) := by decide +kernel
theorem dX11_fault_24 : decode cX11_fault 24 = .ok (.iload_n 3, 1) := by decide +kernel
theorem dX11_fault_25 : decode cX11_fault 25 = .ok (.i2l, 1) := by decide +kernel
theorem dX11_fault_26 : decode cX11_fault 26 = .ok (.ldc2_w 99, 3) := by decide +kernel
theorem dX11_fault_29 : decode cX11_fault 29 = .ok (.ldc2_w 97, 3) := by decide +kernel
theorem dX11_fault_32 : decode cX11_fault 32 = .ok (.invokestatic 67, 3) := by decide +kernel
theorem dX11_fault_35 : decode cX11_fault 35 = .ok (.ifCond .ne 5, 3) := by decide +kernel
theorem dX11_fault_38 : decode cX11_fault 38 = .ok (.iload_n 2, 1) := by decide +kernel
theorem dX11_fault_39 : decode cX11_fault 39 = .ok (.ireturn, 1) := by decide +kernel
theorem dX11_fault_40 : decode cX11_fault 40 = .ok (.iconst 0, 1) := by decide +kernel
theorem dX11_fault_41 : decode cX11_fault 41 = .ok (.istore_n 1, 1) := by decide +kernel
theorem dX11_fault_42 : decode cX11_fault 42 = .ok (.goto 69, 3) := by decide +kernel
theorem dX11_fault_45 : decode cX11_fault 45 = .ok (.iload_n 1, 1) := by decide +kernel
theorem dX11_fault_46 : decode cX11_fault 46 = .ok (.iconst 2, 1) := by decide +kernel
theorem dX11_fault_47 : decode cX11_fault 47 = .ok (.if_icmp .ne 17, 3) := by decide +kernel
theorem dX11_fault_50 : decode cX11_fault 50 = .ok (.iload_n 3, 1) := by decide +kernel
theorem dX11_fault_51 : decode cX11_fault 51 = .ok (.invokestatic 101, 3) := by decide +kernel
theorem dX11_fault_54 : decode cX11_fault 54 = .ok (.ifCond .ne 5, 3) := by decide +kernel
theorem dX11_fault_57 : decode cX11_fault 57 = .ok (.iload_n 2, 1) := by decide +kernel
theorem dX11_fault_58 : decode cX11_fault 58 = .ok (.ireturn, 1) := by decide +kernel
theorem dX11_fault_59 : decode cX11_fault 59 = .ok (.iconst 3, 1) := by decide +kernel
theorem dX11_fault_60 : decode cX11_fault 60 = .ok (.istore_n 1, 1) := by decide +kernel
theorem dX11_fault_61 : decode cX11_fault 61 = .ok (.goto 50, 3) := by decide +kernel
theorem dX11_fault_64 : decode cX11_fault 64 = .ok (.iload_n 1, 1) := by decide +kernel
theorem dX11_fault_65 : decode cX11_fault 65 = .ok (.iconst 3, 1) := by decide +kernel
theorem dX11_fault_66 : decode cX11_fault 66 = .ok (.if_icmp .ne 15, 3) := by decide +kernel
theorem dX11_fault_69 : decode cX11_fault 69 = .ok (.iload_n 3, 1) := by decide +kernel
theorem dX11_fault_70 : decode cX11_fault 70 = .ok (.invokestatic 101, 3) := by decide +kernel
theorem dX11_fault_73 : decode cX11_fault 73 = .ok (.ifCond .eq 8, 3) := by decide +kernel
theorem dX11_fault_76 : decode cX11_fault 76 = .ok (.iconst 0, 1) := by decide +kernel
theorem dX11_fault_77 : decode cX11_fault 77 = .ok (.istore_n 1, 1) := by decide +kernel
theorem dX11_fault_78 : decode cX11_fault 78 = .ok (.goto 33, 3) := by decide +kernel
theorem dX11_fault_81 : decode cX11_fault 81 = .ok (.iload_n 3, 1) := by decide +kernel
theorem dX11_fault_82 : decode cX11_fault 82 = .ok (.bipush 46, 2) := by decide +kernel
theorem dX11_fault_84 : decode cX11_fault 84 = .ok (.if_icmp .ne 8, 3) := by decide +kernel
theorem dX11_fault_87 : decode cX11_fault 87 = .ok (.iconst 1, 1) := by decide +kernel
theorem dX11_fault_88 : decode cX11_fault 88 = .ok (.istore_n 1, 1) := by decide +kernel
theorem dX11_fault_89 : decode cX11_fault 89 = .ok (.goto 22, 3) := by decide +kernel
theorem dX11_fault_92 : decode cX11_fault 92 = .ok (.iload_n 3, 1) := by decide +kernel
theorem dX11_fault_93 : decode cX11_fault 93 = .ok (.bipush 43, 2) := by decide +kernel
theorem dX11_fault_95 : decode cX11_fault 95 = .ok (.if_icmp .eq 9, 3) := by decide +kernel
theorem dX11_fault_98 : decode cX11_fault 98 = .ok (.iload_n 3, 1) := by decide +kernel
theorem dX11_fault_99 : decode cX11_fault 99 = .ok (.bipush 45, 2) := by decide +kernel
theorem dX11_fault_101 : decode cX11_fault 101 = .ok (.if_icmp .ne 8, 3) := by decide +kernel
theorem dX11_fault_104 : decode cX11_fault 104 = .ok (.iconst 2, 1) := by decide +kernel
theorem dX11_fault_105 : decode cX11_fault 105 = .ok (.istore_n 1, 1) := by decide +kernel
theorem dX11_fault_106 : decode cX11_fault 106 = .ok (.goto 5, 3) := by decide +kernel
theorem dX11_fault_109 : decode cX11_fault 109 = .ok (.iload_n 2, 1) := by decide +kernel
theorem dX11_fault_110 : decode cX11_fault 110 = .ok (.ireturn, 1) := by decide +kernel
theorem dX11_fault_111 : decode cX11_fault 111 = .ok (.iinc 2 1, 3) := by decide +kernel
theorem dX11_fault_114 : decode cX11_fault 114 = .ok (.goto (-110), 3) := by decide +kernel
theorem dX11_fault_117 : decode cX11_fault 117 = .ok (.iload_n 1, 1) := by decide +kernel
theorem dX11_fault_118 : decode cX11_fault 118 = .ok (.iconst 1, 1) := by decide +kernel
theorem dX11_fault_119 : decode cX11_fault 119 = .ok (.if_icmp .eq 8, 3) := by decide +kernel
theorem dX11_fault_122 : decode cX11_fault 122 = .ok (.iload_n 1, 1) := by decide +kernel
theorem dX11_fault_123 : decode cX11_fault 123 = .ok (.iconst 2, 1) := by decide +kernel
theorem dX11_fault_124 : decode cX11_fault 124 = .ok (.if_icmp .ne 10, 3) := by decide +kernel
theorem dX11_fault_127 : decode cX11_fault 127 = .ok (.aload_n 0, 1) := by decide +kernel
theorem dX11_fault_128 : decode cX11_fault 128 = .ok (.getfield 92, 3) := by decide +kernel
theorem dX11_fault_131 : decode cX11_fault 131 = .ok (.goto 5, 3) := by decide +kernel
theorem dX11_fault_134 : decode cX11_fault 134 = .ok (.bipush (-6), 2) := by decide +kernel
theorem dX11_fault_136 : decode cX11_fault 136 = .ok (.ireturn, 1) := by decide +kernel
theorem dX11_push_0 : decode cX11_push 0 = .ok (.aload_n 0, 1) := by decide +kernel
theorem dX11_push_1 : decode cX11_push 1 = .ok (.invokevirtual 105, 3) := by decide +kernel
theorem dX11_push_4 : decode cX11_push 4 = .ok (.ifCond .lt 6, 3) := by decide +kernel
theorem dX11_push_7 : decode cX11_push 7 = .ok (.bipush (-5), 2) := by decide +kernel
theorem dX11_push_9 : decode cX11_push 9 = .ok (.ireturn, 1) := by decide +kernel
theorem dX11_push_10 : decode cX11_push 10 = .ok (.aload_n 0, 1) := by decide +kernel
theorem dX11_push_11 : decode cX11_push 11 = .ok (.iconst 0, 1) := by decide +kernel
theorem dX11_push_12 : decode cX11_push 12 = .ok (.putfield 109, 3) := by decide +kernel
theorem dX11_push_15 : decode cX11_push 15 = .ok (.aload_n 0, 1) := by decide +kernel
theorem dX11_push_16 : decode cX11_push 16 = .ok (.iconst 0, 1) := by decide +kernel
theorem dX11_push_17 : decode cX11_push 17 = .ok (.putfield 112, 3) := by decide +kernel
theorem dX11_push_20 : decode cX11_push 20 = .ok (.iconst 0, 1) := by decide +kernel
theorem dX11_push_21 : decode cX11_push 21 = .ok (.istore_n 1, 1) := by decide +kernel
theorem dX11_push_22 : decode cX11_push 22 = .ok (.iconst 0, 1) := by decide +kernel
theorem dX11_push_23 : decode cX11_push 23 = .ok (.istore_n 2, 1) := by decide +kernel
theorem dX11_push_24 : decode cX11_push 24 = .ok (.iload_n 2, 1) := by decide +kernel
theorem dX11_push_25 : decode cX11_push 25 = .ok (.aload_n 0, 1) := by decide +kernel
theorem dX11_push_26 : decode cX11_push 26 = .ok (.getfield 92, 3) := by decide +kernel
theorem dX11_push_29 : decode cX11_push 29 = .ok (.if_icmp .ge 136, 3) := by decide +kernel
theorem dX11_push_32 : decode cX11_push 32 = .ok (.aload_n 0, 1) := by decide +kernel
theorem dX11_push_33 : decode cX11_push 33 = .ok (.getfield 22, 3) := by decide +kernel
theorem dX11_push_36 : decode cX11_push 36 = .ok (.iload_n 2, 1) := by decide +kernel
theorem dX11_push_37 : decode cX11_push 37 = .ok (.iaload, 1) := by decide +kernel
theorem dX11_push_38 : decode cX11_push 38 = .ok (.istore_n 3, 1) := by decide +kernel
theorem dX11_push_39 : decode cX11_push 39 = .ok (.aload_n 0, 1) := by decide +kernel
theorem dX11_push_40 : decode cX11_push 40 = .ok (.getfield 22, 3) := by decide +kernel
theorem dX11_push_43 : decode cX11_push 43 = .ok (.iload_n 2, 1) := by decide +kernel
theorem dX11_push_44 : decode cX11_push 44 = .ok (.iconst 1, 1) := by decide +kernel
theorem dX11_push_45 : decode cX11_push 45 = .ok (.iadd, 1) := by decide +kernel
theorem dX11_push_46 : decode cX11_push 46 = .ok (.iaload, 1) := by decide +kernel
theorem dX11_push_47 : decode cX11_push 47 = .ok (.bipush 48, 2) := by decide +kernel
theorem dX11_push_49 : decode cX11_push 49 = .ok (.isub, 1) := by decide +kernel
theorem dX11_push_50 : decode cX11_push 50 = .ok (.istore 4, 2) := by decide +kernel
theorem dX11_push_52 : decode cX11_push 52 = .ok (.iinc 2 2, 3) := by decide +kernel
theorem dX11_push_55 : decode cX11_push 55 = .ok (.aload_n 0, 1) := by decide +kernel
theorem dX11_push_56 : decode cX11_push 56 = .ok (.dup, 1) := by decide +kernel
theorem dX11_push_57 : decode cX11_push 57 = .ok (.getfield 112, 3) := by decide +kernel
theorem dX11_push_60 : decode cX11_push 60 = .ok (.iconst 1, 1) := by decide +kernel
theorem dX11_push_61 : decode cX11_push 61 = .ok (.iadd, 1) := by decide +kernel
theorem dX11_push_62 : decode cX11_push 62 = .ok (.putfield 112, 3) := by decide +kernel
theorem dX11_push_65 : decode cX11_push 65 = .ok (.iload_n 3, 1) := by decide +kernel
theorem dX11_push_66 : decode cX11_push 66 = .ok (.bipush 46, 2) := by decide +kernel
theorem dX11_push_68 : decode cX11_push 68 = .ok (.if_icmp .ne 11, 3) := by decide +kernel
theorem dX11_push_71 : decode cX11_push 71 = .ok (.iload_n 1, 1) := by decide +kernel
theorem dX11_push_72 : decode cX11_push 72 = .ok (.iload 4, 2) := by decide +kernel
theorem dX11_push_74 : decode cX11_push 74 = .ok (.iadd, 1) := by decide +kernel
theorem dX11_push_75 : decode cX11_push 75 = .ok (.istore_n 1, 1) := by decide +kernel
theorem dX11_push_76 : decode cX11_push 76 = .ok (.goto 86, 3) := by decide +kernel
theorem dX11_push_79 : decode cX11_push 79 = .ok (.iload_n 2, 1) := by decide +kernel
theorem dX11_push_80 : decode cX11_push 80 = .ok (.aload_n 0, 1) := by decide +kernel
theorem dX11_push_81 : decode cX11_push 81 = .ok (.getfield 92, 3) := by decide +kernel
theorem dX11_push_84 : decode cX11_push 84 = .ok (.if_icmp .ge 35, 3) := by decide +kernel
theorem dX11_push_87 : decode cX11_push 87 = .ok (.aload_n 0, 1) := by decide +kernel
theorem dX11_push_88 : decode cX11_push 88 = .ok (.getfield 22, 3) := by decide +kernel
theorem dX11_push_91 : decode cX11_push 91 = .ok (.iload_n 2, 1) := by decide +kernel
theorem dX11_push_92 : decode cX11_push 92 = .ok (.iaload, 1) := by decide +kernel
theorem dX11_push_93 : decode cX11_push 93 = .ok (.invokestatic 101, 3) := by decide +kernel
theorem dX11_push_96 : decode cX11_push 96 = .ok (.ifCond .eq 23, 3) := by decide +kernel
theorem dX11_push_99 : decode cX11_push 99 = .ok (.bipush 10, 2) := by decide +kernel
theorem dX11_push_101 : decode cX11_push 101 = .ok (.iload 4, 2) := by decide +kernel
theorem dX11_push_103 : decode cX11_push 103 = .ok (.imul, 1) := by decide +kernel
theorem dX11_push_104 : decode cX11_push 104 = .ok (.aload_n 0, 1) := by decide +kernel
theorem dX11_push_105 : decode cX11_push 105 = .ok (.getfield 22, 3) := by decide +kernel
theorem dX11_push_108 : decode cX11_push 108 = .ok (.iload_n 2, 1) := by decide +kernel
theorem dX11_push_109 : decode cX11_push 109 = .ok (.iaload, 1) := by decide +kernel
theorem dX11_push_110 : decode cX11_push 110 = .ok (.iadd, 1) := by decide +kernel
theorem dX11_push_111 : decode cX11_push 111 = .ok (.bipush 48, 2) := by decide +kernel
theorem dX11_push_113 : decode cX11_push 113 = .ok (.isub, 1) := by decide +kernel
theorem dX11_push_114 : decode cX11_push 114 = .ok (.istore 4, 2) := by decide +kernel
theorem dX11_push_116 : decode cX11_push 116 = .ok (.iinc 2 1, 3) := by decide +kernel
theorem dX11_push_119 : decode cX11_push 119 = .ok (.aload_n 0, 1) := by decide +kernel
theorem dX11_push_120 : decode cX11_push 120 = .ok (.getfield 25, 3) := by decide +kernel
theorem dX11_push_123 : decode cX11_push 123 = .ok (.aload_n 0, 1) := by decide +kernel
theorem dX11_push_124 : decode cX11_push 124 = .ok (.getfield 109, 3) := by decide +kernel
theorem dX11_push_127 : decode cX11_push 127 = .ok (.iload_n 1, 1) := by decide +kernel
theorem dX11_push_128 : decode cX11_push 128 = .ok (.iastore, 1) := by decide +kernel
theorem dX11_push_129 : decode cX11_push 129 = .ok (.aload_n 0, 1) := by decide +kernel
theorem dX11_push_130 : decode cX11_push 130 = .ok (.getfield 28, 3) := by decide +kernel
theorem dX11_push_133 : decode cX11_push 133 = .ok (.aload_n 0, 1) := by decide +kernel
theorem dX11_push_134 : decode cX11_push 134 = .ok (.getfield 109, 3) := by decide +kernel
theorem dX11_push_137 : decode cX11_push 137 = .ok (.iload_n 3, 1) := by decide +kernel
theorem dX11_push_138 : decode cX11_push 138 = .ok (.bipush 43, 2) := by decide +kernel
theorem dX11_push_140 : decode cX11_push 140 = .ok (.if_icmp .ne 8, 3) := by decide +kernel
theorem dX11_push_143 : decode cX11_push 143 = .ok (.iload 4, 2) := by decide +kernel
theorem dX11_push_145 : decode cX11_push 145 = .ok (.goto 6, 3) := by decide +kernel
theorem dX11_push_148 : decode cX11_push 148 = .ok (.iload 4, 2) := by decide +kernel
theorem dX11_push_150 : decode cX11_push 150 = .ok (.ineg, 1) := by decide +kernel
theorem dX11_push_151 : decode cX11_push 151 = .ok (.iastore, 1) := by decide +kernel
theorem dX11_push_152 : decode cX11_push 152 = .ok (.aload_n 0, 1) := by decide +kernel
theorem dX11_push_153 : decode cX11_push 153 = .ok (.dup, 1) := by decide +kernel
theorem dX11_push_154 : decode cX11_push 154 = .ok (.getfield 109, 3) := by decide +kernel
theorem dX11_push_157 : decode cX11_push 157 = .ok (.iconst 1, 1) := by decide +kernel
theorem dX11_push_158 : decode cX11_push 158 = .ok (.iadd, 1) := by decide +kernel
theorem dX11_push_159 : decode cX11_push 159 = .ok (.putfield 109, 3) := by decide +kernel
theorem dX11_push_162 : decode cX11_push 162 = .ok (.goto (-138), 3) := by decide +kernel
theorem dX11_push_165 : decode cX11_push 165 = .ok (.aload_n 0, 1) := by decide +kernel
theorem dX11_push_166 : decode cX11_push 166 = .ok (.iconst 0, 1) := by decide +kernel
theorem dX11_push_167 : decode cX11_push 167 = .ok (.putfield 92, 3) := by decide +kernel
theorem dX11_push_170 : decode cX11_push 170 = .ok (.aload_n 0, 1) := by decide +kernel
theorem dX11_push_171 : decode cX11_push 171 = .ok (.getfield 112, 3) := by decide +kernel
theorem dX11_push_174 : decode cX11_push 174 = .ok (.ireturn, 1) := by decide +kernel
theorem dX11_held_0 : decode cX11_held 0 = .ok (.iload_n 0, 1) := by decide +kernel
theorem dX11_held_1 : decode cX11_held 1 = .ok (.bipush (-99), 2) := by decide +kernel
theorem dX11_held_3 : decode cX11_held 3 = .ok (.if_icmp .ge 8, 3) := by decide +kernel
theorem dX11_held_6 : decode cX11_held 6 = .ok (.bipush (-99), 2) := by decide +kernel
theorem dX11_held_8 : decode cX11_held 8 = .ok (.goto 15, 3) := by decide +kernel
theorem dX11_held_11 : decode cX11_held 11 = .ok (.iload_n 0, 1) := by decide +kernel
theorem dX11_held_12 : decode cX11_held 12 = .ok (.bipush 99, 2) := by decide +kernel
theorem dX11_held_14 : decode cX11_held 14 = .ok (.if_icmp .le 8, 3) := by decide +kernel
theorem dX11_held_17 : decode cX11_held 17 = .ok (.bipush 99, 2) := by decide +kernel
theorem dX11_held_19 : decode cX11_held 19 = .ok (.goto 4, 3) := by decide +kernel
theorem dX11_held_22 : decode cX11_held 22 = .ok (.iload_n 0, 1) := by decide +kernel
theorem dX11_held_23 : decode cX11_held 23 = .ok (.ireturn, 1) := by decide +kernel
theorem dX11_layTurns_0 : decode cX11_layTurns 0 = .ok (.aload_n 0, 1) := by decide +kernel
theorem dX11_layTurns_1 : decode cX11_layTurns 1 = .ok (.getfield 16, 3) := by decide +kernel
theorem dX11_layTurns_4 : decode cX11_layTurns 4 = .ok (.iconst 0, 1) := by decide +kernel
theorem dX11_layTurns_5 : decode cX11_layTurns 5 = .ok (.iconst 0, 1) := by decide +kernel
theorem dX11_layTurns_6 : decode cX11_layTurns 6 = .ok (.iastore, 1) := by decide +kernel
theorem dX11_layTurns_7 : decode cX11_layTurns 7 = .ok (.aload_n 0, 1) := by decide +kernel
theorem dX11_layTurns_8 : decode cX11_layTurns 8 = .ok (.getfield 19, 3) := by decide +kernel
theorem dX11_layTurns_11 : decode cX11_layTurns 11 = .ok (.iconst 0, 1) := by decide +kernel
theorem dX11_layTurns_12 : decode cX11_layTurns 12 = .ok (.aload_n 0, 1) := by decide +kernel
theorem dX11_layTurns_13 : decode cX11_layTurns 13 = .ok (.getfield 13, 3) := by decide +kernel
theorem dX11_layTurns_16 : decode cX11_layTurns 16 = .ok (.iconst 0, 1) := by decide +kernel
theorem dX11_layTurns_17 : decode cX11_layTurns 17 = .ok (.iaload, 1) := by decide +kernel
theorem dX11_layTurns_18 : decode cX11_layTurns 18 = .ok (.iastore, 1) := by decide +kernel
theorem dX11_layTurns_19 : decode cX11_layTurns 19 = .ok (.iconst 0, 1) := by decide +kernel
theorem dX11_layTurns_20 : decode cX11_layTurns 20 = .ok (.istore_n 1, 1) := by decide +kernel
theorem dX11_layTurns_21 : decode cX11_layTurns 21 = .ok (.iload_n 1, 1) := by decide +kernel
theorem dX11_layTurns_22 : decode cX11_layTurns 22 = .ok (.bipush 60, 2) := by decide +kernel
theorem dX11_layTurns_24 : decode cX11_layTurns 24 = .ok (.if_icmp .gt 136, 3) := by decide +kernel
theorem dX11_layTurns_27 : decode cX11_layTurns 27 = .ok (.aload_n 0, 1) := by decide +kernel
theorem dX11_layTurns_28 : decode cX11_layTurns 28 = .ok (.getfield 19, 3) := by decide +kernel
theorem dX11_layTurns_31 : decode cX11_layTurns 31 = .ok (.iload_n 1, 1) := by decide +kernel
theorem dX11_layTurns_32 : decode cX11_layTurns 32 = .ok (.iaload, 1) := by decide +kernel
theorem dX11_layTurns_33 : decode cX11_layTurns 33 = .ok (.istore_n 2, 1) := by decide +kernel
theorem dX11_layTurns_34 : decode cX11_layTurns 34 = .ok (.iconst 0, 1) := by decide +kernel
theorem dX11_layTurns_35 : decode cX11_layTurns 35 = .ok (.istore_n 3, 1) := by decide +kernel
theorem dX11_layTurns_36 : decode cX11_layTurns 36 = .ok (.iload_n 3, 1) := by decide +kernel
theorem dX11_layTurns_37 : decode cX11_layTurns 37 = .ok (.aload_n 0, 1) := by decide +kernel
theorem dX11_layTurns_38 : decode cX11_layTurns 38 = .ok (.getfield 109, 3) := by decide +kernel
theorem dX11_layTurns_41 : decode cX11_layTurns 41 = .ok (.if_icmp .ge 35, 3) := by decide +kernel
theorem dX11_layTurns_44 : decode cX11_layTurns 44 = .ok (.aload_n 0, 1) := by decide +kernel
theorem dX11_layTurns_45 : decode cX11_layTurns 45 = .ok (.getfield 25, 3) := by decide +kernel
theorem dX11_layTurns_48 : decode cX11_layTurns 48 = .ok (.iload_n 3, 1) := by decide +kernel
theorem dX11_layTurns_49 : decode cX11_layTurns 49 = .ok (.iaload, 1) := by decide +kernel
theorem dX11_layTurns_50 : decode cX11_layTurns 50 = .ok (.iload_n 1, 1) := by decide +kernel
theorem dX11_layTurns_51 : decode cX11_layTurns 51 = .ok (.if_icmp .ne 17, 3) := by decide +kernel
theorem dX11_layTurns_54 : decode cX11_layTurns 54 = .ok (.iload_n 2, 1) := by decide +kernel
theorem dX11_layTurns_55 : decode cX11_layTurns 55 = .ok (.aload_n 0, 1) := by decide +kernel
theorem dX11_layTurns_56 : decode cX11_layTurns 56 = .ok (.getfield 28, 3) := by decide +kernel
theorem dX11_layTurns_59 : decode cX11_layTurns 59 = .ok (.iload_n 3, 1) := by decide +kernel
theorem dX11_layTurns_60 : decode cX11_layTurns 60 = .ok (.iaload, 1) := by decide +kernel
theorem dX11_layTurns_61 : decode cX11_layTurns 61 = .ok (.iadd, 1) := by decide +kernel
theorem dX11_layTurns_62 : decode cX11_layTurns 62 = .ok (.invokestatic 115, 3) := by decide +kernel
theorem dX11_layTurns_65 : decode cX11_layTurns 65 = .ok (.goto 4, 3) := by decide +kernel
theorem dX11_layTurns_68 : decode cX11_layTurns 68 = .ok (.iload_n 2, 1) := by decide +kernel
theorem dX11_layTurns_69 : decode cX11_layTurns 69 = .ok (.istore_n 2, 1) := by decide +kernel
theorem dX11_layTurns_70 : decode cX11_layTurns 70 = .ok (.iinc 3 1, 3) := by decide +kernel
theorem dX11_layTurns_73 : decode cX11_layTurns 73 = .ok (.goto (-37), 3) := by decide +kernel
theorem dX11_layTurns_76 : decode cX11_layTurns 76 = .ok (.aload_n 0, 1) := by decide +kernel
theorem dX11_layTurns_77 : decode cX11_layTurns 77 = .ok (.getfield 16, 3) := by decide +kernel
theorem dX11_layTurns_80 : decode cX11_layTurns 80 = .ok (.iload_n 1, 1) := by decide +kernel
theorem dX11_layTurns_81 : decode cX11_layTurns 81 = .ok (.iaload, 1) := by decide +kernel
theorem dX11_layTurns_82 : decode cX11_layTurns 82 = .ok (.iload_n 2, 1) := by decide +kernel
theorem dX11_layTurns_83 : decode cX11_layTurns 83 = .ok (.iadd, 1) := by decide +kernel
theorem dX11_layTurns_84 : decode cX11_layTurns 84 = .ok (.sipush 240, 3) := by decide +kernel
theorem dX11_layTurns_87 : decode cX11_layTurns 87 = .ok (.irem, 1) := by decide +kernel
theorem dX11_layTurns_88 : decode cX11_layTurns 88 = .ok (.istore_n 3, 1) := by decide +kernel
theorem dX11_layTurns_89 : decode cX11_layTurns 89 = .ok (.aload_n 0, 1) := by decide +kernel
theorem dX11_layTurns_90 : decode cX11_layTurns 90 = .ok (.getfield 16, 3) := by decide +kernel
theorem dX11_layTurns_93 : decode cX11_layTurns 93 = .ok (.iload_n 1, 1) := by decide +kernel
theorem dX11_layTurns_94 : decode cX11_layTurns 94 = .ok (.iconst 1, 1) := by decide +kernel
theorem dX11_layTurns_95 : decode cX11_layTurns 95 = .ok (.iadd, 1) := by decide +kernel
theorem dX11_layTurns_96 : decode cX11_layTurns 96 = .ok (.iload_n 3, 1) := by decide +kernel
theorem dX11_layTurns_97 : decode cX11_layTurns 97 = .ok (.ifCond .ge 11, 3) := by decide +kernel
theorem dX11_layTurns_100 : decode cX11_layTurns 100 = .ok (.iload_n 3, 1) := by decide +kernel
theorem dX11_layTurns_101 : decode cX11_layTurns 101 = .ok (.sipush 240, 3) := by decide +kernel
theorem dX11_layTurns_104 : decode cX11_layTurns 104 = .ok (.iadd, 1) := by decide +kernel
theorem dX11_layTurns_105 : decode cX11_layTurns 105 = .ok (.goto 4, 3) := by decide +kernel
theorem dX11_layTurns_108 : decode cX11_layTurns 108 = .ok (.iload_n 3, 1) := by decide +kernel
theorem dX11_layTurns_109 : decode cX11_layTurns 109 = .ok (.iastore, 1) := by decide +kernel
theorem dX11_layTurns_110 : decode cX11_layTurns 110 = .ok (.aload_n 0, 1) := by decide +kernel
theorem dX11_layTurns_111 : decode cX11_layTurns 111 = .ok (.getfield 13, 3) := by decide +kernel
theorem dX11_layTurns_114 : decode cX11_layTurns 114 = .ok (.iconst 1, 1) := by decide +kernel
theorem dX11_layTurns_115 : decode cX11_layTurns 115 = .ok (.iaload, 1) := by decide +kernel
theorem dX11_layTurns_116 : decode cX11_layTurns 116 = .ok (.istore 4, 2) := by decide +kernel
theorem dX11_layTurns_118 : decode cX11_layTurns 118 = .ok (.aload_n 0, 1) := by decide +kernel
theorem dX11_layTurns_119 : decode cX11_layTurns 119 = .ok (.getfield 19, 3) := by decide +kernel
theorem dX11_layTurns_122 : decode cX11_layTurns 122 = .ok (.iload_n 1, 1) := by decide +kernel
theorem dX11_layTurns_123 : decode cX11_layTurns 123 = .ok (.iconst 1, 1) := by decide +kernel
theorem dX11_layTurns_124 : decode cX11_layTurns 124 = .ok (.iadd, 1) := by decide +kernel
theorem dX11_layTurns_125 : decode cX11_layTurns 125 = .ok (.iload_n 2, 1) := by decide +kernel
theorem dX11_layTurns_126 : decode cX11_layTurns 126 = .ok (.iload 4, 2) := by decide +kernel
theorem dX11_layTurns_128 : decode cX11_layTurns 128 = .ok (.if_icmp .le 10, 3) := by decide +kernel
theorem dX11_layTurns_131 : decode cX11_layTurns 131 = .ok (.iload_n 2, 1) := by decide +kernel
theorem dX11_layTurns_132 : decode cX11_layTurns 132 = .ok (.iload 4, 2) := by decide +kernel
theorem dX11_layTurns_134 : decode cX11_layTurns 134 = .ok (.isub, 1) := by decide +kernel
theorem dX11_layTurns_135 : decode cX11_layTurns 135 = .ok (.goto 18, 3) := by decide +kernel
theorem dX11_layTurns_138 : decode cX11_layTurns 138 = .ok (.iload_n 2, 1) := by decide +kernel
theorem dX11_layTurns_139 : decode cX11_layTurns 139 = .ok (.iload 4, 2) := by decide +kernel
theorem dX11_layTurns_141 : decode cX11_layTurns 141 = .ok (.ineg, 1) := by decide +kernel
theorem dX11_layTurns_142 : decode cX11_layTurns 142 = .ok (.if_icmp .ge 10, 3) := by decide +kernel
theorem dX11_layTurns_145 : decode cX11_layTurns 145 = .ok (.iload_n 2, 1) := by decide +kernel
theorem dX11_layTurns_146 : decode cX11_layTurns 146 = .ok (.iload 4, 2) := by decide +kernel
theorem dX11_layTurns_148 : decode cX11_layTurns 148 = .ok (.iadd, 1) := by decide +kernel
theorem dX11_layTurns_149 : decode cX11_layTurns 149 = .ok (.goto 4, 3) := by decide +kernel
theorem dX11_layTurns_152 : decode cX11_layTurns 152 = .ok (.iconst 0, 1) := by decide +kernel
theorem dX11_layTurns_153 : decode cX11_layTurns 153 = .ok (.iastore, 1) := by decide +kernel
theorem dX11_layTurns_154 : decode cX11_layTurns 154 = .ok (.iinc 1 1, 3) := by decide +kernel
theorem dX11_layTurns_157 : decode cX11_layTurns 157 = .ok (.goto (-136), 3) := by decide +kernel
theorem dX11_layTurns_160 : decode cX11_layTurns 160 = .ok (.return_, 1) := by decide +kernel
theorem dX11_wayAt_0 : decode cX11_wayAt 0 = .ok (.aload_n 0, 1) := by decide +kernel
theorem dX11_wayAt_1 : decode cX11_wayAt 1 = .ok (.getfield 16, 3) := by decide +kernel
theorem dX11_wayAt_4 : decode cX11_wayAt 4 = .ok (.iload_n 1, 1) := by decide +kernel
theorem dX11_wayAt_5 : decode cX11_wayAt 5 = .ok (.iaload, 1) := by decide +kernel
theorem dX11_wayAt_6 : decode cX11_wayAt 6 = .ok (.bipush 10, 2) := by decide +kernel
theorem dX11_wayAt_8 : decode cX11_wayAt 8 = .ok (.idiv, 1) := by decide +kernel
theorem dX11_wayAt_9 : decode cX11_wayAt 9 = .ok (.ireturn, 1) := by decide +kernel
theorem dX11_turn_0 : decode cX11_turn 0 = .ok (.iload_n 1, 1) := by decide +kernel
theorem dX11_turn_1 : decode cX11_turn 1 = .ok (.invokestatic 118, 3) := by decide +kernel
theorem dX11_turn_4 : decode cX11_turn 4 = .ok (.ifCond .eq 10, 3) := by decide +kernel
theorem dX11_turn_7 : decode cX11_turn 7 = .ok (.iload_n 2, 1) := by decide +kernel
theorem dX11_turn_8 : decode cX11_turn 8 = .ok (.invokestatic 121, 3) := by decide +kernel
theorem dX11_turn_11 : decode cX11_turn 11 = .ok (.ifCond .ne 6, 3) := by decide +kernel
theorem dX11_turn_14 : decode cX11_turn 14 = .ok (.bipush (-2), 2) := by decide +kernel
theorem dX11_turn_16 : decode cX11_turn 16 = .ok (.ireturn, 1) := by decide +kernel
theorem dX11_turn_17 : decode cX11_turn 17 = .ok (.aload_n 0, 1) := by decide +kernel
theorem dX11_turn_18 : decode cX11_turn 18 = .ok (.invokevirtual 124, 3) := by decide +kernel
theorem dX11_turn_21 : decode cX11_turn 21 = .ok (.iload_n 2, 1) := by decide +kernel
theorem dX11_turn_22 : decode cX11_turn 22 = .ok (.ifCond .ne 12, 3) := by decide +kernel
theorem dX11_turn_25 : decode cX11_turn 25 = .ok (.aload_n 0, 1) := by decide +kernel
theorem dX11_turn_26 : decode cX11_turn 26 = .ok (.getfield 16, 3) := by decide +kernel
theorem dX11_turn_29 : decode cX11_turn 29 = .ok (.iload_n 1, 1) := by decide +kernel
theorem dX11_turn_30 : decode cX11_turn 30 = .ok (.iaload, 1) := by decide +kernel
theorem dX11_turn_31 : decode cX11_turn 31 = .ok (.goto 12, 3) := by decide +kernel
theorem dX11_turn_34 : decode cX11_turn 34 = .ok (.aload_n 0, 1) := by decide +kernel
theorem dX11_turn_35 : decode cX11_turn 35 = .ok (.getfield 19, 3) := by decide +kernel
theorem dX11_turn_38 : decode cX11_turn 38 = .ok (.iload_n 1, 1) := by decide +kernel
theorem dX11_turn_39 : decode cX11_turn 39 = .ok (.iaload, 1) := by decide +kernel
theorem dX11_turn_40 : decode cX11_turn 40 = .ok (.bipush 100, 2) := by decide +kernel
theorem dX11_turn_42 : decode cX11_turn 42 = .ok (.iadd, 1) := by decide +kernel
theorem dX11_turn_43 : decode cX11_turn 43 = .ok (.ireturn, 1) := by decide +kernel
theorem dX11_sit_0 : decode cX11_sit 0 = .ok (.iload_n 1, 1) := by decide +kernel
theorem dX11_sit_1 : decode cX11_sit 1 = .ok (.i2l, 1) := by decide +kernel
theorem dX11_sit_2 : decode cX11_sit 2 = .ok (.lconst 0, 1) := by decide +kernel
theorem dX11_sit_3 : decode cX11_sit 3 = .ok (.ldc2_w 127, 3) := by decide +kernel
theorem dX11_sit_6 : decode cX11_sit 6 = .ok (.invokestatic 67, 3) := by decide +kernel
theorem dX11_sit_9 : decode cX11_sit 9 = .ok (.ifCond .eq 10, 3) := by decide +kernel
theorem dX11_sit_12 : decode cX11_sit 12 = .ok (.iload_n 2, 1) := by decide +kernel
theorem dX11_sit_13 : decode cX11_sit 13 = .ok (.invokestatic 129, 3) := by decide +kernel
theorem dX11_sit_16 : decode cX11_sit 16 = .ok (.ifCond .ne 6, 3) := by decide +kernel
theorem dX11_sit_19 : decode cX11_sit 19 = .ok (.bipush (-2), 2) := by decide +kernel
theorem dX11_sit_21 : decode cX11_sit 21 = .ok (.ireturn, 1) := by decide +kernel
theorem dX11_sit_22 : decode cX11_sit 22 = .ok (.aload_n 0, 1) := by decide +kernel
theorem dX11_sit_23 : decode cX11_sit 23 = .ok (.getfield 132, 3) := by decide +kernel
theorem dX11_sit_26 : decode cX11_sit 26 = .ok (.bipush 8, 2) := by decide +kernel
theorem dX11_sit_28 : decode cX11_sit 28 = .ok (.if_icmp .ne 6, 3) := by decide +kernel
theorem dX11_sit_31 : decode cX11_sit 31 = .ok (.bipush (-4), 2) := by decide +kernel
theorem dX11_sit_33 : decode cX11_sit 33 = .ok (.ireturn, 1) := by decide +kernel
theorem dX11_sit_34 : decode cX11_sit 34 = .ok (.aload_n 0, 1) := by decide +kernel
theorem dX11_sit_35 : decode cX11_sit 35 = .ok (.iload_n 1, 1) := by decide +kernel
theorem dX11_sit_36 : decode cX11_sit 36 = .ok (.iconst 0, 1) := by decide +kernel
theorem dX11_sit_37 : decode cX11_sit 37 = .ok (.iload_n 2, 1) := by decide +kernel
theorem dX11_sit_38 : decode cX11_sit 38 = .ok (.invokevirtual 135, 3) := by decide +kernel
theorem dX11_sit_41 : decode cX11_sit 41 = .ok (.aload_n 0, 1) := by decide +kernel
theorem dX11_sit_42 : decode cX11_sit 42 = .ok (.getfield 31, 3) := by decide +kernel
theorem dX11_sit_45 : decode cX11_sit 45 = .ok (.aload_n 0, 1) := by decide +kernel
theorem dX11_sit_46 : decode cX11_sit 46 = .ok (.getfield 132, 3) := by decide +kernel
theorem dX11_sit_49 : decode cX11_sit 49 = .ok (.aload_n 0, 1) := by decide +kernel
theorem dX11_sit_50 : decode cX11_sit 50 = .ok (.getfield 75, 3) := by decide +kernel
theorem dX11_sit_53 : decode cX11_sit 53 = .ok (.iastore, 1) := by decide +kernel
theorem dX11_sit_54 : decode cX11_sit 54 = .ok (.aload_n 0, 1) := by decide +kernel
theorem dX11_sit_55 : decode cX11_sit 55 = .ok (.getfield 34, 3) := by decide +kernel
theorem dX11_sit_58 : decode cX11_sit 58 = .ok (.aload_n 0, 1) := by decide +kernel
theorem dX11_sit_59 : decode cX11_sit 59 = .ok (.getfield 132, 3) := by decide +kernel
theorem dX11_sit_62 : decode cX11_sit 62 = .ok (.aload_n 0, 1) := by decide +kernel
theorem dX11_sit_63 : decode cX11_sit 63 = .ok (.getfield 79, 3) := by decide +kernel
theorem dX11_sit_66 : decode cX11_sit 66 = .ok (.iastore, 1) := by decide +kernel
theorem dX11_sit_67 : decode cX11_sit 67 = .ok (.aload_n 0, 1) := by decide +kernel
theorem dX11_sit_68 : decode cX11_sit 68 = .ok (.dup, 1) := by decide +kernel
theorem dX11_sit_69 : decode cX11_sit 69 = .ok (.getfield 132, 3) := by decide +kernel
theorem dX11_sit_72 : decode cX11_sit 72 = .ok (.iconst 1, 1) := by decide +kernel
theorem dX11_sit_73 : decode cX11_sit 73 = .ok (.iadd, 1) := by decide +kernel
theorem dX11_sit_74 : decode cX11_sit 74 = .ok (.putfield 132, 3) := by decide +kernel
theorem dX11_sit_77 : decode cX11_sit 77 = .ok (.aload_n 0, 1) := by decide +kernel
theorem dX11_sit_78 : decode cX11_sit 78 = .ok (.getfield 132, 3) := by decide +kernel
theorem dX11_sit_81 : decode cX11_sit 81 = .ok (.iconst 1, 1) := by decide +kernel
theorem dX11_sit_82 : decode cX11_sit 82 = .ok (.isub, 1) := by decide +kernel
theorem dX11_sit_83 : decode cX11_sit 83 = .ok (.ireturn, 1) := by decide +kernel
theorem dX11_isOne_0 : decode cX11_isOne 0 = .ok (.iload_n 1, 1) := by decide +kernel
theorem dX11_isOne_1 : decode cX11_isOne 1 = .ok (.i2l, 1) := by decide +kernel
theorem dX11_isOne_2 : decode cX11_isOne 2 = .ok (.lconst 0, 1) := by decide +kernel
theorem dX11_isOne_3 : decode cX11_isOne 3 = .ok (.aload_n 0, 1) := by decide +kernel
theorem dX11_isOne_4 : decode cX11_isOne 4 = .ok (.getfield 132, 3) := by decide +kernel
theorem dX11_isOne_7 : decode cX11_isOne 7 = .ok (.iconst 1, 1) := by decide +kernel
theorem dX11_isOne_8 : decode cX11_isOne 8 = .ok (.isub, 1) := by decide +kernel
theorem dX11_isOne_9 : decode cX11_isOne 9 = .ok (.i2l, 1) := by decide +kernel
theorem dX11_isOne_10 : decode cX11_isOne 10 = .ok (.invokestatic 67, 3) := by decide +kernel
theorem dX11_isOne_13 : decode cX11_isOne 13 = .ok (.ireturn, 1) := by decide +kernel
theorem dX11_layOne_0 : decode cX11_layOne 0 = .ok (.aload_n 0, 1) := by decide +kernel
theorem dX11_layOne_1 : decode cX11_layOne 1 = .ok (.aload_n 0, 1) := by decide +kernel
theorem dX11_layOne_2 : decode cX11_layOne 2 = .ok (.getfield 31, 3) := by decide +kernel
theorem dX11_layOne_5 : decode cX11_layOne 5 = .ok (.iload_n 1, 1) := by decide +kernel
theorem dX11_layOne_6 : decode cX11_layOne 6 = .ok (.iaload, 1) := by decide +kernel
theorem dX11_layOne_7 : decode cX11_layOne 7 = .ok (.aload_n 0, 1) := by decide +kernel
theorem dX11_layOne_8 : decode cX11_layOne 8 = .ok (.getfield 34, 3) := by decide +kernel
theorem dX11_layOne_11 : decode cX11_layOne 11 = .ok (.iload_n 1, 1) := by decide +kernel
theorem dX11_layOne_12 : decode cX11_layOne 12 = .ok (.iaload, 1) := by decide +kernel
theorem dX11_layOne_13 : decode cX11_layOne 13 = .ok (.aload_n 0, 1) := by decide +kernel
theorem dX11_layOne_14 : decode cX11_layOne 14 = .ok (.iload_n 2, 1) := by decide +kernel
theorem dX11_layOne_15 : decode cX11_layOne 15 = .ok (.invokevirtual 139, 3) := by decide +kernel
theorem dX11_layOne_18 : decode cX11_layOne 18 = .ok (.invokevirtual 135, 3) := by decide +kernel
theorem dX11_layOne_21 : decode cX11_layOne 21 = .ok (.return_, 1) := by decide +kernel
theorem dX11_point_0 : decode cX11_point 0 = .ok (.aload_n 0, 1) := by decide +kernel
theorem dX11_point_1 : decode cX11_point 1 = .ok (.iload_n 1, 1) := by decide +kernel
theorem dX11_point_2 : decode cX11_point 2 = .ok (.invokevirtual 142, 3) := by decide +kernel
theorem dX11_point_5 : decode cX11_point 5 = .ok (.ifCond .ne 6, 3) := by decide +kernel
theorem dX11_point_8 : decode cX11_point 8 = .ok (.ldc 145, 2) := by decide +kernel
theorem dX11_point_10 : decode cX11_point 10 = .ok (.ireturn, 1) := by decide +kernel
theorem dX11_point_11 : decode cX11_point 11 = .ok (.iload_n 2, 1) := by decide +kernel
theorem dX11_point_12 : decode cX11_point 12 = .ok (.invokestatic 118, 3) := by decide +kernel
theorem dX11_point_15 : decode cX11_point 15 = .ok (.ifCond .eq 15, 3) := by decide +kernel
theorem dX11_point_18 : decode cX11_point 18 = .ok (.iload_n 3, 1) := by decide +kernel
theorem dX11_point_19 : decode cX11_point 19 = .ok (.i2l, 1) := by decide +kernel
theorem dX11_point_20 : decode cX11_point 20 = .ok (.lconst 0, 1) := by decide +kernel
theorem dX11_point_21 : decode cX11_point 21 = .ok (.ldc2_w 146, 3) := by decide +kernel
theorem dX11_point_24 : decode cX11_point 24 = .ok (.invokestatic 67, 3) := by decide +kernel
theorem dX11_point_27 : decode cX11_point 27 = .ok (.ifCond .ne 6, 3) := by decide +kernel
theorem dX11_point_30 : decode cX11_point 30 = .ok (.ldc 148, 2) := by decide +kernel
theorem dX11_point_32 : decode cX11_point 32 = .ok (.ireturn, 1) := by decide +kernel
theorem dX11_point_33 : decode cX11_point 33 = .ok (.iload_n 3, 1) := by decide +kernel
theorem dX11_point_34 : decode cX11_point 34 = .ok (.iconst 2, 1) := by decide +kernel
theorem dX11_point_35 : decode cX11_point 35 = .ok (.if_icmp .ge 23, 3) := by decide +kernel
theorem dX11_point_38 : decode cX11_point 38 = .ok (.iload_n 3, 1) := by decide +kernel
theorem dX11_point_39 : decode cX11_point 39 = .ok (.ifCond .ne 12, 3) := by decide +kernel
theorem dX11_point_42 : decode cX11_point 42 = .ok (.aload_n 0, 1) := by decide +kernel
theorem dX11_point_43 : decode cX11_point 43 = .ok (.getfield 31, 3) := by decide +kernel
theorem dX11_point_46 : decode cX11_point 46 = .ok (.iload_n 1, 1) := by decide +kernel
theorem dX11_point_47 : decode cX11_point 47 = .ok (.iaload, 1) := by decide +kernel
theorem dX11_point_48 : decode cX11_point 48 = .ok (.goto 9, 3) := by decide +kernel
theorem dX11_point_51 : decode cX11_point 51 = .ok (.aload_n 0, 1) := by decide +kernel
theorem dX11_point_52 : decode cX11_point 52 = .ok (.getfield 34, 3) := by decide +kernel
theorem dX11_point_55 : decode cX11_point 55 = .ok (.iload_n 1, 1) := by decide +kernel
theorem dX11_point_56 : decode cX11_point 56 = .ok (.iaload, 1) := by decide +kernel
theorem dX11_point_57 : decode cX11_point 57 = .ok (.ireturn, 1) := by decide +kernel
theorem dX11_point_58 : decode cX11_point 58 = .ok (.aload_n 0, 1) := by decide +kernel
theorem dX11_point_59 : decode cX11_point 59 = .ok (.invokevirtual 124, 3) := by decide +kernel
theorem dX11_point_62 : decode cX11_point 62 = .ok (.aload_n 0, 1) := by decide +kernel
theorem dX11_point_63 : decode cX11_point 63 = .ok (.iload_n 1, 1) := by decide +kernel
theorem dX11_point_64 : decode cX11_point 64 = .ok (.iload_n 2, 1) := by decide +kernel
theorem dX11_point_65 : decode cX11_point 65 = .ok (.invokevirtual 149, 3) := by decide +kernel
theorem dX11_point_68 : decode cX11_point 68 = .ok (.iload_n 3, 1) := by decide +kernel
theorem dX11_point_69 : decode cX11_point 69 = .ok (.iconst 2, 1) := by decide +kernel
theorem dX11_point_70 : decode cX11_point 70 = .ok (.if_icmp .ne 10, 3) := by decide +kernel
theorem dX11_point_73 : decode cX11_point 73 = .ok (.aload_n 0, 1) := by decide +kernel
theorem dX11_point_74 : decode cX11_point 74 = .ok (.getfield 75, 3) := by decide +kernel
theorem dX11_point_77 : decode cX11_point 77 = .ok (.goto 7, 3) := by decide +kernel
theorem dX11_point_80 : decode cX11_point 80 = .ok (.aload_n 0, 1) := by decide +kernel
theorem dX11_point_81 : decode cX11_point 81 = .ok (.getfield 79, 3) := by decide +kernel
theorem dX11_point_84 : decode cX11_point 84 = .ok (.ireturn, 1) := by decide +kernel
theorem dX11_layThrow_0 : decode cX11_layThrow 0 = .ok (.aload_n 0, 1) := by decide +kernel
theorem dX11_layThrow_1 : decode cX11_layThrow 1 = .ok (.iload_n 1, 1) := by decide +kernel
theorem dX11_layThrow_2 : decode cX11_layThrow 2 = .ok (.iconst 0, 1) := by decide +kernel
theorem dX11_layThrow_3 : decode cX11_layThrow 3 = .ok (.invokevirtual 149, 3) := by decide +kernel
theorem dX11_layThrow_6 : decode cX11_layThrow 6 = .ok (.aload_n 0, 1) := by decide +kernel
theorem dX11_layThrow_7 : decode cX11_layThrow 7 = .ok (.aload_n 0, 1) := by decide +kernel
theorem dX11_layThrow_8 : decode cX11_layThrow 8 = .ok (.getfield 75, 3) := by decide +kernel
theorem dX11_layThrow_11 : decode cX11_layThrow 11 = .ok (.putfield 153, 3) := by decide +kernel
theorem dX11_layThrow_14 : decode cX11_layThrow 14 = .ok (.aload_n 0, 1) := by decide +kernel
theorem dX11_layThrow_15 : decode cX11_layThrow 15 = .ok (.aload_n 0, 1) := by decide +kernel
theorem dX11_layThrow_16 : decode cX11_layThrow 16 = .ok (.getfield 79, 3) := by decide +kernel
theorem dX11_layThrow_19 : decode cX11_layThrow 19 = .ok (.putfield 156, 3) := by decide +kernel
theorem dX11_layThrow_22 : decode cX11_layThrow 22 = .ok (.aload_n 0, 1) := by decide +kernel
theorem dX11_layThrow_23 : decode cX11_layThrow 23 = .ok (.iload_n 1, 1) := by decide +kernel
theorem dX11_layThrow_24 : decode cX11_layThrow 24 = .ok (.iconst 1, 1) := by decide +kernel
theorem dX11_layThrow_25 : decode cX11_layThrow 25 = .ok (.invokevirtual 149, 3) := by decide +kernel
theorem dX11_layThrow_28 : decode cX11_layThrow 28 = .ok (.aload_n 0, 1) := by decide +kernel
theorem dX11_layThrow_29 : decode cX11_layThrow 29 = .ok (.aload_n 0, 1) := by decide +kernel
theorem dX11_layThrow_30 : decode cX11_layThrow 30 = .ok (.getfield 75, 3) := by decide +kernel
theorem dX11_layThrow_33 : decode cX11_layThrow 33 = .ok (.aload_n 0, 1) := by decide +kernel
theorem dX11_layThrow_34 : decode cX11_layThrow 34 = .ok (.getfield 153, 3) := by decide +kernel
theorem dX11_layThrow_37 : decode cX11_layThrow 37 = .ok (.isub, 1) := by decide +kernel
theorem dX11_layThrow_38 : decode cX11_layThrow 38 = .ok (.putfield 159, 3) := by decide +kernel
theorem dX11_layThrow_41 : decode cX11_layThrow 41 = .ok (.aload_n 0, 1) := by decide +kernel
theorem dX11_layThrow_42 : decode cX11_layThrow 42 = .ok (.aload_n 0, 1) := by decide +kernel
theorem dX11_layThrow_43 : decode cX11_layThrow 43 = .ok (.getfield 79, 3) := by decide +kernel
theorem dX11_layThrow_46 : decode cX11_layThrow 46 = .ok (.aload_n 0, 1) := by decide +kernel
theorem dX11_layThrow_47 : decode cX11_layThrow 47 = .ok (.getfield 156, 3) := by decide +kernel
theorem dX11_layThrow_50 : decode cX11_layThrow 50 = .ok (.isub, 1) := by decide +kernel
theorem dX11_layThrow_51 : decode cX11_layThrow 51 = .ok (.putfield 162, 3) := by decide +kernel
theorem dX11_layThrow_54 : decode cX11_layThrow 54 = .ok (.aload_n 0, 1) := by decide +kernel
theorem dX11_layThrow_55 : decode cX11_layThrow 55 = .ok (.iload_n 2, 1) := by decide +kernel
theorem dX11_layThrow_56 : decode cX11_layThrow 56 = .ok (.iconst 0, 1) := by decide +kernel
theorem dX11_layThrow_57 : decode cX11_layThrow 57 = .ok (.iload_n 3, 1) := by decide +kernel
theorem dX11_layThrow_58 : decode cX11_layThrow 58 = .ok (.invokevirtual 135, 3) := by decide +kernel
theorem dX11_layThrow_61 : decode cX11_layThrow 61 = .ok (.aload_n 0, 1) := by decide +kernel
theorem dX11_layThrow_62 : decode cX11_layThrow 62 = .ok (.dup, 1) := by decide +kernel
theorem dX11_layThrow_63 : decode cX11_layThrow 63 = .ok (.getfield 159, 3) := by decide +kernel
theorem dX11_layThrow_66 : decode cX11_layThrow 66 = .ok (.aload_n 0, 1) := by decide +kernel
theorem dX11_layThrow_67 : decode cX11_layThrow 67 = .ok (.getfield 75, 3) := by decide +kernel
theorem dX11_layThrow_70 : decode cX11_layThrow 70 = .ok (.iadd, 1) := by decide +kernel
theorem dX11_layThrow_71 : decode cX11_layThrow 71 = .ok (.putfield 159, 3) := by decide +kernel
theorem dX11_layThrow_74 : decode cX11_layThrow 74 = .ok (.aload_n 0, 1) := by decide +kernel
theorem dX11_layThrow_75 : decode cX11_layThrow 75 = .ok (.dup, 1) := by decide +kernel
theorem dX11_layThrow_76 : decode cX11_layThrow 76 = .ok (.getfield 162, 3) := by decide +kernel
theorem dX11_layThrow_79 : decode cX11_layThrow 79 = .ok (.aload_n 0, 1) := by decide +kernel
theorem dX11_layThrow_80 : decode cX11_layThrow 80 = .ok (.getfield 79, 3) := by decide +kernel
theorem dX11_layThrow_83 : decode cX11_layThrow 83 = .ok (.iadd, 1) := by decide +kernel
theorem dX11_layThrow_84 : decode cX11_layThrow 84 = .ok (.putfield 162, 3) := by decide +kernel
theorem dX11_layThrow_87 : decode cX11_layThrow 87 = .ok (.return_, 1) := by decide +kernel
theorem dX11_ballX_0 : decode cX11_ballX 0 = .ok (.aload_n 0, 1) := by decide +kernel
theorem dX11_ballX_1 : decode cX11_ballX 1 = .ok (.getfield 153, 3) := by decide +kernel
theorem dX11_ballX_4 : decode cX11_ballX 4 = .ok (.iload_n 1, 1) := by decide +kernel
theorem dX11_ballX_5 : decode cX11_ballX 5 = .ok (.aload_n 0, 1) := by decide +kernel
theorem dX11_ballX_6 : decode cX11_ballX 6 = .ok (.getfield 159, 3) := by decide +kernel
theorem dX11_ballX_9 : decode cX11_ballX 9 = .ok (.imul, 1) := by decide +kernel
theorem dX11_ballX_10 : decode cX11_ballX 10 = .ok (.iadd, 1) := by decide +kernel
theorem dX11_ballX_11 : decode cX11_ballX 11 = .ok (.ireturn, 1) := by decide +kernel
theorem dX11_ballY_0 : decode cX11_ballY 0 = .ok (.aload_n 0, 1) := by decide +kernel
theorem dX11_ballY_1 : decode cX11_ballY 1 = .ok (.getfield 156, 3) := by decide +kernel
theorem dX11_ballY_4 : decode cX11_ballY 4 = .ok (.iload_n 1, 1) := by decide +kernel
theorem dX11_ballY_5 : decode cX11_ballY 5 = .ok (.aload_n 0, 1) := by decide +kernel
theorem dX11_ballY_6 : decode cX11_ballY 6 = .ok (.getfield 162, 3) := by decide +kernel
theorem dX11_ballY_9 : decode cX11_ballY 9 = .ok (.imul, 1) := by decide +kernel
theorem dX11_ballY_10 : decode cX11_ballY 10 = .ok (.iadd, 1) := by decide +kernel
theorem dX11_ballY_11 : decode cX11_ballY 11 = .ok (.ireturn, 1) := by decide +kernel
theorem dX11_seeBall_0 : decode cX11_seeBall 0 = .ok (.aload_n 0, 1) := by decide +kernel
theorem dX11_seeBall_1 : decode cX11_seeBall 1 = .ok (.aload_n 0, 1) := by decide +kernel
theorem dX11_seeBall_2 : decode cX11_seeBall 2 = .ok (.iload_n 1, 1) := by decide +kernel
theorem dX11_seeBall_3 : decode cX11_seeBall 3 = .ok (.invokevirtual 165, 3) := by decide +kernel
theorem dX11_seeBall_6 : decode cX11_seeBall 6 = .ok (.aload_n 0, 1) := by decide +kernel
theorem dX11_seeBall_7 : decode cX11_seeBall 7 = .ok (.iload_n 1, 1) := by decide +kernel
theorem dX11_seeBall_8 : decode cX11_seeBall 8 = .ok (.invokevirtual 168, 3) := by decide +kernel
theorem dX11_seeBall_11 : decode cX11_seeBall 11 = .ok (.bipush 24, 2) := by decide +kernel
theorem dX11_seeBall_13 : decode cX11_seeBall 13 = .ok (.aload_n 0, 1) := by decide +kernel
theorem dX11_seeBall_14 : decode cX11_seeBall 14 = .ok (.iload_n 1, 1) := by decide +kernel
theorem dX11_seeBall_15 : decode cX11_seeBall 15 = .ok (.invokevirtual 139, 3) := by decide +kernel
theorem dX11_seeBall_18 : decode cX11_seeBall 18 = .ok (.isub, 1) := by decide +kernel
theorem dX11_seeBall_19 : decode cX11_seeBall 19 = .ok (.bipush 24, 2) := by decide +kernel
theorem dX11_seeBall_21 : decode cX11_seeBall 21 = .ok (.irem, 1) := by decide +kernel
theorem dX11_seeBall_22 : decode cX11_seeBall 22 = .ok (.invokevirtual 135, 3) := by decide +kernel
theorem dX11_seeBall_25 : decode cX11_seeBall 25 = .ok (.return_, 1) := by decide +kernel
theorem dX11_isThrow_0 : decode cX11_isThrow 0 = .ok (.iload_n 0, 1) := by decide +kernel
theorem dX11_isThrow_1 : decode cX11_isThrow 1 = .ok (.i2l, 1) := by decide +kernel
theorem dX11_isThrow_2 : decode cX11_isThrow 2 = .ok (.lconst 0, 1) := by decide +kernel
theorem dX11_isThrow_3 : decode cX11_isThrow 3 = .ok (.ldc2_w 171, 3) := by decide +kernel
theorem dX11_isThrow_6 : decode cX11_isThrow 6 = .ok (.invokestatic 67, 3) := by decide +kernel
theorem dX11_isThrow_9 : decode cX11_isThrow 9 = .ok (.ifCond .eq 14, 3) := by decide +kernel
theorem dX11_isThrow_12 : decode cX11_isThrow 12 = .ok (.iload_n 1, 1) := by decide +kernel
theorem dX11_isThrow_13 : decode cX11_isThrow 13 = .ok (.invokestatic 129, 3) := by decide +kernel
theorem dX11_isThrow_16 : decode cX11_isThrow 16 = .ok (.ifCond .eq 7, 3) := by decide +kernel
theorem dX11_isThrow_19 : decode cX11_isThrow 19 = .ok (.iconst 1, 1) := by decide +kernel
theorem dX11_isThrow_20 : decode cX11_isThrow 20 = .ok (.goto 4, 3) := by decide +kernel
theorem dX11_isThrow_23 : decode cX11_isThrow 23 = .ok (.iconst 0, 1) := by decide +kernel
theorem dX11_isThrow_24 : decode cX11_isThrow 24 = .ok (.ireturn, 1) := by decide +kernel
theorem dX11_ball_0 : decode cX11_ball 0 = .ok (.aload_n 0, 1) := by decide +kernel
theorem dX11_ball_1 : decode cX11_ball 1 = .ok (.iload_n 1, 1) := by decide +kernel
theorem dX11_ball_2 : decode cX11_ball 2 = .ok (.invokevirtual 142, 3) := by decide +kernel
theorem dX11_ball_5 : decode cX11_ball 5 = .ok (.ifCond .ne 6, 3) := by decide +kernel
theorem dX11_ball_8 : decode cX11_ball 8 = .ok (.ldc 145, 2) := by decide +kernel
theorem dX11_ball_10 : decode cX11_ball 10 = .ok (.ireturn, 1) := by decide +kernel
theorem dX11_ball_11 : decode cX11_ball 11 = .ok (.iload_n 2, 1) := by decide +kernel
theorem dX11_ball_12 : decode cX11_ball 12 = .ok (.iload_n 3, 1) := by decide +kernel
theorem dX11_ball_13 : decode cX11_ball 13 = .ok (.invokestatic 173, 3) := by decide +kernel
theorem dX11_ball_16 : decode cX11_ball 16 = .ok (.ifCond .eq 24, 3) := by decide +kernel
theorem dX11_ball_19 : decode cX11_ball 19 = .ok (.iload 4, 2) := by decide +kernel
theorem dX11_ball_21 : decode cX11_ball 21 = .ok (.invokestatic 118, 3) := by decide +kernel
theorem dX11_ball_24 : decode cX11_ball 24 = .ok (.ifCond .eq 16, 3) := by decide +kernel
theorem dX11_ball_27 : decode cX11_ball 27 = .ok (.iload 5, 2) := by decide +kernel
theorem dX11_ball_29 : decode cX11_ball 29 = .ok (.i2l, 1) := by decide +kernel
theorem dX11_ball_30 : decode cX11_ball 30 = .ok (.lconst 0, 1) := by decide +kernel
theorem dX11_ball_31 : decode cX11_ball 31 = .ok (.ldc2_w 146, 3) := by decide +kernel
theorem dX11_ball_34 : decode cX11_ball 34 = .ok (.invokestatic 67, 3) := by decide +kernel
theorem dX11_ball_37 : decode cX11_ball 37 = .ok (.ifCond .ne 6, 3) := by decide +kernel
theorem dX11_ball_40 : decode cX11_ball 40 = .ok (.ldc 148, 2) := by decide +kernel
theorem dX11_ball_42 : decode cX11_ball 42 = .ok (.ireturn, 1) := by decide +kernel
theorem dX11_ball_43 : decode cX11_ball 43 = .ok (.aload_n 0, 1) := by decide +kernel
theorem dX11_ball_44 : decode cX11_ball 44 = .ok (.invokevirtual 124, 3) := by decide +kernel
theorem dX11_ball_47 : decode cX11_ball 47 = .ok (.aload_n 0, 1) := by decide +kernel
theorem dX11_ball_48 : decode cX11_ball 48 = .ok (.iload_n 1, 1) := by decide +kernel
theorem dX11_ball_49 : decode cX11_ball 49 = .ok (.iload_n 2, 1) := by decide +kernel
theorem dX11_ball_50 : decode cX11_ball 50 = .ok (.iload_n 3, 1) := by decide +kernel
theorem dX11_ball_51 : decode cX11_ball 51 = .ok (.invokevirtual 177, 3) := by decide +kernel
theorem dX11_ball_54 : decode cX11_ball 54 = .ok (.iload 5, 2) := by decide +kernel
theorem dX11_ball_56 : decode cX11_ball 56 = .ok (.iconst 2, 1) := by decide +kernel
theorem dX11_ball_57 : decode cX11_ball 57 = .ok (.if_icmp .ge 24, 3) := by decide +kernel
theorem dX11_ball_60 : decode cX11_ball 60 = .ok (.iload 5, 2) := by decide +kernel
theorem dX11_ball_62 : decode cX11_ball 62 = .ok (.ifCond .ne 12, 3) := by decide +kernel
theorem dX11_ball_65 : decode cX11_ball 65 = .ok (.aload_n 0, 1) := by decide +kernel
theorem dX11_ball_66 : decode cX11_ball 66 = .ok (.iload 4, 2) := by decide +kernel
theorem dX11_ball_68 : decode cX11_ball 68 = .ok (.invokevirtual 165, 3) := by decide +kernel
theorem dX11_ball_71 : decode cX11_ball 71 = .ok (.goto 9, 3) := by decide +kernel
theorem dX11_ball_74 : decode cX11_ball 74 = .ok (.aload_n 0, 1) := by decide +kernel
theorem dX11_ball_75 : decode cX11_ball 75 = .ok (.iload 4, 2) := by decide +kernel
theorem dX11_ball_77 : decode cX11_ball 77 = .ok (.invokevirtual 168, 3) := by decide +kernel
theorem dX11_ball_80 : decode cX11_ball 80 = .ok (.ireturn, 1) := by decide +kernel
theorem dX11_ball_81 : decode cX11_ball 81 = .ok (.aload_n 0, 1) := by decide +kernel
theorem dX11_ball_82 : decode cX11_ball 82 = .ok (.iload 4, 2) := by decide +kernel
theorem dX11_ball_84 : decode cX11_ball 84 = .ok (.invokevirtual 180, 3) := by decide +kernel
theorem dX11_ball_87 : decode cX11_ball 87 = .ok (.iload 5, 2) := by decide +kernel
theorem dX11_ball_89 : decode cX11_ball 89 = .ok (.iconst 2, 1) := by decide +kernel
theorem dX11_ball_90 : decode cX11_ball 90 = .ok (.if_icmp .ne 10, 3) := by decide +kernel
theorem dX11_ball_93 : decode cX11_ball 93 = .ok (.aload_n 0, 1) := by decide +kernel
theorem dX11_ball_94 : decode cX11_ball 94 = .ok (.getfield 75, 3) := by decide +kernel
theorem dX11_ball_97 : decode cX11_ball 97 = .ok (.goto 7, 3) := by decide +kernel
theorem dX11_ball_100 : decode cX11_ball 100 = .ok (.aload_n 0, 1) := by decide +kernel
theorem dX11_ball_101 : decode cX11_ball 101 = .ok (.getfield 79, 3) := by decide +kernel
theorem dX11_ball_104 : decode cX11_ball 104 = .ok (.ireturn, 1) := by decide +kernel
theorem dX11_farFrom_0 : decode cX11_farFrom 0 = .ok (.aload_n 0, 1) := by decide +kernel
theorem dX11_farFrom_1 : decode cX11_farFrom 1 = .ok (.iload_n 1, 1) := by decide +kernel
theorem dX11_farFrom_2 : decode cX11_farFrom 2 = .ok (.iload_n 2, 1) := by decide +kernel
theorem dX11_farFrom_3 : decode cX11_farFrom 3 = .ok (.invokevirtual 149, 3) := by decide +kernel
theorem dX11_farFrom_6 : decode cX11_farFrom 6 = .ok (.aload_n 0, 1) := by decide +kernel
theorem dX11_farFrom_7 : decode cX11_farFrom 7 = .ok (.iload_n 2, 1) := by decide +kernel
theorem dX11_farFrom_8 : decode cX11_farFrom 8 = .ok (.invokevirtual 165, 3) := by decide +kernel
theorem dX11_farFrom_11 : decode cX11_farFrom 11 = .ok (.aload_n 0, 1) := by decide +kernel
theorem dX11_farFrom_12 : decode cX11_farFrom 12 = .ok (.getfield 75, 3) := by decide +kernel
theorem dX11_farFrom_15 : decode cX11_farFrom 15 = .ok (.isub, 1) := by decide +kernel
theorem dX11_farFrom_16 : decode cX11_farFrom 16 = .ok (.invokestatic 184, 3) := by decide +kernel
theorem dX11_farFrom_19 : decode cX11_farFrom 19 = .ok (.istore_n 3, 1) := by decide +kernel
theorem dX11_farFrom_20 : decode cX11_farFrom 20 = .ok (.aload_n 0, 1) := by decide +kernel
theorem dX11_farFrom_21 : decode cX11_farFrom 21 = .ok (.iload_n 2, 1) := by decide +kernel
theorem dX11_farFrom_22 : decode cX11_farFrom 22 = .ok (.invokevirtual 168, 3) := by decide +kernel
theorem dX11_farFrom_25 : decode cX11_farFrom 25 = .ok (.aload_n 0, 1) := by decide +kernel
theorem dX11_farFrom_26 : decode cX11_farFrom 26 = .ok (.getfield 79, 3) := by decide +kernel
theorem dX11_farFrom_29 : decode cX11_farFrom 29 = .ok (.isub, 1) := by decide +kernel
theorem dX11_farFrom_30 : decode cX11_farFrom 30 = .ok (.invokestatic 184, 3) := by decide +kernel
theorem dX11_farFrom_33 : decode cX11_farFrom 33 = .ok (.istore 4, 2) := by decide +kernel
theorem dX11_farFrom_35 : decode cX11_farFrom 35 = .ok (.iload_n 3, 1) := by decide +kernel
theorem dX11_farFrom_36 : decode cX11_farFrom 36 = .ok (.iload 4, 2) := by decide +kernel
theorem dX11_farFrom_38 : decode cX11_farFrom 38 = .ok (.if_icmp .le 7, 3) := by decide +kernel
theorem dX11_farFrom_41 : decode cX11_farFrom 41 = .ok (.iload_n 3, 1) := by decide +kernel
theorem dX11_farFrom_42 : decode cX11_farFrom 42 = .ok (.goto 5, 3) := by decide +kernel
theorem dX11_farFrom_45 : decode cX11_farFrom 45 = .ok (.iload 4, 2) := by decide +kernel
theorem dX11_farFrom_47 : decode cX11_farFrom 47 = .ok (.ireturn, 1) := by decide +kernel
theorem dX11_caughtOf_0 : decode cX11_caughtOf 0 = .ok (.aload_n 0, 1) := by decide +kernel
theorem dX11_caughtOf_1 : decode cX11_caughtOf 1 = .ok (.iload_n 1, 1) := by decide +kernel
theorem dX11_caughtOf_2 : decode cX11_caughtOf 2 = .ok (.iload_n 2, 1) := by decide +kernel
theorem dX11_caughtOf_3 : decode cX11_caughtOf 3 = .ok (.iload_n 3, 1) := by decide +kernel
theorem dX11_caughtOf_4 : decode cX11_caughtOf 4 = .ok (.invokevirtual 177, 3) := by decide +kernel
theorem dX11_caughtOf_7 : decode cX11_caughtOf 7 = .ok (.iconst 1, 1) := by decide +kernel
theorem dX11_caughtOf_8 : decode cX11_caughtOf 8 = .ok (.istore 5, 2) := by decide +kernel
theorem dX11_caughtOf_10 : decode cX11_caughtOf 10 = .ok (.iload 5, 2) := by decide +kernel
theorem dX11_caughtOf_12 : decode cX11_caughtOf 12 = .ok (.bipush 60, 2) := by decide +kernel
theorem dX11_caughtOf_14 : decode cX11_caughtOf 14 = .ok (.if_icmp .gt 29, 3) := by decide +kernel
theorem dX11_caughtOf_17 : decode cX11_caughtOf 17 = .ok (.aload_n 0, 1) := by decide +kernel
theorem dX11_caughtOf_18 : decode cX11_caughtOf 18 = .ok (.iload 4, 2) := by decide +kernel
theorem dX11_caughtOf_20 : decode cX11_caughtOf 20 = .ok (.iload 5, 2) := by decide +kernel
theorem dX11_caughtOf_22 : decode cX11_caughtOf 22 = .ok (.invokevirtual 187, 3) := by decide +kernel
theorem dX11_caughtOf_25 : decode cX11_caughtOf 25 = .ok (.aload_n 0, 1) := by decide +kernel
theorem dX11_caughtOf_26 : decode cX11_caughtOf 26 = .ok (.getfield 13, 3) := by decide +kernel
theorem dX11_caughtOf_29 : decode cX11_caughtOf 29 = .ok (.iconst 2, 1) := by decide +kernel
theorem dX11_caughtOf_30 : decode cX11_caughtOf 30 = .ok (.iaload, 1) := by decide +kernel
theorem dX11_caughtOf_31 : decode cX11_caughtOf 31 = .ok (.if_icmp .gt 6, 3) := by decide +kernel
theorem dX11_caughtOf_34 : decode cX11_caughtOf 34 = .ok (.iload 5, 2) := by decide +kernel
theorem dX11_caughtOf_36 : decode cX11_caughtOf 36 = .ok (.ireturn, 1) := by decide +kernel
theorem dX11_caughtOf_37 : decode cX11_caughtOf 37 = .ok (.iinc 5 1, 3) := by decide +kernel
theorem dX11_caughtOf_40 : decode cX11_caughtOf 40 = .ok (.goto (-30), 3) := by decide +kernel
theorem dX11_caughtOf_43 : decode cX11_caughtOf 43 = .ok (.bipush (-6), 2) := by decide +kernel
theorem dX11_caughtOf_45 : decode cX11_caughtOf 45 = .ok (.ireturn, 1) := by decide +kernel
theorem dX11_caught_0 : decode cX11_caught 0 = .ok (.aload_n 0, 1) := by decide +kernel
theorem dX11_caught_1 : decode cX11_caught 1 = .ok (.iload_n 1, 1) := by decide +kernel
theorem dX11_caught_2 : decode cX11_caught 2 = .ok (.invokevirtual 142, 3) := by decide +kernel
theorem dX11_caught_5 : decode cX11_caught 5 = .ok (.ifCond .eq 12, 3) := by decide +kernel
theorem dX11_caught_8 : decode cX11_caught 8 = .ok (.aload_n 0, 1) := by decide +kernel
theorem dX11_caught_9 : decode cX11_caught 9 = .ok (.iload 4, 2) := by decide +kernel
theorem dX11_caught_11 : decode cX11_caught 11 = .ok (.invokevirtual 142, 3) := by decide +kernel
theorem dX11_caught_14 : decode cX11_caught 14 = .ok (.ifCond .ne 5, 3) := by decide +kernel
theorem dX11_caught_17 : decode cX11_caught 17 = .ok (.iconst (-1), 1) := by decide +kernel
theorem dX11_caught_18 : decode cX11_caught 18 = .ok (.ireturn, 1) := by decide +kernel
theorem dX11_caught_19 : decode cX11_caught 19 = .ok (.iload_n 2, 1) := by decide +kernel
theorem dX11_caught_20 : decode cX11_caught 20 = .ok (.iload_n 3, 1) := by decide +kernel
theorem dX11_caught_21 : decode cX11_caught 21 = .ok (.invokestatic 173, 3) := by decide +kernel
theorem dX11_caught_24 : decode cX11_caught 24 = .ok (.ifCond .ne 6, 3) := by decide +kernel
theorem dX11_caught_27 : decode cX11_caught 27 = .ok (.bipush (-2), 2) := by decide +kernel
theorem dX11_caught_29 : decode cX11_caught 29 = .ok (.ireturn, 1) := by decide +kernel
theorem dX11_caught_30 : decode cX11_caught 30 = .ok (.aload_n 0, 1) := by decide +kernel
theorem dX11_caught_31 : decode cX11_caught 31 = .ok (.invokevirtual 124, 3) := by decide +kernel
theorem dX11_caught_34 : decode cX11_caught 34 = .ok (.aload_n 0, 1) := by decide +kernel
theorem dX11_caught_35 : decode cX11_caught 35 = .ok (.iload_n 1, 1) := by decide +kernel
theorem dX11_caught_36 : decode cX11_caught 36 = .ok (.iload_n 2, 1) := by decide +kernel
theorem dX11_caught_37 : decode cX11_caught 37 = .ok (.iload_n 3, 1) := by decide +kernel
theorem dX11_caught_38 : decode cX11_caught 38 = .ok (.iload 4, 2) := by decide +kernel
theorem dX11_caught_40 : decode cX11_caught 40 = .ok (.invokevirtual 191, 3) := by decide +kernel
theorem dX11_caught_43 : decode cX11_caught 43 = .ok (.ireturn, 1) := by decide +kernel
theorem dX11_neighbours_0 : decode cX11_neighbours 0 = .ok (.iconst 0, 1) := by decide +kernel
theorem dX11_neighbours_1 : decode cX11_neighbours 1 = .ok (.istore_n 3, 1) := by decide +kernel
theorem dX11_neighbours_2 : decode cX11_neighbours 2 = .ok (.iload_n 1, 1) := by decide +kernel
theorem dX11_neighbours_3 : decode cX11_neighbours 3 = .ok (.iconst 1, 1) := by decide +kernel
theorem dX11_neighbours_4 : decode cX11_neighbours 4 = .ok (.isub, 1) := by decide +kernel
theorem dX11_neighbours_5 : decode cX11_neighbours 5 = .ok (.istore 4, 2) := by decide +kernel
theorem dX11_neighbours_7 : decode cX11_neighbours 7 = .ok (.iload 4, 2) := by decide +kernel
theorem dX11_neighbours_9 : decode cX11_neighbours 9 = .ok (.iload_n 1, 1) := by decide +kernel
theorem dX11_neighbours_10 : decode cX11_neighbours 10 = .ok (.iconst 1, 1) := by decide +kernel
theorem dX11_neighbours_11 : decode cX11_neighbours 11 = .ok (.iadd, 1) := by decide +kernel
theorem dX11_neighbours_12 : decode cX11_neighbours 12 = .ok (.if_icmp .gt 80, 3) := by decide +kernel
theorem dX11_neighbours_15 : decode cX11_neighbours 15 = .ok (.bipush 23, 2) := by decide +kernel
theorem dX11_neighbours_17 : decode cX11_neighbours 17 = .ok (.istore 5, 2) := by decide +kernel
theorem dX11_neighbours_19 : decode cX11_neighbours 19 = .ok (.iload 5, 2) := by decide +kernel
theorem dX11_neighbours_21 : decode cX11_neighbours 21 = .ok (.bipush 25, 2) := by decide +kernel
theorem dX11_neighbours_23 : decode cX11_neighbours 23 = .ok (.if_icmp .gt 63, 3) := by decide +kernel
theorem dX11_neighbours_26 : decode cX11_neighbours 26 = .ok (.iload 4, 2) := by decide +kernel
theorem dX11_neighbours_28 : decode cX11_neighbours 28 = .ok (.iload_n 1, 1) := by decide +kernel
theorem dX11_neighbours_29 : decode cX11_neighbours 29 = .ok (.if_icmp .ne 14, 3) := by decide +kernel
theorem dX11_neighbours_32 : decode cX11_neighbours 32 = .ok (.iload 5, 2) := by decide +kernel
theorem dX11_neighbours_34 : decode cX11_neighbours 34 = .ok (.bipush 24, 2) := by decide +kernel
theorem dX11_neighbours_36 : decode cX11_neighbours 36 = .ok (.if_icmp .ne 7, 3) := by decide +kernel
theorem dX11_neighbours_39 : decode cX11_neighbours 39 = .ok (.iconst 1, 1) := by decide +kernel
theorem dX11_neighbours_40 : decode cX11_neighbours 40 = .ok (.goto 4, 3) := by decide +kernel
theorem dX11_neighbours_43 : decode cX11_neighbours 43 = .ok (.iconst 0, 1) := by decide +kernel
theorem dX11_neighbours_44 : decode cX11_neighbours 44 = .ok (.istore 6, 2) := by decide +kernel
theorem dX11_neighbours_46 : decode cX11_neighbours 46 = .ok (.iload_n 3, 1) := by decide +kernel
theorem dX11_neighbours_47 : decode cX11_neighbours 47 = .ok (.iload 6, 2) := by decide +kernel
theorem dX11_neighbours_49 : decode cX11_neighbours 49 = .ok (.ifCond .ne 28, 3) := by decide +kernel
theorem dX11_neighbours_52 : decode cX11_neighbours 52 = .ok (.aload_n 0, 1) := by decide +kernel
theorem dX11_neighbours_53 : decode cX11_neighbours 53 = .ok (.getfield 37, 3) := by decide +kernel
theorem dX11_neighbours_56 : decode cX11_neighbours 56 = .ok (.bipush 24, 2) := by decide +kernel
theorem dX11_neighbours_58 : decode cX11_neighbours 58 = .ok (.iload 4, 2) := by decide +kernel
theorem dX11_neighbours_60 : decode cX11_neighbours 60 = .ok (.imul, 1) := by decide +kernel
theorem dX11_neighbours_61 : decode cX11_neighbours 61 = .ok (.iload_n 2, 1) := by decide +kernel
theorem dX11_neighbours_62 : decode cX11_neighbours 62 = .ok (.iload 5, 2) := by decide +kernel
theorem dX11_neighbours_64 : decode cX11_neighbours 64 = .ok (.iadd, 1) := by decide +kernel
theorem dX11_neighbours_65 : decode cX11_neighbours 65 = .ok (.bipush 24, 2) := by decide +kernel
theorem dX11_neighbours_67 : decode cX11_neighbours 67 = .ok (.irem, 1) := by decide +kernel
theorem dX11_neighbours_68 : decode cX11_neighbours 68 = .ok (.iadd, 1) := by decide +kernel
theorem dX11_neighbours_69 : decode cX11_neighbours 69 = .ok (.baload, 1) := by decide +kernel
theorem dX11_neighbours_70 : decode cX11_neighbours 70 = .ok (.ifCond .eq 7, 3) := by decide +kernel
theorem dX11_neighbours_73 : decode cX11_neighbours 73 = .ok (.iconst 1, 1) := by decide +kernel
theorem dX11_neighbours_74 : decode cX11_neighbours 74 = .ok (.goto 4, 3) := by decide +kernel
theorem dX11_neighbours_77 : decode cX11_neighbours 77 = .ok (.iconst 0, 1) := by decide +kernel
theorem dX11_neighbours_78 : decode cX11_neighbours 78 = .ok (.iadd, 1) := by decide +kernel
theorem dX11_neighbours_79 : decode cX11_neighbours 79 = .ok (.istore_n 3, 1) := by decide +kernel
theorem dX11_neighbours_80 : decode cX11_neighbours 80 = .ok (.iinc 5 1, 3) := by decide +kernel
theorem dX11_neighbours_83 : decode cX11_neighbours 83 = .ok (.goto (-64), 3) := by decide +kernel
theorem dX11_neighbours_86 : decode cX11_neighbours 86 = .ok (.iinc 4 1, 3) := by decide +kernel
theorem dX11_neighbours_89 : decode cX11_neighbours 89 = .ok (.goto (-82), 3) := by decide +kernel
theorem dX11_neighbours_92 : decode cX11_neighbours 92 = .ok (.iload_n 3, 1) := by decide +kernel
theorem dX11_neighbours_93 : decode cX11_neighbours 93 = .ok (.ireturn, 1) := by decide +kernel
theorem dX11_all_0 : decode cX11_all 0 = .ok (.aload_n 0, 1) := by decide +kernel
theorem dX11_all_1 : decode cX11_all 1 = .ok (.iload_n 1, 1) := by decide +kernel
theorem dX11_all_2 : decode cX11_all 2 = .ok (.invokevirtual 142, 3) := by decide +kernel
theorem dX11_all_5 : decode cX11_all 5 = .ok (.ifCond .eq 11, 3) := by decide +kernel
theorem dX11_all_8 : decode cX11_all 8 = .ok (.aload_n 0, 1) := by decide +kernel
theorem dX11_all_9 : decode cX11_all 9 = .ok (.iload_n 2, 1) := by decide +kernel
theorem dX11_all_10 : decode cX11_all 10 = .ok (.invokevirtual 142, 3) := by decide +kernel
theorem dX11_all_13 : decode cX11_all 13 = .ok (.ifCond .ne 5, 3) := by decide +kernel
theorem dX11_all_16 : decode cX11_all 16 = .ok (.iconst (-1), 1) := by decide +kernel
theorem dX11_all_17 : decode cX11_all 17 = .ok (.ireturn, 1) := by decide +kernel
theorem dX11_all_18 : decode cX11_all 18 = .ok (.iload_n 3, 1) := by decide +kernel
theorem dX11_all_19 : decode cX11_all 19 = .ok (.i2l, 1) := by decide +kernel
theorem dX11_all_20 : decode cX11_all 20 = .ok (.lconst 0, 1) := by decide +kernel
theorem dX11_all_21 : decode cX11_all 21 = .ok (.ldc2_w 146, 3) := by decide +kernel
theorem dX11_all_24 : decode cX11_all 24 = .ok (.invokestatic 67, 3) := by decide +kernel
theorem dX11_all_27 : decode cX11_all 27 = .ok (.ifCond .ne 6, 3) := by decide +kernel
theorem dX11_all_30 : decode cX11_all 30 = .ok (.bipush (-2), 2) := by decide +kernel
theorem dX11_all_32 : decode cX11_all 32 = .ok (.ireturn, 1) := by decide +kernel
theorem dX11_all_33 : decode cX11_all 33 = .ok (.aload_n 0, 1) := by decide +kernel
theorem dX11_all_34 : decode cX11_all 34 = .ok (.invokevirtual 124, 3) := by decide +kernel
theorem dX11_all_37 : decode cX11_all 37 = .ok (.iconst 0, 1) := by decide +kernel
theorem dX11_all_38 : decode cX11_all 38 = .ok (.istore 4, 2) := by decide +kernel
theorem dX11_all_40 : decode cX11_all 40 = .ok (.iload 4, 2) := by decide +kernel
theorem dX11_all_42 : decode cX11_all 42 = .ok (.bipush 61, 2) := by decide +kernel
theorem dX11_all_44 : decode cX11_all 44 = .ok (.if_icmp .gt 56, 3) := by decide +kernel
theorem dX11_all_47 : decode cX11_all 47 = .ok (.iconst 0, 1) := by decide +kernel
theorem dX11_all_48 : decode cX11_all 48 = .ok (.istore 5, 2) := by decide +kernel
theorem dX11_all_50 : decode cX11_all 50 = .ok (.iload 5, 2) := by decide +kernel
theorem dX11_all_52 : decode cX11_all 52 = .ok (.bipush 24, 2) := by decide +kernel
theorem dX11_all_54 : decode cX11_all 54 = .ok (.if_icmp .ge 40, 3) := by decide +kernel
theorem dX11_all_57 : decode cX11_all 57 = .ok (.aload_n 0, 1) := by decide +kernel
theorem dX11_all_58 : decode cX11_all 58 = .ok (.getfield 37, 3) := by decide +kernel
theorem dX11_all_61 : decode cX11_all 61 = .ok (.bipush 24, 2) := by decide +kernel
theorem dX11_all_63 : decode cX11_all 63 = .ok (.iload 4, 2) := by decide +kernel
theorem dX11_all_65 : decode cX11_all 65 = .ok (.imul, 1) := by decide +kernel
theorem dX11_all_66 : decode cX11_all 66 = .ok (.iload 5, 2) := by decide +kernel
theorem dX11_all_68 : decode cX11_all 68 = .ok (.iadd, 1) := by decide +kernel
theorem dX11_all_69 : decode cX11_all 69 = .ok (.aload_n 0, 1) := by decide +kernel
theorem dX11_all_70 : decode cX11_all 70 = .ok (.iload_n 1, 1) := by decide +kernel
theorem dX11_all_71 : decode cX11_all 71 = .ok (.iload 4, 2) := by decide +kernel
theorem dX11_all_73 : decode cX11_all 73 = .ok (.iload 5, 2) := by decide +kernel
theorem dX11_all_75 : decode cX11_all 75 = .ok (.iload_n 2, 1) := by decide +kernel
theorem dX11_all_76 : decode cX11_all 76 = .ok (.invokevirtual 191, 3) := by decide +kernel
theorem dX11_all_79 : decode cX11_all 79 = .ok (.ifCond .lt 7, 3) := by decide +kernel
theorem dX11_all_82 : decode cX11_all 82 = .ok (.iconst 1, 1) := by decide +kernel
theorem dX11_all_83 : decode cX11_all 83 = .ok (.goto 4, 3) := by decide +kernel
theorem dX11_all_86 : decode cX11_all 86 = .ok (.iconst 0, 1) := by decide +kernel
theorem dX11_all_87 : decode cX11_all 87 = .ok (.bastore, 1) := by decide +kernel
theorem dX11_all_88 : decode cX11_all 88 = .ok (.iinc 5 1, 3) := by decide +kernel
theorem dX11_all_91 : decode cX11_all 91 = .ok (.goto (-41), 3) := by decide +kernel
theorem dX11_all_94 : decode cX11_all 94 = .ok (.iinc 4 1, 3) := by decide +kernel
theorem dX11_all_97 : decode cX11_all 97 = .ok (.goto (-57), 3) := by decide +kernel
theorem dX11_all_100 : decode cX11_all 100 = .ok (.iconst 0, 1) := by decide +kernel
theorem dX11_all_101 : decode cX11_all 101 = .ok (.istore 4, 2) := by decide +kernel
theorem dX11_all_103 : decode cX11_all 103 = .ok (.bipush (-6), 2) := by decide +kernel
theorem dX11_all_105 : decode cX11_all 105 = .ok (.istore 5, 2) := by decide +kernel
theorem dX11_all_107 : decode cX11_all 107 = .ok (.iconst 0, 1) := by decide +kernel
theorem dX11_all_108 : decode cX11_all 108 = .ok (.istore 6, 2) := by decide +kernel
theorem dX11_all_110 : decode cX11_all 110 = .ok (.bipush 24, 2) := by decide +kernel
theorem dX11_all_112 : decode cX11_all 112 = .ok (.istore 7, 2) := by decide +kernel
theorem dX11_all_114 : decode cX11_all 114 = .ok (.iload 7, 2) := by decide +kernel
theorem dX11_all_116 : decode cX11_all 116 = .ok (.sipush 1464, 3) := by decide +kernel
theorem dX11_all_119 : decode cX11_all 119 = .ok (.if_icmp .ge 58, 3) := by decide +kernel
theorem dX11_all_122 : decode cX11_all 122 = .ok (.aload_n 0, 1) := by decide +kernel
theorem dX11_all_123 : decode cX11_all 123 = .ok (.getfield 37, 3) := by decide +kernel
theorem dX11_all_126 : decode cX11_all 126 = .ok (.iload 7, 2) := by decide +kernel
theorem dX11_all_128 : decode cX11_all 128 = .ok (.baload, 1) := by decide +kernel
theorem dX11_all_129 : decode cX11_all 129 = .ok (.ifCond .eq 42, 3) := by decide +kernel
theorem dX11_all_132 : decode cX11_all 132 = .ok (.iinc 4 1, 3) := by decide +kernel
theorem dX11_all_135 : decode cX11_all 135 = .ok (.aload_n 0, 1) := by decide +kernel
theorem dX11_all_136 : decode cX11_all 136 = .ok (.iload 7, 2) := by decide +kernel
theorem dX11_all_138 : decode cX11_all 138 = .ok (.bipush 24, 2) := by decide +kernel
theorem dX11_all_140 : decode cX11_all 140 = .ok (.idiv, 1) := by decide +kernel
theorem dX11_all_141 : decode cX11_all 141 = .ok (.iload 7, 2) := by decide +kernel
theorem dX11_all_143 : decode cX11_all 143 = .ok (.bipush 24, 2) := by decide +kernel
theorem dX11_all_145 : decode cX11_all 145 = .ok (.irem, 1) := by decide +kernel
theorem dX11_all_146 : decode cX11_all 146 = .ok (.invokevirtual 195, 3) := by decide +kernel
theorem dX11_all_149 : decode cX11_all 149 = .ok (.istore 8, 2) := by decide +kernel
theorem dX11_all_151 : decode cX11_all 151 = .ok (.iload 5, 2) := by decide +kernel
theorem dX11_all_153 : decode cX11_all 153 = .ok (.ifCond .lt 10, 3) := by decide +kernel
theorem dX11_all_156 : decode cX11_all 156 = .ok (.iload 8, 2) := by decide +kernel
theorem dX11_all_158 : decode cX11_all 158 = .ok (.iload 6, 2) := by decide +kernel
theorem dX11_all_160 : decode cX11_all 160 = .ok (.if_icmp .le 11, 3) := by decide +kernel
theorem dX11_all_163 : decode cX11_all 163 = .ok (.iload 7, 2) := by decide +kernel
theorem dX11_all_165 : decode cX11_all 165 = .ok (.istore 5, 2) := by decide +kernel
theorem dX11_all_167 : decode cX11_all 167 = .ok (.iload 8, 2) := by decide +kernel
theorem dX11_all_169 : decode cX11_all 169 = .ok (.istore 6, 2) := by decide +kernel
theorem dX11_all_171 : decode cX11_all 171 = .ok (.iinc 7 1, 3) := by decide +kernel
theorem dX11_all_174 : decode cX11_all 174 = .ok (.goto (-60), 3) := by decide +kernel
theorem dX11_all_177 : decode cX11_all 177 = .ok (.iload_n 3, 1) := by decide +kernel
theorem dX11_all_178 : decode cX11_all 178 = .ok (.ifCond .ne 6, 3) := by decide +kernel
theorem dX11_all_181 : decode cX11_all 181 = .ok (.iload 4, 2) := by decide +kernel
theorem dX11_all_183 : decode cX11_all 183 = .ok (.ireturn, 1) := by decide +kernel
theorem dX11_all_184 : decode cX11_all 184 = .ok (.iload 5, 2) := by decide +kernel
theorem dX11_all_186 : decode cX11_all 186 = .ok (.ifCond .ge 8, 3) := by decide +kernel
theorem dX11_all_189 : decode cX11_all 189 = .ok (.bipush (-6), 2) := by decide +kernel
theorem dX11_all_191 : decode cX11_all 191 = .ok (.goto 31, 3) := by decide +kernel
theorem dX11_all_194 : decode cX11_all 194 = .ok (.iload_n 3, 1) := by decide +kernel
theorem dX11_all_195 : decode cX11_all 195 = .ok (.iconst 1, 1) := by decide +kernel
theorem dX11_all_196 : decode cX11_all 196 = .ok (.if_icmp .ne 11, 3) := by decide +kernel
theorem dX11_all_199 : decode cX11_all 199 = .ok (.iload 5, 2) := by decide +kernel
theorem dX11_all_201 : decode cX11_all 201 = .ok (.bipush 24, 2) := by decide +kernel
theorem dX11_all_203 : decode cX11_all 203 = .ok (.idiv, 1) := by decide +kernel
theorem dX11_all_204 : decode cX11_all 204 = .ok (.goto 18, 3) := by decide +kernel
theorem dX11_all_207 : decode cX11_all 207 = .ok (.iload_n 3, 1) := by decide +kernel
theorem dX11_all_208 : decode cX11_all 208 = .ok (.iconst 2, 1) := by decide +kernel
theorem dX11_all_209 : decode cX11_all 209 = .ok (.if_icmp .ne 11, 3) := by decide +kernel
theorem dX11_all_212 : decode cX11_all 212 = .ok (.iload 5, 2) := by decide +kernel
theorem dX11_all_214 : decode cX11_all 214 = .ok (.bipush 24, 2) := by decide +kernel
theorem dX11_all_216 : decode cX11_all 216 = .ok (.irem, 1) := by decide +kernel
theorem dX11_all_217 : decode cX11_all 217 = .ok (.goto 5, 3) := by decide +kernel
theorem dX11_all_220 : decode cX11_all 220 = .ok (.iload 6, 2) := by decide +kernel
theorem dX11_all_222 : decode cX11_all 222 = .ok (.ireturn, 1) := by decide +kernel
theorem dX11_side_0 : decode cX11_side 0 = .ok (.aload_n 0, 1) := by decide +kernel
theorem dX11_side_1 : decode cX11_side 1 = .ok (.getfield 41, 3) := by decide +kernel
theorem dX11_side_4 : decode cX11_side 4 = .ok (.iload_n 2, 1) := by decide +kernel
theorem dX11_side_5 : decode cX11_side 5 = .ok (.iaload, 1) := by decide +kernel
theorem dX11_side_6 : decode cX11_side 6 = .ok (.aload_n 0, 1) := by decide +kernel
theorem dX11_side_7 : decode cX11_side 7 = .ok (.getfield 41, 3) := by decide +kernel
theorem dX11_side_10 : decode cX11_side 10 = .ok (.iload_n 1, 1) := by decide +kernel
theorem dX11_side_11 : decode cX11_side 11 = .ok (.iaload, 1) := by decide +kernel
theorem dX11_side_12 : decode cX11_side 12 = .ok (.isub, 1) := by decide +kernel
theorem dX11_side_13 : decode cX11_side 13 = .ok (.i2l, 1) := by decide +kernel
theorem dX11_side_14 : decode cX11_side 14 = .ok (.aload_n 0, 1) := by decide +kernel
theorem dX11_side_15 : decode cX11_side 15 = .ok (.getfield 44, 3) := by decide +kernel
theorem dX11_side_18 : decode cX11_side 18 = .ok (.iload_n 3, 1) := by decide +kernel
theorem dX11_side_19 : decode cX11_side 19 = .ok (.iaload, 1) := by decide +kernel
theorem dX11_side_20 : decode cX11_side 20 = .ok (.aload_n 0, 1) := by decide +kernel
theorem dX11_side_21 : decode cX11_side 21 = .ok (.getfield 44, 3) := by decide +kernel
theorem dX11_side_24 : decode cX11_side 24 = .ok (.iload_n 1, 1) := by decide +kernel
theorem dX11_side_25 : decode cX11_side 25 = .ok (.iaload, 1) := by decide +kernel
theorem dX11_side_26 : decode cX11_side 26 = .ok (.isub, 1) := by decide +kernel
theorem dX11_side_27 : decode cX11_side 27 = .ok (.i2l, 1) := by decide +kernel
theorem dX11_side_28 : decode cX11_side 28 = .ok (.lmul, 1) := by decide +kernel
theorem dX11_side_29 : decode cX11_side 29 = .ok (.aload_n 0, 1) := by decide +kernel
theorem dX11_side_30 : decode cX11_side 30 = .ok (.getfield 44, 3) := by decide +kernel
theorem dX11_side_33 : decode cX11_side 33 = .ok (.iload_n 2, 1) := by decide +kernel
theorem dX11_side_34 : decode cX11_side 34 = .ok (.iaload, 1) := by decide +kernel
theorem dX11_side_35 : decode cX11_side 35 = .ok (.aload_n 0, 1) := by decide +kernel
theorem dX11_side_36 : decode cX11_side 36 = .ok (.getfield 44, 3) := by decide +kernel
theorem dX11_side_39 : decode cX11_side 39 = .ok (.iload_n 1, 1) := by decide +kernel
theorem dX11_side_40 : decode cX11_side 40 = .ok (.iaload, 1) := by decide +kernel
theorem dX11_side_41 : decode cX11_side 41 = .ok (.isub, 1) := by decide +kernel
theorem dX11_side_42 : decode cX11_side 42 = .ok (.i2l, 1) := by decide +kernel
theorem dX11_side_43 : decode cX11_side 43 = .ok (.aload_n 0, 1) := by decide +kernel
theorem dX11_side_44 : decode cX11_side 44 = .ok (.getfield 41, 3) := by decide +kernel
theorem dX11_side_47 : decode cX11_side 47 = .ok (.iload_n 3, 1) := by decide +kernel
theorem dX11_side_48 : decode cX11_side 48 = .ok (.iaload, 1) := by decide +kernel
theorem dX11_side_49 : decode cX11_side 49 = .ok (.aload_n 0, 1) := by decide +kernel
theorem dX11_side_50 : decode cX11_side 50 = .ok (.getfield 41, 3) := by decide +kernel
theorem dX11_side_53 : decode cX11_side 53 = .ok (.iload_n 1, 1) := by decide +kernel
theorem dX11_side_54 : decode cX11_side 54 = .ok (.iaload, 1) := by decide +kernel
theorem dX11_side_55 : decode cX11_side 55 = .ok (.isub, 1) := by decide +kernel
theorem dX11_side_56 : decode cX11_side 56 = .ok (.i2l, 1) := by decide +kernel
theorem dX11_side_57 : decode cX11_side 57 = .ok (.lmul, 1) := by decide +kernel
theorem dX11_side_58 : decode cX11_side 58 = .ok (.lsub, 1) := by decide +kernel
theorem dX11_side_59 : decode cX11_side 59 = .ok (.lstore 4, 2) := by decide +kernel
theorem dX11_side_61 : decode cX11_side 61 = .ok (.lload 4, 2) := by decide +kernel
theorem dX11_side_63 : decode cX11_side 63 = .ok (.lconst 0, 1) := by decide +kernel
theorem dX11_side_64 : decode cX11_side 64 = .ok (.lcmp, 1) := by decide +kernel
theorem dX11_side_65 : decode cX11_side 65 = .ok (.ifCond .le 7, 3) := by decide +kernel
theorem dX11_side_68 : decode cX11_side 68 = .ok (.iconst 1, 1) := by decide +kernel
theorem dX11_side_69 : decode cX11_side 69 = .ok (.goto 15, 3) := by decide +kernel
theorem dX11_side_72 : decode cX11_side 72 = .ok (.lload 4, 2) := by decide +kernel
theorem dX11_side_74 : decode cX11_side 74 = .ok (.lconst 0, 1) := by decide +kernel
theorem dX11_side_75 : decode cX11_side 75 = .ok (.lcmp, 1) := by decide +kernel
theorem dX11_side_76 : decode cX11_side 76 = .ok (.ifCond .ge 7, 3) := by decide +kernel
theorem dX11_side_79 : decode cX11_side 79 = .ok (.iconst (-1), 1) := by decide +kernel
theorem dX11_side_80 : decode cX11_side 80 = .ok (.goto 4, 3) := by decide +kernel
theorem dX11_side_83 : decode cX11_side 83 = .ok (.iconst 0, 1) := by decide +kernel
theorem dX11_side_84 : decode cX11_side 84 = .ok (.ireturn, 1) := by decide +kernel
theorem dX11_isBetween_0 : decode cX11_isBetween 0 = .ok (.iload_n 1, 1) := by decide +kernel
theorem dX11_isBetween_1 : decode cX11_isBetween 1 = .ok (.iload_n 2, 1) := by decide +kernel
theorem dX11_isBetween_2 : decode cX11_isBetween 2 = .ok (.if_icmp .ge 15, 3) := by decide +kernel
theorem dX11_isBetween_5 : decode cX11_isBetween 5 = .ok (.iload_n 0, 1) := by decide +kernel
theorem dX11_isBetween_6 : decode cX11_isBetween 6 = .ok (.i2l, 1) := by decide +kernel
theorem dX11_isBetween_7 : decode cX11_isBetween 7 = .ok (.iload_n 1, 1) := by decide +kernel
theorem dX11_isBetween_8 : decode cX11_isBetween 8 = .ok (.i2l, 1) := by decide +kernel
theorem dX11_isBetween_9 : decode cX11_isBetween 9 = .ok (.iload_n 2, 1) := by decide +kernel
theorem dX11_isBetween_10 : decode cX11_isBetween 10 = .ok (.i2l, 1) := by decide +kernel
theorem dX11_isBetween_11 : decode cX11_isBetween 11 = .ok (.invokestatic 67, 3) := by decide +kernel
theorem dX11_isBetween_14 : decode cX11_isBetween 14 = .ok (.goto 12, 3) := by decide +kernel
theorem dX11_isBetween_17 : decode cX11_isBetween 17 = .ok (.iload_n 0, 1) := by decide +kernel
theorem dX11_isBetween_18 : decode cX11_isBetween 18 = .ok (.i2l, 1) := by decide +kernel
theorem dX11_isBetween_19 : decode cX11_isBetween 19 = .ok (.iload_n 2, 1) := by decide +kernel
theorem dX11_isBetween_20 : decode cX11_isBetween 20 = .ok (.i2l, 1) := by decide +kernel
theorem dX11_isBetween_21 : decode cX11_isBetween 21 = .ok (.iload_n 1, 1) := by decide +kernel
theorem dX11_isBetween_22 : decode cX11_isBetween 22 = .ok (.i2l, 1) := by decide +kernel
theorem dX11_isBetween_23 : decode cX11_isBetween 23 = .ok (.invokestatic 67, 3) := by decide +kernel
theorem dX11_isBetween_26 : decode cX11_isBetween 26 = .ok (.ireturn, 1) := by decide +kernel
theorem dX11_lies_0 : decode cX11_lies 0 = .ok (.aload_n 0, 1) := by decide +kernel
theorem dX11_lies_1 : decode cX11_lies 1 = .ok (.getfield 41, 3) := by decide +kernel
theorem dX11_lies_4 : decode cX11_lies 4 = .ok (.iload_n 1, 1) := by decide +kernel
theorem dX11_lies_5 : decode cX11_lies 5 = .ok (.iaload, 1) := by decide +kernel
theorem dX11_lies_6 : decode cX11_lies 6 = .ok (.aload_n 0, 1) := by decide +kernel
theorem dX11_lies_7 : decode cX11_lies 7 = .ok (.getfield 41, 3) := by decide +kernel
theorem dX11_lies_10 : decode cX11_lies 10 = .ok (.iload_n 2, 1) := by decide +kernel
theorem dX11_lies_11 : decode cX11_lies 11 = .ok (.iaload, 1) := by decide +kernel
theorem dX11_lies_12 : decode cX11_lies 12 = .ok (.aload_n 0, 1) := by decide +kernel
theorem dX11_lies_13 : decode cX11_lies 13 = .ok (.getfield 41, 3) := by decide +kernel
theorem dX11_lies_16 : decode cX11_lies 16 = .ok (.iload_n 3, 1) := by decide +kernel
theorem dX11_lies_17 : decode cX11_lies 17 = .ok (.iaload, 1) := by decide +kernel
theorem dX11_lies_18 : decode cX11_lies 18 = .ok (.invokestatic 198, 3) := by decide +kernel
theorem dX11_lies_21 : decode cX11_lies 21 = .ok (.ifCond .eq 31, 3) := by decide +kernel
theorem dX11_lies_24 : decode cX11_lies 24 = .ok (.aload_n 0, 1) := by decide +kernel
theorem dX11_lies_25 : decode cX11_lies 25 = .ok (.getfield 44, 3) := by decide +kernel
theorem dX11_lies_28 : decode cX11_lies 28 = .ok (.iload_n 1, 1) := by decide +kernel
theorem dX11_lies_29 : decode cX11_lies 29 = .ok (.iaload, 1) := by decide +kernel
theorem dX11_lies_30 : decode cX11_lies 30 = .ok (.aload_n 0, 1) := by decide +kernel
theorem dX11_lies_31 : decode cX11_lies 31 = .ok (.getfield 44, 3) := by decide +kernel
theorem dX11_lies_34 : decode cX11_lies 34 = .ok (.iload_n 2, 1) := by decide +kernel
theorem dX11_lies_35 : decode cX11_lies 35 = .ok (.iaload, 1) := by decide +kernel
theorem dX11_lies_36 : decode cX11_lies 36 = .ok (.aload_n 0, 1) := by decide +kernel
theorem dX11_lies_37 : decode cX11_lies 37 = .ok (.getfield 44, 3) := by decide +kernel
theorem dX11_lies_40 : decode cX11_lies 40 = .ok (.iload_n 3, 1) := by decide +kernel
theorem dX11_lies_41 : decode cX11_lies 41 = .ok (.iaload, 1) := by decide +kernel
theorem dX11_lies_42 : decode cX11_lies 42 = .ok (.invokestatic 198, 3) := by decide +kernel
theorem dX11_lies_45 : decode cX11_lies 45 = .ok (.ifCond .eq 7, 3) := by decide +kernel
theorem dX11_lies_48 : decode cX11_lies 48 = .ok (.iconst 1, 1) := by decide +kernel
theorem dX11_lies_49 : decode cX11_lies 49 = .ok (.goto 4, 3) := by decide +kernel
theorem dX11_lies_52 : decode cX11_lies 52 = .ok (.iconst 0, 1) := by decide +kernel
theorem dX11_lies_53 : decode cX11_lies 53 = .ok (.ireturn, 1) := by decide +kernel
theorem dX11_meet_0 : decode cX11_meet 0 = .ok (.iload_n 1, 1) := by decide +kernel
theorem dX11_meet_1 : decode cX11_meet 1 = .ok (.iconst 1, 1) := by decide +kernel
theorem dX11_meet_2 : decode cX11_meet 2 = .ok (.iadd, 1) := by decide +kernel
theorem dX11_meet_3 : decode cX11_meet 3 = .ok (.istore_n 3, 1) := by decide +kernel
theorem dX11_meet_4 : decode cX11_meet 4 = .ok (.iload_n 2, 1) := by decide +kernel
theorem dX11_meet_5 : decode cX11_meet 5 = .ok (.iconst 1, 1) := by decide +kernel
theorem dX11_meet_6 : decode cX11_meet 6 = .ok (.iadd, 1) := by decide +kernel
theorem dX11_meet_7 : decode cX11_meet 7 = .ok (.istore 4, 2) := by decide +kernel
theorem dX11_meet_9 : decode cX11_meet 9 = .ok (.aload_n 0, 1) := by decide +kernel
theorem dX11_meet_10 : decode cX11_meet 10 = .ok (.iload_n 1, 1) := by decide +kernel
theorem dX11_meet_11 : decode cX11_meet 11 = .ok (.iload_n 3, 1) := by decide +kernel
theorem dX11_meet_12 : decode cX11_meet 12 = .ok (.iload_n 2, 1) := by decide +kernel
theorem dX11_meet_13 : decode cX11_meet 13 = .ok (.invokevirtual 202, 3) := by decide +kernel
theorem dX11_meet_16 : decode cX11_meet 16 = .ok (.istore 5, 2) := by decide +kernel
theorem dX11_meet_18 : decode cX11_meet 18 = .ok (.aload_n 0, 1) := by decide +kernel
theorem dX11_meet_19 : decode cX11_meet 19 = .ok (.iload_n 1, 1) := by decide +kernel
theorem dX11_meet_20 : decode cX11_meet 20 = .ok (.iload_n 3, 1) := by decide +kernel
theorem dX11_meet_21 : decode cX11_meet 21 = .ok (.iload 4, 2) := by decide +kernel
theorem dX11_meet_23 : decode cX11_meet 23 = .ok (.invokevirtual 202, 3) := by decide +kernel
theorem dX11_meet_26 : decode cX11_meet 26 = .ok (.istore 6, 2) := by decide +kernel
theorem dX11_meet_28 : decode cX11_meet 28 = .ok (.aload_n 0, 1) := by decide +kernel
theorem dX11_meet_29 : decode cX11_meet 29 = .ok (.iload_n 2, 1) := by decide +kernel
theorem dX11_meet_30 : decode cX11_meet 30 = .ok (.iload 4, 2) := by decide +kernel
theorem dX11_meet_32 : decode cX11_meet 32 = .ok (.iload_n 1, 1) := by decide +kernel
theorem dX11_meet_33 : decode cX11_meet 33 = .ok (.invokevirtual 202, 3) := by decide +kernel
theorem dX11_meet_36 : decode cX11_meet 36 = .ok (.istore 7, 2) := by decide +kernel
theorem dX11_meet_38 : decode cX11_meet 38 = .ok (.aload_n 0, 1) := by decide +kernel
theorem dX11_meet_39 : decode cX11_meet 39 = .ok (.iload_n 2, 1) := by decide +kernel
theorem dX11_meet_40 : decode cX11_meet 40 = .ok (.iload 4, 2) := by decide +kernel
theorem dX11_meet_42 : decode cX11_meet 42 = .ok (.iload_n 3, 1) := by decide +kernel
theorem dX11_meet_43 : decode cX11_meet 43 = .ok (.invokevirtual 202, 3) := by decide +kernel
theorem dX11_meet_46 : decode cX11_meet 46 = .ok (.istore 8, 2) := by decide +kernel
theorem dX11_meet_48 : decode cX11_meet 48 = .ok (.iload 5, 2) := by decide +kernel
theorem dX11_meet_50 : decode cX11_meet 50 = .ok (.iload 6, 2) := by decide +kernel
theorem dX11_meet_52 : decode cX11_meet 52 = .ok (.if_icmp .eq 12, 3) := by decide +kernel
theorem dX11_meet_55 : decode cX11_meet 55 = .ok (.iload 7, 2) := by decide +kernel
theorem dX11_meet_57 : decode cX11_meet 57 = .ok (.iload 8, 2) := by decide +kernel
theorem dX11_meet_59 : decode cX11_meet 59 = .ok (.if_icmp .eq 5, 3) := by decide +kernel
theorem dX11_meet_62 : decode cX11_meet 62 = .ok (.iconst 1, 1) := by decide +kernel
theorem dX11_meet_63 : decode cX11_meet 63 = .ok (.ireturn, 1) := by decide +kernel
theorem dX11_meet_64 : decode cX11_meet 64 = .ok (.iload 5, 2) := by decide +kernel
theorem dX11_meet_66 : decode cX11_meet 66 = .ok (.ifCond .ne 13, 3) := by decide +kernel
theorem dX11_meet_69 : decode cX11_meet 69 = .ok (.aload_n 0, 1) := by decide +kernel
theorem dX11_meet_70 : decode cX11_meet 70 = .ok (.iload_n 2, 1) := by decide +kernel
theorem dX11_meet_71 : decode cX11_meet 71 = .ok (.iload_n 1, 1) := by decide +kernel
theorem dX11_meet_72 : decode cX11_meet 72 = .ok (.iload_n 3, 1) := by decide +kernel
theorem dX11_meet_73 : decode cX11_meet 73 = .ok (.invokevirtual 206, 3) := by decide +kernel
theorem dX11_meet_76 : decode cX11_meet 76 = .ok (.ifCond .ne 51, 3) := by decide +kernel
theorem dX11_meet_79 : decode cX11_meet 79 = .ok (.iload 6, 2) := by decide +kernel
theorem dX11_meet_81 : decode cX11_meet 81 = .ok (.ifCond .ne 14, 3) := by decide +kernel
theorem dX11_meet_84 : decode cX11_meet 84 = .ok (.aload_n 0, 1) := by decide +kernel
theorem dX11_meet_85 : decode cX11_meet 85 = .ok (.iload 4, 2) := by decide +kernel
theorem dX11_meet_87 : decode cX11_meet 87 = .ok (.iload_n 1, 1) := by decide +kernel
theorem dX11_meet_88 : decode cX11_meet 88 = .ok (.iload_n 3, 1) := by decide +kernel
theorem dX11_meet_89 : decode cX11_meet 89 = .ok (.invokevirtual 206, 3) := by decide +kernel
theorem dX11_meet_92 : decode cX11_meet 92 = .ok (.ifCond .ne 35, 3) := by decide +kernel
theorem dX11_meet_95 : decode cX11_meet 95 = .ok (.iload 7, 2) := by decide +kernel
theorem dX11_meet_97 : decode cX11_meet 97 = .ok (.ifCond .ne 14, 3) := by decide +kernel
theorem dX11_meet_100 : decode cX11_meet 100 = .ok (.aload_n 0, 1) := by decide +kernel
theorem dX11_meet_101 : decode cX11_meet 101 = .ok (.iload_n 1, 1) := by decide +kernel
theorem dX11_meet_102 : decode cX11_meet 102 = .ok (.iload_n 2, 1) := by decide +kernel
theorem dX11_meet_103 : decode cX11_meet 103 = .ok (.iload 4, 2) := by decide +kernel
theorem dX11_meet_105 : decode cX11_meet 105 = .ok (.invokevirtual 206, 3) := by decide +kernel
theorem dX11_meet_108 : decode cX11_meet 108 = .ok (.ifCond .ne 19, 3) := by decide +kernel
theorem dX11_meet_111 : decode cX11_meet 111 = .ok (.iload 8, 2) := by decide +kernel
theorem dX11_meet_113 : decode cX11_meet 113 = .ok (.ifCond .ne 18, 3) := by decide +kernel
theorem dX11_meet_116 : decode cX11_meet 116 = .ok (.aload_n 0, 1) := by decide +kernel
theorem dX11_meet_117 : decode cX11_meet 117 = .ok (.iload_n 3, 1) := by decide +kernel
theorem dX11_meet_118 : decode cX11_meet 118 = .ok (.iload_n 2, 1) := by decide +kernel
theorem dX11_meet_119 : decode cX11_meet 119 = .ok (.iload 4, 2) := by decide +kernel
theorem dX11_meet_121 : decode cX11_meet 121 = .ok (.invokevirtual 206, 3) := by decide +kernel
theorem dX11_meet_124 : decode cX11_meet 124 = .ok (.ifCond .eq 7, 3) := by decide +kernel
theorem dX11_meet_127 : decode cX11_meet 127 = .ok (.iconst 1, 1) := by decide +kernel
theorem dX11_meet_128 : decode cX11_meet 128 = .ok (.goto 4, 3) := by decide +kernel
theorem dX11_meet_131 : decode cX11_meet 131 = .ok (.iconst 0, 1) := by decide +kernel
theorem dX11_meet_132 : decode cX11_meet 132 = .ok (.ireturn, 1) := by decide +kernel
theorem dX11_loops_0 : decode cX11_loops 0 = .ok (.aload_n 0, 1) := by decide +kernel
theorem dX11_loops_1 : decode cX11_loops 1 = .ok (.iload_n 1, 1) := by decide +kernel
theorem dX11_loops_2 : decode cX11_loops 2 = .ok (.invokevirtual 142, 3) := by decide +kernel
theorem dX11_loops_5 : decode cX11_loops 5 = .ok (.ifCond .ne 5, 3) := by decide +kernel
theorem dX11_loops_8 : decode cX11_loops 8 = .ok (.iconst (-1), 1) := by decide +kernel
theorem dX11_loops_9 : decode cX11_loops 9 = .ok (.ireturn, 1) := by decide +kernel
theorem dX11_loops_10 : decode cX11_loops 10 = .ok (.iload_n 2, 1) := by decide +kernel
theorem dX11_loops_11 : decode cX11_loops 11 = .ok (.iload_n 3, 1) := by decide +kernel
theorem dX11_loops_12 : decode cX11_loops 12 = .ok (.invokestatic 173, 3) := by decide +kernel
theorem dX11_loops_15 : decode cX11_loops 15 = .ok (.ifCond .ne 6, 3) := by decide +kernel
theorem dX11_loops_18 : decode cX11_loops 18 = .ok (.bipush (-2), 2) := by decide +kernel
theorem dX11_loops_20 : decode cX11_loops 20 = .ok (.ireturn, 1) := by decide +kernel
theorem dX11_loops_21 : decode cX11_loops 21 = .ok (.aload_n 0, 1) := by decide +kernel
end
section
theorem dX11_loops_22 : decode cX11_loops 22 = .ok (.invokevirtual 124, 3) := by decide +kernel
theorem dX11_loops_25 : decode cX11_loops 25 = .ok (.aload_n 0, 1) := by decide +kernel
theorem dX11_loops_26 : decode cX11_loops 26 = .ok (.iload_n 1, 1) := by decide +kernel
theorem dX11_loops_27 : decode cX11_loops 27 = .ok (.iload_n 2, 1) := by decide +kernel
theorem dX11_loops_28 : decode cX11_loops 28 = .ok (.iload_n 3, 1) := by decide +kernel
theorem dX11_loops_29 : decode cX11_loops 29 = .ok (.invokevirtual 177, 3) := by decide +kernel
theorem dX11_loops_32 : decode cX11_loops 32 = .ok (.iconst 0, 1) := by decide +kernel
theorem dX11_loops_33 : decode cX11_loops 33 = .ok (.istore 4, 2) := by decide +kernel
theorem dX11_loops_35 : decode cX11_loops 35 = .ok (.iload 4, 2) := by decide +kernel
theorem dX11_loops_37 : decode cX11_loops 37 = .ok (.bipush 20, 2) := by decide +kernel
theorem dX11_loops_39 : decode cX11_loops 39 = .ok (.if_icmp .gt 37, 3) := by decide +kernel
theorem dX11_loops_42 : decode cX11_loops 42 = .ok (.aload_n 0, 1) := by decide +kernel
theorem dX11_loops_43 : decode cX11_loops 43 = .ok (.iload 4, 2) := by decide +kernel
theorem dX11_loops_45 : decode cX11_loops 45 = .ok (.invokevirtual 180, 3) := by decide +kernel
theorem dX11_loops_48 : decode cX11_loops 48 = .ok (.aload_n 0, 1) := by decide +kernel
theorem dX11_loops_49 : decode cX11_loops 49 = .ok (.getfield 41, 3) := by decide +kernel
theorem dX11_loops_52 : decode cX11_loops 52 = .ok (.iload 4, 2) := by decide +kernel
theorem dX11_loops_54 : decode cX11_loops 54 = .ok (.aload_n 0, 1) := by decide +kernel
theorem dX11_loops_55 : decode cX11_loops 55 = .ok (.getfield 75, 3) := by decide +kernel
theorem dX11_loops_58 : decode cX11_loops 58 = .ok (.iastore, 1) := by decide +kernel
theorem dX11_loops_59 : decode cX11_loops 59 = .ok (.aload_n 0, 1) := by decide +kernel
theorem dX11_loops_60 : decode cX11_loops 60 = .ok (.getfield 44, 3) := by decide +kernel
theorem dX11_loops_63 : decode cX11_loops 63 = .ok (.iload 4, 2) := by decide +kernel
theorem dX11_loops_65 : decode cX11_loops 65 = .ok (.aload_n 0, 1) := by decide +kernel
theorem dX11_loops_66 : decode cX11_loops 66 = .ok (.getfield 79, 3) := by decide +kernel
theorem dX11_loops_69 : decode cX11_loops 69 = .ok (.iastore, 1) := by decide +kernel
theorem dX11_loops_70 : decode cX11_loops 70 = .ok (.iinc 4 1, 3) := by decide +kernel
theorem dX11_loops_73 : decode cX11_loops 73 = .ok (.goto (-38), 3) := by decide +kernel
theorem dX11_loops_76 : decode cX11_loops 76 = .ok (.iconst 0, 1) := by decide +kernel
theorem dX11_loops_77 : decode cX11_loops 77 = .ok (.istore 4, 2) := by decide +kernel
theorem dX11_loops_79 : decode cX11_loops 79 = .ok (.iconst 0, 1) := by decide +kernel
theorem dX11_loops_80 : decode cX11_loops 80 = .ok (.istore 5, 2) := by decide +kernel
theorem dX11_loops_82 : decode cX11_loops 82 = .ok (.iload 5, 2) := by decide +kernel
theorem dX11_loops_84 : decode cX11_loops 84 = .ok (.bipush 20, 2) := by decide +kernel
theorem dX11_loops_86 : decode cX11_loops 86 = .ok (.if_icmp .ge 51, 3) := by decide +kernel
theorem dX11_loops_89 : decode cX11_loops 89 = .ok (.iload 5, 2) := by decide +kernel
theorem dX11_loops_91 : decode cX11_loops 91 = .ok (.iconst 2, 1) := by decide +kernel
theorem dX11_loops_92 : decode cX11_loops 92 = .ok (.iadd, 1) := by decide +kernel
theorem dX11_loops_93 : decode cX11_loops 93 = .ok (.istore 6, 2) := by decide +kernel
theorem dX11_loops_95 : decode cX11_loops 95 = .ok (.iload 6, 2) := by decide +kernel
theorem dX11_loops_97 : decode cX11_loops 97 = .ok (.bipush 20, 2) := by decide +kernel
theorem dX11_loops_99 : decode cX11_loops 99 = .ok (.if_icmp .ge 32, 3) := by decide +kernel
theorem dX11_loops_102 : decode cX11_loops 102 = .ok (.iload 4, 2) := by decide +kernel
theorem dX11_loops_104 : decode cX11_loops 104 = .ok (.ifCond .ne 14, 3) := by decide +kernel
theorem dX11_loops_107 : decode cX11_loops 107 = .ok (.aload_n 0, 1) := by decide +kernel
theorem dX11_loops_108 : decode cX11_loops 108 = .ok (.iload 5, 2) := by decide +kernel
theorem dX11_loops_110 : decode cX11_loops 110 = .ok (.iload 6, 2) := by decide +kernel
theorem dX11_loops_112 : decode cX11_loops 112 = .ok (.invokevirtual 209, 3) := by decide +kernel
theorem dX11_loops_115 : decode cX11_loops 115 = .ok (.ifCond .eq 7, 3) := by decide +kernel
theorem dX11_loops_118 : decode cX11_loops 118 = .ok (.iconst 1, 1) := by decide +kernel
theorem dX11_loops_119 : decode cX11_loops 119 = .ok (.goto 4, 3) := by decide +kernel
theorem dX11_loops_122 : decode cX11_loops 122 = .ok (.iconst 0, 1) := by decide +kernel
theorem dX11_loops_123 : decode cX11_loops 123 = .ok (.istore 4, 2) := by decide +kernel
theorem dX11_loops_125 : decode cX11_loops 125 = .ok (.iinc 6 1, 3) := by decide +kernel
theorem dX11_loops_128 : decode cX11_loops 128 = .ok (.goto (-33), 3) := by decide +kernel
theorem dX11_loops_131 : decode cX11_loops 131 = .ok (.iinc 5 1, 3) := by decide +kernel
theorem dX11_loops_134 : decode cX11_loops 134 = .ok (.goto (-52), 3) := by decide +kernel
theorem dX11_loops_137 : decode cX11_loops 137 = .ok (.iload 4, 2) := by decide +kernel
theorem dX11_loops_139 : decode cX11_loops 139 = .ok (.ifCond .eq 7, 3) := by decide +kernel
theorem dX11_loops_142 : decode cX11_loops 142 = .ok (.iconst 1, 1) := by decide +kernel
theorem dX11_loops_143 : decode cX11_loops 143 = .ok (.goto 4, 3) := by decide +kernel
theorem dX11_loops_146 : decode cX11_loops 146 = .ok (.iconst 0, 1) := by decide +kernel
theorem dX11_loops_147 : decode cX11_loops 147 = .ok (.ireturn, 1) := by decide +kernel
theorem dX11_beginRoll_0 : decode cX11_beginRoll 0 = .ok (.aload_n 0, 1) := by decide +kernel
theorem dX11_beginRoll_1 : decode cX11_beginRoll 1 = .ok (.invokevirtual 124, 3) := by decide +kernel
theorem dX11_beginRoll_4 : decode cX11_beginRoll 4 = .ok (.aload_n 0, 1) := by decide +kernel
theorem dX11_beginRoll_5 : decode cX11_beginRoll 5 = .ok (.iload_n 1, 1) := by decide +kernel
theorem dX11_beginRoll_6 : decode cX11_beginRoll 6 = .ok (.iload_n 2, 1) := by decide +kernel
theorem dX11_beginRoll_7 : decode cX11_beginRoll 7 = .ok (.aload_n 0, 1) := by decide +kernel
theorem dX11_beginRoll_8 : decode cX11_beginRoll 8 = .ok (.iconst 0, 1) := by decide +kernel
theorem dX11_beginRoll_9 : decode cX11_beginRoll 9 = .ok (.invokevirtual 139, 3) := by decide +kernel
theorem dX11_beginRoll_12 : decode cX11_beginRoll 12 = .ok (.invokevirtual 135, 3) := by decide +kernel
theorem dX11_beginRoll_15 : decode cX11_beginRoll 15 = .ok (.aload_n 0, 1) := by decide +kernel
theorem dX11_beginRoll_16 : decode cX11_beginRoll 16 = .ok (.aload_n 0, 1) := by decide +kernel
theorem dX11_beginRoll_17 : decode cX11_beginRoll 17 = .ok (.getfield 75, 3) := by decide +kernel
theorem dX11_beginRoll_20 : decode cX11_beginRoll 20 = .ok (.putfield 212, 3) := by decide +kernel
theorem dX11_beginRoll_23 : decode cX11_beginRoll 23 = .ok (.aload_n 0, 1) := by decide +kernel
theorem dX11_beginRoll_24 : decode cX11_beginRoll 24 = .ok (.aload_n 0, 1) := by decide +kernel
theorem dX11_beginRoll_25 : decode cX11_beginRoll 25 = .ok (.getfield 79, 3) := by decide +kernel
theorem dX11_beginRoll_28 : decode cX11_beginRoll 28 = .ok (.putfield 215, 3) := by decide +kernel
theorem dX11_beginRoll_31 : decode cX11_beginRoll 31 = .ok (.aload_n 0, 1) := by decide +kernel
theorem dX11_beginRoll_32 : decode cX11_beginRoll 32 = .ok (.iload_n 1, 1) := by decide +kernel
theorem dX11_beginRoll_33 : decode cX11_beginRoll 33 = .ok (.iload_n 2, 1) := by decide +kernel
theorem dX11_beginRoll_34 : decode cX11_beginRoll 34 = .ok (.aload_n 0, 1) := by decide +kernel
theorem dX11_beginRoll_35 : decode cX11_beginRoll 35 = .ok (.iconst 1, 1) := by decide +kernel
theorem dX11_beginRoll_36 : decode cX11_beginRoll 36 = .ok (.invokevirtual 139, 3) := by decide +kernel
theorem dX11_beginRoll_39 : decode cX11_beginRoll 39 = .ok (.invokevirtual 135, 3) := by decide +kernel
theorem dX11_beginRoll_42 : decode cX11_beginRoll 42 = .ok (.aload_n 0, 1) := by decide +kernel
theorem dX11_beginRoll_43 : decode cX11_beginRoll 43 = .ok (.aload_n 0, 1) := by decide +kernel
theorem dX11_beginRoll_44 : decode cX11_beginRoll 44 = .ok (.getfield 75, 3) := by decide +kernel
theorem dX11_beginRoll_47 : decode cX11_beginRoll 47 = .ok (.aload_n 0, 1) := by decide +kernel
theorem dX11_beginRoll_48 : decode cX11_beginRoll 48 = .ok (.getfield 212, 3) := by decide +kernel
theorem dX11_beginRoll_51 : decode cX11_beginRoll 51 = .ok (.isub, 1) := by decide +kernel
theorem dX11_beginRoll_52 : decode cX11_beginRoll 52 = .ok (.putfield 159, 3) := by decide +kernel
theorem dX11_beginRoll_55 : decode cX11_beginRoll 55 = .ok (.aload_n 0, 1) := by decide +kernel
theorem dX11_beginRoll_56 : decode cX11_beginRoll 56 = .ok (.aload_n 0, 1) := by decide +kernel
theorem dX11_beginRoll_57 : decode cX11_beginRoll 57 = .ok (.getfield 79, 3) := by decide +kernel
theorem dX11_beginRoll_60 : decode cX11_beginRoll 60 = .ok (.aload_n 0, 1) := by decide +kernel
theorem dX11_beginRoll_61 : decode cX11_beginRoll 61 = .ok (.getfield 215, 3) := by decide +kernel
theorem dX11_beginRoll_64 : decode cX11_beginRoll 64 = .ok (.isub, 1) := by decide +kernel
theorem dX11_beginRoll_65 : decode cX11_beginRoll 65 = .ok (.putfield 162, 3) := by decide +kernel
theorem dX11_beginRoll_68 : decode cX11_beginRoll 68 = .ok (.aload_n 0, 1) := by decide +kernel
theorem dX11_beginRoll_69 : decode cX11_beginRoll 69 = .ok (.iload_n 3, 1) := by decide +kernel
theorem dX11_beginRoll_70 : decode cX11_beginRoll 70 = .ok (.iconst 0, 1) := by decide +kernel
theorem dX11_beginRoll_71 : decode cX11_beginRoll 71 = .ok (.iload 4, 2) := by decide +kernel
theorem dX11_beginRoll_73 : decode cX11_beginRoll 73 = .ok (.invokevirtual 135, 3) := by decide +kernel
theorem dX11_beginRoll_76 : decode cX11_beginRoll 76 = .ok (.aload_n 0, 1) := by decide +kernel
theorem dX11_beginRoll_77 : decode cX11_beginRoll 77 = .ok (.dup, 1) := by decide +kernel
theorem dX11_beginRoll_78 : decode cX11_beginRoll 78 = .ok (.getfield 159, 3) := by decide +kernel
theorem dX11_beginRoll_81 : decode cX11_beginRoll 81 = .ok (.aload_n 0, 1) := by decide +kernel
theorem dX11_beginRoll_82 : decode cX11_beginRoll 82 = .ok (.getfield 75, 3) := by decide +kernel
theorem dX11_beginRoll_85 : decode cX11_beginRoll 85 = .ok (.iadd, 1) := by decide +kernel
theorem dX11_beginRoll_86 : decode cX11_beginRoll 86 = .ok (.putfield 159, 3) := by decide +kernel
theorem dX11_beginRoll_89 : decode cX11_beginRoll 89 = .ok (.aload_n 0, 1) := by decide +kernel
theorem dX11_beginRoll_90 : decode cX11_beginRoll 90 = .ok (.dup, 1) := by decide +kernel
theorem dX11_beginRoll_91 : decode cX11_beginRoll 91 = .ok (.getfield 162, 3) := by decide +kernel
theorem dX11_beginRoll_94 : decode cX11_beginRoll 94 = .ok (.aload_n 0, 1) := by decide +kernel
theorem dX11_beginRoll_95 : decode cX11_beginRoll 95 = .ok (.getfield 79, 3) := by decide +kernel
theorem dX11_beginRoll_98 : decode cX11_beginRoll 98 = .ok (.iadd, 1) := by decide +kernel
theorem dX11_beginRoll_99 : decode cX11_beginRoll 99 = .ok (.putfield 162, 3) := by decide +kernel
theorem dX11_beginRoll_102 : decode cX11_beginRoll 102 = .ok (.aload_n 0, 1) := by decide +kernel
theorem dX11_beginRoll_103 : decode cX11_beginRoll 103 = .ok (.iconst 0, 1) := by decide +kernel
theorem dX11_beginRoll_104 : decode cX11_beginRoll 104 = .ok (.putfield 218, 3) := by decide +kernel
theorem dX11_beginRoll_107 : decode cX11_beginRoll 107 = .ok (.return_, 1) := by decide +kernel
theorem dX11_roll_0 : decode cX11_roll 0 = .ok (.aload_n 0, 1) := by decide +kernel
theorem dX11_roll_1 : decode cX11_roll 1 = .ok (.aload_n 0, 1) := by decide +kernel
theorem dX11_roll_2 : decode cX11_roll 2 = .ok (.getfield 212, 3) := by decide +kernel
theorem dX11_roll_5 : decode cX11_roll 5 = .ok (.aload_n 0, 1) := by decide +kernel
theorem dX11_roll_6 : decode cX11_roll 6 = .ok (.getfield 215, 3) := by decide +kernel
theorem dX11_roll_9 : decode cX11_roll 9 = .ok (.bipush 24, 2) := by decide +kernel
theorem dX11_roll_11 : decode cX11_roll 11 = .ok (.aload_n 0, 1) := by decide +kernel
theorem dX11_roll_12 : decode cX11_roll 12 = .ok (.aload_n 0, 1) := by decide +kernel
theorem dX11_roll_13 : decode cX11_roll 13 = .ok (.getfield 218, 3) := by decide +kernel
theorem dX11_roll_16 : decode cX11_roll 16 = .ok (.invokevirtual 139, 3) := by decide +kernel
theorem dX11_roll_19 : decode cX11_roll 19 = .ok (.isub, 1) := by decide +kernel
theorem dX11_roll_20 : decode cX11_roll 20 = .ok (.bipush 24, 2) := by decide +kernel
theorem dX11_roll_22 : decode cX11_roll 22 = .ok (.irem, 1) := by decide +kernel
theorem dX11_roll_23 : decode cX11_roll 23 = .ok (.invokevirtual 135, 3) := by decide +kernel
theorem dX11_roll_26 : decode cX11_roll 26 = .ok (.aload_n 0, 1) := by decide +kernel
theorem dX11_roll_27 : decode cX11_roll 27 = .ok (.getfield 75, 3) := by decide +kernel
theorem dX11_roll_30 : decode cX11_roll 30 = .ok (.istore_n 1, 1) := by decide +kernel
theorem dX11_roll_31 : decode cX11_roll 31 = .ok (.aload_n 0, 1) := by decide +kernel
theorem dX11_roll_32 : decode cX11_roll 32 = .ok (.getfield 79, 3) := by decide +kernel
theorem dX11_roll_35 : decode cX11_roll 35 = .ok (.istore_n 2, 1) := by decide +kernel
theorem dX11_roll_36 : decode cX11_roll 36 = .ok (.aload_n 0, 1) := by decide +kernel
theorem dX11_roll_37 : decode cX11_roll 37 = .ok (.iload_n 1, 1) := by decide +kernel
theorem dX11_roll_38 : decode cX11_roll 38 = .ok (.iload_n 2, 1) := by decide +kernel
theorem dX11_roll_39 : decode cX11_roll 39 = .ok (.aload_n 0, 1) := by decide +kernel
theorem dX11_roll_40 : decode cX11_roll 40 = .ok (.aload_n 0, 1) := by decide +kernel
theorem dX11_roll_41 : decode cX11_roll 41 = .ok (.getfield 218, 3) := by decide +kernel
theorem dX11_roll_44 : decode cX11_roll 44 = .ok (.invokevirtual 139, 3) := by decide +kernel
theorem dX11_roll_47 : decode cX11_roll 47 = .ok (.invokevirtual 135, 3) := by decide +kernel
theorem dX11_roll_50 : decode cX11_roll 50 = .ok (.aload_n 0, 1) := by decide +kernel
theorem dX11_roll_51 : decode cX11_roll 51 = .ok (.getfield 75, 3) := by decide +kernel
theorem dX11_roll_54 : decode cX11_roll 54 = .ok (.istore_n 3, 1) := by decide +kernel
theorem dX11_roll_55 : decode cX11_roll 55 = .ok (.aload_n 0, 1) := by decide +kernel
theorem dX11_roll_56 : decode cX11_roll 56 = .ok (.getfield 79, 3) := by decide +kernel
theorem dX11_roll_59 : decode cX11_roll 59 = .ok (.istore 4, 2) := by decide +kernel
theorem dX11_roll_61 : decode cX11_roll 61 = .ok (.aload_n 0, 1) := by decide +kernel
theorem dX11_roll_62 : decode cX11_roll 62 = .ok (.iload_n 1, 1) := by decide +kernel
theorem dX11_roll_63 : decode cX11_roll 63 = .ok (.iload_n 2, 1) := by decide +kernel
theorem dX11_roll_64 : decode cX11_roll 64 = .ok (.aload_n 0, 1) := by decide +kernel
theorem dX11_roll_65 : decode cX11_roll 65 = .ok (.aload_n 0, 1) := by decide +kernel
theorem dX11_roll_66 : decode cX11_roll 66 = .ok (.getfield 218, 3) := by decide +kernel
theorem dX11_roll_69 : decode cX11_roll 69 = .ok (.iconst 1, 1) := by decide +kernel
theorem dX11_roll_70 : decode cX11_roll 70 = .ok (.iadd, 1) := by decide +kernel
theorem dX11_roll_71 : decode cX11_roll 71 = .ok (.invokevirtual 139, 3) := by decide +kernel
theorem dX11_roll_74 : decode cX11_roll 74 = .ok (.invokevirtual 135, 3) := by decide +kernel
theorem dX11_roll_77 : decode cX11_roll 77 = .ok (.aload_n 0, 1) := by decide +kernel
theorem dX11_roll_78 : decode cX11_roll 78 = .ok (.dup, 1) := by decide +kernel
theorem dX11_roll_79 : decode cX11_roll 79 = .ok (.getfield 159, 3) := by decide +kernel
theorem dX11_roll_82 : decode cX11_roll 82 = .ok (.aload_n 0, 1) := by decide +kernel
theorem dX11_roll_83 : decode cX11_roll 83 = .ok (.getfield 75, 3) := by decide +kernel
theorem dX11_roll_86 : decode cX11_roll 86 = .ok (.iload_n 3, 1) := by decide +kernel
theorem dX11_roll_87 : decode cX11_roll 87 = .ok (.isub, 1) := by decide +kernel
theorem dX11_roll_88 : decode cX11_roll 88 = .ok (.aload_n 0, 1) := by decide +kernel
theorem dX11_roll_89 : decode cX11_roll 89 = .ok (.getfield 159, 3) := by decide +kernel
theorem dX11_roll_92 : decode cX11_roll 92 = .ok (.isub, 1) := by decide +kernel
theorem dX11_roll_93 : decode cX11_roll 93 = .ok (.aload_n 0, 1) := by decide +kernel
theorem dX11_roll_94 : decode cX11_roll 94 = .ok (.getfield 13, 3) := by decide +kernel
theorem dX11_roll_97 : decode cX11_roll 97 = .ok (.iconst 3, 1) := by decide +kernel
theorem dX11_roll_98 : decode cX11_roll 98 = .ok (.iaload, 1) := by decide +kernel
theorem dX11_roll_99 : decode cX11_roll 99 = .ok (.imul, 1) := by decide +kernel
theorem dX11_roll_100 : decode cX11_roll 100 = .ok (.bipush 100, 2) := by decide +kernel
theorem dX11_roll_102 : decode cX11_roll 102 = .ok (.idiv, 1) := by decide +kernel
theorem dX11_roll_103 : decode cX11_roll 103 = .ok (.iadd, 1) := by decide +kernel
theorem dX11_roll_104 : decode cX11_roll 104 = .ok (.putfield 159, 3) := by decide +kernel
theorem dX11_roll_107 : decode cX11_roll 107 = .ok (.aload_n 0, 1) := by decide +kernel
theorem dX11_roll_108 : decode cX11_roll 108 = .ok (.dup, 1) := by decide +kernel
theorem dX11_roll_109 : decode cX11_roll 109 = .ok (.getfield 162, 3) := by decide +kernel
theorem dX11_roll_112 : decode cX11_roll 112 = .ok (.aload_n 0, 1) := by decide +kernel
theorem dX11_roll_113 : decode cX11_roll 113 = .ok (.getfield 79, 3) := by decide +kernel
theorem dX11_roll_116 : decode cX11_roll 116 = .ok (.iload 4, 2) := by decide +kernel
theorem dX11_roll_118 : decode cX11_roll 118 = .ok (.isub, 1) := by decide +kernel
theorem dX11_roll_119 : decode cX11_roll 119 = .ok (.aload_n 0, 1) := by decide +kernel
theorem dX11_roll_120 : decode cX11_roll 120 = .ok (.getfield 162, 3) := by decide +kernel
theorem dX11_roll_123 : decode cX11_roll 123 = .ok (.isub, 1) := by decide +kernel
theorem dX11_roll_124 : decode cX11_roll 124 = .ok (.aload_n 0, 1) := by decide +kernel
theorem dX11_roll_125 : decode cX11_roll 125 = .ok (.getfield 13, 3) := by decide +kernel
theorem dX11_roll_128 : decode cX11_roll 128 = .ok (.iconst 3, 1) := by decide +kernel
theorem dX11_roll_129 : decode cX11_roll 129 = .ok (.iaload, 1) := by decide +kernel
theorem dX11_roll_130 : decode cX11_roll 130 = .ok (.imul, 1) := by decide +kernel
theorem dX11_roll_131 : decode cX11_roll 131 = .ok (.bipush 100, 2) := by decide +kernel
theorem dX11_roll_133 : decode cX11_roll 133 = .ok (.idiv, 1) := by decide +kernel
theorem dX11_roll_134 : decode cX11_roll 134 = .ok (.iadd, 1) := by decide +kernel
theorem dX11_roll_135 : decode cX11_roll 135 = .ok (.putfield 162, 3) := by decide +kernel
theorem dX11_roll_138 : decode cX11_roll 138 = .ok (.aload_n 0, 1) := by decide +kernel
theorem dX11_roll_139 : decode cX11_roll 139 = .ok (.dup, 1) := by decide +kernel
theorem dX11_roll_140 : decode cX11_roll 140 = .ok (.getfield 212, 3) := by decide +kernel
theorem dX11_roll_143 : decode cX11_roll 143 = .ok (.aload_n 0, 1) := by decide +kernel
theorem dX11_roll_144 : decode cX11_roll 144 = .ok (.getfield 159, 3) := by decide +kernel
theorem dX11_roll_147 : decode cX11_roll 147 = .ok (.iadd, 1) := by decide +kernel
theorem dX11_roll_148 : decode cX11_roll 148 = .ok (.putfield 212, 3) := by decide +kernel
theorem dX11_roll_151 : decode cX11_roll 151 = .ok (.aload_n 0, 1) := by decide +kernel
theorem dX11_roll_152 : decode cX11_roll 152 = .ok (.dup, 1) := by decide +kernel
theorem dX11_roll_153 : decode cX11_roll 153 = .ok (.getfield 215, 3) := by decide +kernel
theorem dX11_roll_156 : decode cX11_roll 156 = .ok (.aload_n 0, 1) := by decide +kernel
theorem dX11_roll_157 : decode cX11_roll 157 = .ok (.getfield 162, 3) := by decide +kernel
theorem dX11_roll_160 : decode cX11_roll 160 = .ok (.iadd, 1) := by decide +kernel
theorem dX11_roll_161 : decode cX11_roll 161 = .ok (.putfield 215, 3) := by decide +kernel
theorem dX11_roll_164 : decode cX11_roll 164 = .ok (.aload_n 0, 1) := by decide +kernel
theorem dX11_roll_165 : decode cX11_roll 165 = .ok (.dup, 1) := by decide +kernel
theorem dX11_roll_166 : decode cX11_roll 166 = .ok (.getfield 218, 3) := by decide +kernel
theorem dX11_roll_169 : decode cX11_roll 169 = .ok (.iconst 1, 1) := by decide +kernel
theorem dX11_roll_170 : decode cX11_roll 170 = .ok (.iadd, 1) := by decide +kernel
theorem dX11_roll_171 : decode cX11_roll 171 = .ok (.putfield 218, 3) := by decide +kernel
theorem dX11_roll_174 : decode cX11_roll 174 = .ok (.return_, 1) := by decide +kernel
theorem dX11_isPlace_0 : decode cX11_isPlace 0 = .ok (.iload_n 0, 1) := by decide +kernel
theorem dX11_isPlace_1 : decode cX11_isPlace 1 = .ok (.i2l, 1) := by decide +kernel
theorem dX11_isPlace_2 : decode cX11_isPlace 2 = .ok (.iload_n 2, 1) := by decide +kernel
theorem dX11_isPlace_3 : decode cX11_isPlace 3 = .ok (.ineg, 1) := by decide +kernel
theorem dX11_isPlace_4 : decode cX11_isPlace 4 = .ok (.i2l, 1) := by decide +kernel
theorem dX11_isPlace_5 : decode cX11_isPlace 5 = .ok (.iload_n 2, 1) := by decide +kernel
theorem dX11_isPlace_6 : decode cX11_isPlace 6 = .ok (.i2l, 1) := by decide +kernel
theorem dX11_isPlace_7 : decode cX11_isPlace 7 = .ok (.invokestatic 67, 3) := by decide +kernel
theorem dX11_isPlace_10 : decode cX11_isPlace 10 = .ok (.ifCond .eq 20, 3) := by decide +kernel
theorem dX11_isPlace_13 : decode cX11_isPlace 13 = .ok (.iload_n 1, 1) := by decide +kernel
theorem dX11_isPlace_14 : decode cX11_isPlace 14 = .ok (.i2l, 1) := by decide +kernel
theorem dX11_isPlace_15 : decode cX11_isPlace 15 = .ok (.iload_n 2, 1) := by decide +kernel
theorem dX11_isPlace_16 : decode cX11_isPlace 16 = .ok (.ineg, 1) := by decide +kernel
theorem dX11_isPlace_17 : decode cX11_isPlace 17 = .ok (.i2l, 1) := by decide +kernel
theorem dX11_isPlace_18 : decode cX11_isPlace 18 = .ok (.iload_n 2, 1) := by decide +kernel
theorem dX11_isPlace_19 : decode cX11_isPlace 19 = .ok (.i2l, 1) := by decide +kernel
theorem dX11_isPlace_20 : decode cX11_isPlace 20 = .ok (.invokestatic 67, 3) := by decide +kernel
theorem dX11_isPlace_23 : decode cX11_isPlace 23 = .ok (.ifCond .eq 7, 3) := by decide +kernel
theorem dX11_isPlace_26 : decode cX11_isPlace 26 = .ok (.iconst 1, 1) := by decide +kernel
theorem dX11_isPlace_27 : decode cX11_isPlace 27 = .ok (.goto 4, 3) := by decide +kernel
theorem dX11_isPlace_30 : decode cX11_isPlace 30 = .ok (.iconst 0, 1) := by decide +kernel
theorem dX11_isPlace_31 : decode cX11_isPlace 31 = .ok (.ireturn, 1) := by decide +kernel
theorem dX11_rolled_0 : decode cX11_rolled 0 = .ok (.iload_n 1, 1) := by decide +kernel
theorem dX11_rolled_1 : decode cX11_rolled 1 = .ok (.iload_n 2, 1) := by decide +kernel
theorem dX11_rolled_2 : decode cX11_rolled 2 = .ok (.sipush 1000, 3) := by decide +kernel
theorem dX11_rolled_5 : decode cX11_rolled 5 = .ok (.invokestatic 221, 3) := by decide +kernel
theorem dX11_rolled_8 : decode cX11_rolled 8 = .ok (.ifCond .eq 28, 3) := by decide +kernel
theorem dX11_rolled_11 : decode cX11_rolled 11 = .ok (.iload_n 3, 1) := by decide +kernel
theorem dX11_rolled_12 : decode cX11_rolled 12 = .ok (.iload 4, 2) := by decide +kernel
theorem dX11_rolled_14 : decode cX11_rolled 14 = .ok (.invokestatic 173, 3) := by decide +kernel
theorem dX11_rolled_17 : decode cX11_rolled 17 = .ok (.ifCond .eq 19, 3) := by decide +kernel
theorem dX11_rolled_20 : decode cX11_rolled 20 = .ok (.iload 5, 2) := by decide +kernel
theorem dX11_rolled_22 : decode cX11_rolled 22 = .ok (.invokestatic 118, 3) := by decide +kernel
theorem dX11_rolled_25 : decode cX11_rolled 25 = .ok (.ifCond .eq 11, 3) := by decide +kernel
theorem dX11_rolled_28 : decode cX11_rolled 28 = .ok (.iload 6, 2) := by decide +kernel
theorem dX11_rolled_30 : decode cX11_rolled 30 = .ok (.invokestatic 121, 3) := by decide +kernel
theorem dX11_rolled_33 : decode cX11_rolled 33 = .ok (.ifCond .ne 6, 3) := by decide +kernel
theorem dX11_rolled_36 : decode cX11_rolled 36 = .ok (.ldc 148, 2) := by decide +kernel
theorem dX11_rolled_38 : decode cX11_rolled 38 = .ok (.ireturn, 1) := by decide +kernel
theorem dX11_rolled_39 : decode cX11_rolled 39 = .ok (.aload_n 0, 1) := by decide +kernel
theorem dX11_rolled_40 : decode cX11_rolled 40 = .ok (.iload_n 1, 1) := by decide +kernel
theorem dX11_rolled_41 : decode cX11_rolled 41 = .ok (.iload_n 2, 1) := by decide +kernel
theorem dX11_rolled_42 : decode cX11_rolled 42 = .ok (.iload_n 3, 1) := by decide +kernel
theorem dX11_rolled_43 : decode cX11_rolled 43 = .ok (.iload 4, 2) := by decide +kernel
theorem dX11_rolled_45 : decode cX11_rolled 45 = .ok (.invokevirtual 224, 3) := by decide +kernel
theorem dX11_rolled_48 : decode cX11_rolled 48 = .ok (.aload_n 0, 1) := by decide +kernel
theorem dX11_rolled_49 : decode cX11_rolled 49 = .ok (.getfield 218, 3) := by decide +kernel
theorem dX11_rolled_52 : decode cX11_rolled 52 = .ok (.iload 5, 2) := by decide +kernel
theorem dX11_rolled_54 : decode cX11_rolled 54 = .ok (.if_icmp .ge 10, 3) := by decide +kernel
theorem dX11_rolled_57 : decode cX11_rolled 57 = .ok (.aload_n 0, 1) := by decide +kernel
theorem dX11_rolled_58 : decode cX11_rolled 58 = .ok (.invokevirtual 228, 3) := by decide +kernel
theorem dX11_rolled_61 : decode cX11_rolled 61 = .ok (.goto (-13), 3) := by decide +kernel
theorem dX11_rolled_64 : decode cX11_rolled 64 = .ok (.iload 6, 2) := by decide +kernel
theorem dX11_rolled_66 : decode cX11_rolled 66 = .ok (.ifCond .ne 10, 3) := by decide +kernel
theorem dX11_rolled_69 : decode cX11_rolled 69 = .ok (.aload_n 0, 1) := by decide +kernel
theorem dX11_rolled_70 : decode cX11_rolled 70 = .ok (.getfield 212, 3) := by decide +kernel
theorem dX11_rolled_73 : decode cX11_rolled 73 = .ok (.goto 7, 3) := by decide +kernel
theorem dX11_rolled_76 : decode cX11_rolled 76 = .ok (.aload_n 0, 1) := by decide +kernel
theorem dX11_rolled_77 : decode cX11_rolled 77 = .ok (.getfield 215, 3) := by decide +kernel
theorem dX11_rolled_80 : decode cX11_rolled 80 = .ok (.ireturn, 1) := by decide +kernel
theorem dX11_isOff_0 : decode cX11_isOff 0 = .ok (.aload_n 0, 1) := by decide +kernel
theorem dX11_isOff_1 : decode cX11_isOff 1 = .ok (.getfield 212, 3) := by decide +kernel
theorem dX11_isOff_4 : decode cX11_isOff 4 = .ok (.i2l, 1) := by decide +kernel
theorem dX11_isOff_5 : decode cX11_isOff 5 = .ok (.aload_n 0, 1) := by decide +kernel
theorem dX11_isOff_6 : decode cX11_isOff 6 = .ok (.getfield 212, 3) := by decide +kernel
theorem dX11_isOff_9 : decode cX11_isOff 9 = .ok (.i2l, 1) := by decide +kernel
theorem dX11_isOff_10 : decode cX11_isOff 10 = .ok (.lmul, 1) := by decide +kernel
theorem dX11_isOff_11 : decode cX11_isOff 11 = .ok (.aload_n 0, 1) := by decide +kernel
theorem dX11_isOff_12 : decode cX11_isOff 12 = .ok (.getfield 215, 3) := by decide +kernel
theorem dX11_isOff_15 : decode cX11_isOff 15 = .ok (.i2l, 1) := by decide +kernel
theorem dX11_isOff_16 : decode cX11_isOff 16 = .ok (.aload_n 0, 1) := by decide +kernel
theorem dX11_isOff_17 : decode cX11_isOff 17 = .ok (.getfield 215, 3) := by decide +kernel
theorem dX11_isOff_20 : decode cX11_isOff 20 = .ok (.i2l, 1) := by decide +kernel
theorem dX11_isOff_21 : decode cX11_isOff 21 = .ok (.lmul, 1) := by decide +kernel
theorem dX11_isOff_22 : decode cX11_isOff 22 = .ok (.ladd, 1) := by decide +kernel
theorem dX11_isOff_23 : decode cX11_isOff 23 = .ok (.aload_n 0, 1) := by decide +kernel
theorem dX11_isOff_24 : decode cX11_isOff 24 = .ok (.getfield 13, 3) := by decide +kernel
theorem dX11_isOff_27 : decode cX11_isOff 27 = .ok (.iconst 4, 1) := by decide +kernel
theorem dX11_isOff_28 : decode cX11_isOff 28 = .ok (.iaload, 1) := by decide +kernel
theorem dX11_isOff_29 : decode cX11_isOff 29 = .ok (.aload_n 0, 1) := by decide +kernel
theorem dX11_isOff_30 : decode cX11_isOff 30 = .ok (.getfield 13, 3) := by decide +kernel
theorem dX11_isOff_33 : decode cX11_isOff 33 = .ok (.iconst 4, 1) := by decide +kernel
theorem dX11_isOff_34 : decode cX11_isOff 34 = .ok (.iaload, 1) := by decide +kernel
theorem dX11_isOff_35 : decode cX11_isOff 35 = .ok (.imul, 1) := by decide +kernel
theorem dX11_isOff_36 : decode cX11_isOff 36 = .ok (.i2l, 1) := by decide +kernel
theorem dX11_isOff_37 : decode cX11_isOff 37 = .ok (.lcmp, 1) := by decide +kernel
theorem dX11_isOff_38 : decode cX11_isOff 38 = .ok (.ifCond .le 7, 3) := by decide +kernel
theorem dX11_isOff_41 : decode cX11_isOff 41 = .ok (.iconst 1, 1) := by decide +kernel
theorem dX11_isOff_42 : decode cX11_isOff 42 = .ok (.goto 4, 3) := by decide +kernel
theorem dX11_isOff_45 : decode cX11_isOff 45 = .ok (.iconst 0, 1) := by decide +kernel
theorem dX11_isOff_46 : decode cX11_isOff 46 = .ok (.ireturn, 1) := by decide +kernel
theorem dX11_off_0 : decode cX11_off 0 = .ok (.iload_n 1, 1) := by decide +kernel
theorem dX11_off_1 : decode cX11_off 1 = .ok (.iload_n 2, 1) := by decide +kernel
theorem dX11_off_2 : decode cX11_off 2 = .ok (.sipush 1000, 3) := by decide +kernel
theorem dX11_off_5 : decode cX11_off 5 = .ok (.invokestatic 221, 3) := by decide +kernel
theorem dX11_off_8 : decode cX11_off 8 = .ok (.ifCond .eq 12, 3) := by decide +kernel
theorem dX11_off_11 : decode cX11_off 11 = .ok (.iload_n 3, 1) := by decide +kernel
theorem dX11_off_12 : decode cX11_off 12 = .ok (.iload 4, 2) := by decide +kernel
theorem dX11_off_14 : decode cX11_off 14 = .ok (.invokestatic 173, 3) := by decide +kernel
theorem dX11_off_17 : decode cX11_off 17 = .ok (.ifCond .ne 6, 3) := by decide +kernel
theorem dX11_off_20 : decode cX11_off 20 = .ok (.bipush (-2), 2) := by decide +kernel
theorem dX11_off_22 : decode cX11_off 22 = .ok (.ireturn, 1) := by decide +kernel
theorem dX11_off_23 : decode cX11_off 23 = .ok (.aload_n 0, 1) := by decide +kernel
theorem dX11_off_24 : decode cX11_off 24 = .ok (.iload_n 1, 1) := by decide +kernel
theorem dX11_off_25 : decode cX11_off 25 = .ok (.iload_n 2, 1) := by decide +kernel
theorem dX11_off_26 : decode cX11_off 26 = .ok (.iload_n 3, 1) := by decide +kernel
theorem dX11_off_27 : decode cX11_off 27 = .ok (.iload 4, 2) := by decide +kernel
theorem dX11_off_29 : decode cX11_off 29 = .ok (.invokevirtual 224, 3) := by decide +kernel
theorem dX11_off_32 : decode cX11_off 32 = .ok (.aload_n 0, 1) := by decide +kernel
theorem dX11_off_33 : decode cX11_off 33 = .ok (.invokevirtual 231, 3) := by decide +kernel
theorem dX11_off_36 : decode cX11_off 36 = .ok (.ifCond .ne 19, 3) := by decide +kernel
theorem dX11_off_39 : decode cX11_off 39 = .ok (.aload_n 0, 1) := by decide +kernel
theorem dX11_off_40 : decode cX11_off 40 = .ok (.getfield 218, 3) := by decide +kernel
theorem dX11_off_43 : decode cX11_off 43 = .ok (.bipush 60, 2) := by decide +kernel
theorem dX11_off_45 : decode cX11_off 45 = .ok (.if_icmp .ge 10, 3) := by decide +kernel
theorem dX11_off_48 : decode cX11_off 48 = .ok (.aload_n 0, 1) := by decide +kernel
theorem dX11_off_49 : decode cX11_off 49 = .ok (.invokevirtual 228, 3) := by decide +kernel
theorem dX11_off_52 : decode cX11_off 52 = .ok (.goto (-20), 3) := by decide +kernel
theorem dX11_off_55 : decode cX11_off 55 = .ok (.aload_n 0, 1) := by decide +kernel
theorem dX11_off_56 : decode cX11_off 56 = .ok (.invokevirtual 231, 3) := by decide +kernel
theorem dX11_off_59 : decode cX11_off 59 = .ok (.ifCond .eq 10, 3) := by decide +kernel
theorem dX11_off_62 : decode cX11_off 62 = .ok (.aload_n 0, 1) := by decide +kernel
theorem dX11_off_63 : decode cX11_off 63 = .ok (.getfield 218, 3) := by decide +kernel
theorem dX11_off_66 : decode cX11_off 66 = .ok (.goto 5, 3) := by decide +kernel
theorem dX11_off_69 : decode cX11_off 69 = .ok (.bipush (-6), 2) := by decide +kernel
theorem dX11_off_71 : decode cX11_off 71 = .ok (.ireturn, 1) := by decide +kernel
theorem dX11_leansOf_0 : decode cX11_leansOf 0 = .ok (.iload_n 1, 1) := by decide +kernel
theorem dX11_leansOf_1 : decode cX11_leansOf 1 = .ok (.aload_n 0, 1) := by decide +kernel
theorem dX11_leansOf_2 : decode cX11_leansOf 2 = .ok (.getfield 13, 3) := by decide +kernel
theorem dX11_leansOf_5 : decode cX11_leansOf 5 = .ok (.iconst 0, 1) := by decide +kernel
theorem dX11_leansOf_6 : decode cX11_leansOf 6 = .ok (.iaload, 1) := by decide +kernel
theorem dX11_leansOf_7 : decode cX11_leansOf 7 = .ok (.imul, 1) := by decide +kernel
theorem dX11_leansOf_8 : decode cX11_leansOf 8 = .ok (.aload_n 0, 1) := by decide +kernel
theorem dX11_leansOf_9 : decode cX11_leansOf 9 = .ok (.getfield 13, 3) := by decide +kernel
theorem dX11_leansOf_12 : decode cX11_leansOf 12 = .ok (.iconst 0, 1) := by decide +kernel
theorem dX11_leansOf_13 : decode cX11_leansOf 13 = .ok (.iaload, 1) := by decide +kernel
theorem dX11_leansOf_14 : decode cX11_leansOf 14 = .ok (.imul, 1) := by decide +kernel
theorem dX11_leansOf_15 : decode cX11_leansOf 15 = .ok (.sipush 1000, 3) := by decide +kernel
theorem dX11_leansOf_18 : decode cX11_leansOf 18 = .ok (.idiv, 1) := by decide +kernel
theorem dX11_leansOf_19 : decode cX11_leansOf 19 = .ok (.ireturn, 1) := by decide +kernel
theorem dX11_leans_0 : decode cX11_leans 0 = .ok (.iload_n 1, 1) := by decide +kernel
theorem dX11_leans_1 : decode cX11_leans 1 = .ok (.i2l, 1) := by decide +kernel
theorem dX11_leans_2 : decode cX11_leans 2 = .ok (.lconst 0, 1) := by decide +kernel
theorem dX11_leans_3 : decode cX11_leans 3 = .ok (.ldc2_w 127, 3) := by decide +kernel
theorem dX11_leans_6 : decode cX11_leans 6 = .ok (.invokestatic 67, 3) := by decide +kernel
theorem dX11_leans_9 : decode cX11_leans 9 = .ok (.ifCond .eq 11, 3) := by decide +kernel
theorem dX11_leans_12 : decode cX11_leans 12 = .ok (.aload_n 0, 1) := by decide +kernel
theorem dX11_leans_13 : decode cX11_leans 13 = .ok (.iload_n 1, 1) := by decide +kernel
theorem dX11_leans_14 : decode cX11_leans 14 = .ok (.invokevirtual 235, 3) := by decide +kernel
theorem dX11_leans_17 : decode cX11_leans 17 = .ok (.goto 5, 3) := by decide +kernel
theorem dX11_leans_20 : decode cX11_leans 20 = .ok (.bipush (-2), 2) := by decide +kernel
theorem dX11_leans_22 : decode cX11_leans 22 = .ok (.ireturn, 1) := by decide +kernel
theorem dX11_stays_0 : decode cX11_stays 0 = .ok (.iload_n 1, 1) := by decide +kernel
theorem dX11_stays_1 : decode cX11_stays 1 = .ok (.i2l, 1) := by decide +kernel
theorem dX11_stays_2 : decode cX11_stays 2 = .ok (.lconst 0, 1) := by decide +kernel
theorem dX11_stays_3 : decode cX11_stays 3 = .ok (.ldc2_w 238, 3) := by decide +kernel
theorem dX11_stays_6 : decode cX11_stays 6 = .ok (.invokestatic 67, 3) := by decide +kernel
theorem dX11_stays_9 : decode cX11_stays 9 = .ok (.ifCond .ne 6, 3) := by decide +kernel
theorem dX11_stays_12 : decode cX11_stays 12 = .ok (.bipush (-2), 2) := by decide +kernel
theorem dX11_stays_14 : decode cX11_stays 14 = .ok (.ireturn, 1) := by decide +kernel
theorem dX11_stays_15 : decode cX11_stays 15 = .ok (.sipush 1000, 3) := by decide +kernel
theorem dX11_stays_18 : decode cX11_stays 18 = .ok (.istore_n 2, 1) := by decide +kernel
theorem dX11_stays_19 : decode cX11_stays 19 = .ok (.aload_n 0, 1) := by decide +kernel
theorem dX11_stays_20 : decode cX11_stays 20 = .ok (.iload_n 2, 1) := by decide +kernel
theorem dX11_stays_21 : decode cX11_stays 21 = .ok (.invokevirtual 235, 3) := by decide +kernel
theorem dX11_stays_24 : decode cX11_stays 24 = .ok (.iload_n 1, 1) := by decide +kernel
theorem dX11_stays_25 : decode cX11_stays 25 = .ok (.if_icmp .le 9, 3) := by decide +kernel
theorem dX11_stays_28 : decode cX11_stays 28 = .ok (.iinc 2 (-1), 3) := by decide +kernel
theorem dX11_stays_31 : decode cX11_stays 31 = .ok (.goto (-12), 3) := by decide +kernel
theorem dX11_stays_34 : decode cX11_stays 34 = .ok (.iload_n 2, 1) := by decide +kernel
theorem dX11_stays_35 : decode cX11_stays 35 = .ok (.ireturn, 1) := by decide +kernel
theorem dX11_hut_0 : decode cX11_hut 0 = .ok (.iload_n 1, 1) := by decide +kernel
theorem dX11_hut_1 : decode cX11_hut 1 = .ok (.i2l, 1) := by decide +kernel
theorem dX11_hut_2 : decode cX11_hut 2 = .ok (.lconst 1, 1) := by decide +kernel
theorem dX11_hut_3 : decode cX11_hut 3 = .ok (.ldc2_w 127, 3) := by decide +kernel
theorem dX11_hut_6 : decode cX11_hut 6 = .ok (.invokestatic 67, 3) := by decide +kernel
theorem dX11_hut_9 : decode cX11_hut 9 = .ok (.ifCond .eq 27, 3) := by decide +kernel
theorem dX11_hut_12 : decode cX11_hut 12 = .ok (.iload_n 2, 1) := by decide +kernel
theorem dX11_hut_13 : decode cX11_hut 13 = .ok (.i2l, 1) := by decide +kernel
theorem dX11_hut_14 : decode cX11_hut 14 = .ok (.lconst 1, 1) := by decide +kernel
theorem dX11_hut_15 : decode cX11_hut 15 = .ok (.ldc2_w 171, 3) := by decide +kernel
theorem dX11_hut_18 : decode cX11_hut 18 = .ok (.invokestatic 67, 3) := by decide +kernel
theorem dX11_hut_21 : decode cX11_hut 21 = .ok (.ifCond .eq 15, 3) := by decide +kernel
theorem dX11_hut_24 : decode cX11_hut 24 = .ok (.iload_n 3, 1) := by decide +kernel
theorem dX11_hut_25 : decode cX11_hut 25 = .ok (.i2l, 1) := by decide +kernel
theorem dX11_hut_26 : decode cX11_hut 26 = .ok (.lconst 0, 1) := by decide +kernel
theorem dX11_hut_27 : decode cX11_hut 27 = .ok (.ldc2_w 238, 3) := by decide +kernel
theorem dX11_hut_30 : decode cX11_hut 30 = .ok (.invokestatic 67, 3) := by decide +kernel
theorem dX11_hut_33 : decode cX11_hut 33 = .ok (.ifCond .ne 6, 3) := by decide +kernel
theorem dX11_hut_36 : decode cX11_hut 36 = .ok (.bipush (-2), 2) := by decide +kernel
theorem dX11_hut_38 : decode cX11_hut 38 = .ok (.ireturn, 1) := by decide +kernel
theorem dX11_hut_39 : decode cX11_hut 39 = .ok (.iload_n 1, 1) := by decide +kernel
theorem dX11_hut_40 : decode cX11_hut 40 = .ok (.iload_n 2, 1) := by decide +kernel
theorem dX11_hut_41 : decode cX11_hut 41 = .ok (.iadd, 1) := by decide +kernel
theorem dX11_hut_42 : decode cX11_hut 42 = .ok (.iconst 1, 1) := by decide +kernel
theorem dX11_hut_43 : decode cX11_hut 43 = .ok (.isub, 1) := by decide +kernel
theorem dX11_hut_44 : decode cX11_hut 44 = .ok (.iload_n 2, 1) := by decide +kernel
theorem dX11_hut_45 : decode cX11_hut 45 = .ok (.idiv, 1) := by decide +kernel
theorem dX11_hut_46 : decode cX11_hut 46 = .ok (.istore 4, 2) := by decide +kernel
theorem dX11_hut_48 : decode cX11_hut 48 = .ok (.iconst 1, 1) := by decide +kernel
theorem dX11_hut_49 : decode cX11_hut 49 = .ok (.istore 5, 2) := by decide +kernel
theorem dX11_hut_51 : decode cX11_hut 51 = .ok (.iload 5, 2) := by decide +kernel
theorem dX11_hut_53 : decode cX11_hut 53 = .ok (.bipush 99, 2) := by decide +kernel
theorem dX11_hut_55 : decode cX11_hut 55 = .ok (.if_icmp .gt 26, 3) := by decide +kernel
theorem dX11_hut_58 : decode cX11_hut 58 = .ok (.iload_n 1, 1) := by decide +kernel
theorem dX11_hut_59 : decode cX11_hut 59 = .ok (.iload 5, 2) := by decide +kernel
theorem dX11_hut_61 : decode cX11_hut 61 = .ok (.imul, 1) := by decide +kernel
theorem dX11_hut_62 : decode cX11_hut 62 = .ok (.iload 4, 2) := by decide +kernel
theorem dX11_hut_64 : decode cX11_hut 64 = .ok (.imul, 1) := by decide +kernel
theorem dX11_hut_65 : decode cX11_hut 65 = .ok (.bipush 38, 2) := by decide +kernel
theorem dX11_hut_67 : decode cX11_hut 67 = .ok (.idiv, 1) := by decide +kernel
theorem dX11_hut_68 : decode cX11_hut 68 = .ok (.iload_n 3, 1) := by decide +kernel
theorem dX11_hut_69 : decode cX11_hut 69 = .ok (.if_icmp .le 6, 3) := by decide +kernel
theorem dX11_hut_72 : decode cX11_hut 72 = .ok (.iload 5, 2) := by decide +kernel
theorem dX11_hut_74 : decode cX11_hut 74 = .ok (.ireturn, 1) := by decide +kernel
theorem dX11_hut_75 : decode cX11_hut 75 = .ok (.iinc 5 1, 3) := by decide +kernel
theorem dX11_hut_78 : decode cX11_hut 78 = .ok (.goto (-27), 3) := by decide +kernel
theorem dX11_hut_81 : decode cX11_hut 81 = .ok (.bipush (-6), 2) := by decide +kernel
theorem dX11_hut_83 : decode cX11_hut 83 = .ok (.ireturn, 1) := by decide +kernel
theorem dX11_film_0 : decode cX11_film 0 = .ok (.iload_n 1, 1) := by decide +kernel
theorem dX11_film_1 : decode cX11_film 1 = .ok (.iload_n 2, 1) := by decide +kernel
theorem dX11_film_2 : decode cX11_film 2 = .ok (.sipush 2000, 3) := by decide +kernel
theorem dX11_film_5 : decode cX11_film 5 = .ok (.invokestatic 221, 3) := by decide +kernel
theorem dX11_film_8 : decode cX11_film 8 = .ok (.ifCond .ne 6, 3) := by decide +kernel
theorem dX11_film_11 : decode cX11_film 11 = .ok (.bipush (-2), 2) := by decide +kernel
theorem dX11_film_13 : decode cX11_film 13 = .ok (.ireturn, 1) := by decide +kernel
theorem dX11_film_14 : decode cX11_film 14 = .ok (.aload_n 0, 1) := by decide +kernel
theorem dX11_film_15 : decode cX11_film 15 = .ok (.getfield 240, 3) := by decide +kernel
theorem dX11_film_18 : decode cX11_film 18 = .ok (.bipush 24, 2) := by decide +kernel
theorem dX11_film_20 : decode cX11_film 20 = .ok (.if_icmp .ne 6, 3) := by decide +kernel
theorem dX11_film_23 : decode cX11_film 23 = .ok (.bipush (-4), 2) := by decide +kernel
theorem dX11_film_25 : decode cX11_film 25 = .ok (.ireturn, 1) := by decide +kernel
theorem dX11_film_26 : decode cX11_film 26 = .ok (.aload_n 0, 1) := by decide +kernel
theorem dX11_film_27 : decode cX11_film 27 = .ok (.getfield 47, 3) := by decide +kernel
theorem dX11_film_30 : decode cX11_film 30 = .ok (.aload_n 0, 1) := by decide +kernel
theorem dX11_film_31 : decode cX11_film 31 = .ok (.getfield 240, 3) := by decide +kernel
theorem dX11_film_34 : decode cX11_film 34 = .ok (.iload_n 1, 1) := by decide +kernel
theorem dX11_film_35 : decode cX11_film 35 = .ok (.iastore, 1) := by decide +kernel
theorem dX11_film_36 : decode cX11_film 36 = .ok (.aload_n 0, 1) := by decide +kernel
theorem dX11_film_37 : decode cX11_film 37 = .ok (.getfield 50, 3) := by decide +kernel
theorem dX11_film_40 : decode cX11_film 40 = .ok (.aload_n 0, 1) := by decide +kernel
theorem dX11_film_41 : decode cX11_film 41 = .ok (.getfield 240, 3) := by decide +kernel
theorem dX11_film_44 : decode cX11_film 44 = .ok (.iload_n 2, 1) := by decide +kernel
theorem dX11_film_45 : decode cX11_film 45 = .ok (.iastore, 1) := by decide +kernel
theorem dX11_film_46 : decode cX11_film 46 = .ok (.aload_n 0, 1) := by decide +kernel
theorem dX11_film_47 : decode cX11_film 47 = .ok (.dup, 1) := by decide +kernel
theorem dX11_film_48 : decode cX11_film 48 = .ok (.getfield 240, 3) := by decide +kernel
theorem dX11_film_51 : decode cX11_film 51 = .ok (.iconst 1, 1) := by decide +kernel
theorem dX11_film_52 : decode cX11_film 52 = .ok (.iadd, 1) := by decide +kernel
theorem dX11_film_53 : decode cX11_film 53 = .ok (.putfield 240, 3) := by decide +kernel
theorem dX11_film_56 : decode cX11_film 56 = .ok (.aload_n 0, 1) := by decide +kernel
theorem dX11_film_57 : decode cX11_film 57 = .ok (.getfield 240, 3) := by decide +kernel
theorem dX11_film_60 : decode cX11_film 60 = .ok (.ireturn, 1) := by decide +kernel
theorem dX11_clear_0 : decode cX11_clear 0 = .ok (.aload_n 0, 1) := by decide +kernel
theorem dX11_clear_1 : decode cX11_clear 1 = .ok (.getfield 240, 3) := by decide +kernel
theorem dX11_clear_4 : decode cX11_clear 4 = .ok (.istore_n 1, 1) := by decide +kernel
theorem dX11_clear_5 : decode cX11_clear 5 = .ok (.aload_n 0, 1) := by decide +kernel
theorem dX11_clear_6 : decode cX11_clear 6 = .ok (.iconst 0, 1) := by decide +kernel
theorem dX11_clear_7 : decode cX11_clear 7 = .ok (.putfield 240, 3) := by decide +kernel
theorem dX11_clear_10 : decode cX11_clear 10 = .ok (.iload_n 1, 1) := by decide +kernel
theorem dX11_clear_11 : decode cX11_clear 11 = .ok (.ireturn, 1) := by decide +kernel
theorem dX11_bentOf_0 : decode cX11_bentOf 0 = .ok (.iconst 0, 1) := by decide +kernel
theorem dX11_bentOf_1 : decode cX11_bentOf 1 = .ok (.istore_n 2, 1) := by decide +kernel
theorem dX11_bentOf_2 : decode cX11_bentOf 2 = .ok (.iconst 0, 1) := by decide +kernel
theorem dX11_bentOf_3 : decode cX11_bentOf 3 = .ok (.istore_n 3, 1) := by decide +kernel
theorem dX11_bentOf_4 : decode cX11_bentOf 4 = .ok (.iconst 0, 1) := by decide +kernel
theorem dX11_bentOf_5 : decode cX11_bentOf 5 = .ok (.istore 4, 2) := by decide +kernel
theorem dX11_bentOf_7 : decode cX11_bentOf 7 = .ok (.iload 4, 2) := by decide +kernel
theorem dX11_bentOf_9 : decode cX11_bentOf 9 = .ok (.aload_n 0, 1) := by decide +kernel
theorem dX11_bentOf_10 : decode cX11_bentOf 10 = .ok (.getfield 240, 3) := by decide +kernel
theorem dX11_bentOf_13 : decode cX11_bentOf 13 = .ok (.if_icmp .ge 153, 3) := by decide +kernel
theorem dX11_bentOf_16 : decode cX11_bentOf 16 = .ok (.aload_n 0, 1) := by decide +kernel
theorem dX11_bentOf_17 : decode cX11_bentOf 17 = .ok (.aload_n 0, 1) := by decide +kernel
theorem dX11_bentOf_18 : decode cX11_bentOf 18 = .ok (.getfield 47, 3) := by decide +kernel
theorem dX11_bentOf_21 : decode cX11_bentOf 21 = .ok (.iload 4, 2) := by decide +kernel
theorem dX11_bentOf_23 : decode cX11_bentOf 23 = .ok (.iaload, 1) := by decide +kernel
theorem dX11_bentOf_24 : decode cX11_bentOf 24 = .ok (.aload_n 0, 1) := by decide +kernel
theorem dX11_bentOf_25 : decode cX11_bentOf 25 = .ok (.getfield 50, 3) := by decide +kernel
theorem dX11_bentOf_28 : decode cX11_bentOf 28 = .ok (.iload 4, 2) := by decide +kernel
theorem dX11_bentOf_30 : decode cX11_bentOf 30 = .ok (.iaload, 1) := by decide +kernel
theorem dX11_bentOf_31 : decode cX11_bentOf 31 = .ok (.iload_n 2, 1) := by decide +kernel
theorem dX11_bentOf_32 : decode cX11_bentOf 32 = .ok (.bipush 10, 2) := by decide +kernel
theorem dX11_bentOf_34 : decode cX11_bentOf 34 = .ok (.idiv, 1) := by decide +kernel
theorem dX11_bentOf_35 : decode cX11_bentOf 35 = .ok (.invokevirtual 135, 3) := by decide +kernel
theorem dX11_bentOf_38 : decode cX11_bentOf 38 = .ok (.aload_n 0, 1) := by decide +kernel
theorem dX11_bentOf_39 : decode cX11_bentOf 39 = .ok (.getfield 53, 3) := by decide +kernel
theorem dX11_bentOf_42 : decode cX11_bentOf 42 = .ok (.iload 4, 2) := by decide +kernel
theorem dX11_bentOf_44 : decode cX11_bentOf 44 = .ok (.aload_n 0, 1) := by decide +kernel
theorem dX11_bentOf_45 : decode cX11_bentOf 45 = .ok (.getfield 75, 3) := by decide +kernel
theorem dX11_bentOf_48 : decode cX11_bentOf 48 = .ok (.iastore, 1) := by decide +kernel
theorem dX11_bentOf_49 : decode cX11_bentOf 49 = .ok (.aload_n 0, 1) := by decide +kernel
theorem dX11_bentOf_50 : decode cX11_bentOf 50 = .ok (.getfield 56, 3) := by decide +kernel
theorem dX11_bentOf_53 : decode cX11_bentOf 53 = .ok (.iload 4, 2) := by decide +kernel
theorem dX11_bentOf_55 : decode cX11_bentOf 55 = .ok (.aload_n 0, 1) := by decide +kernel
theorem dX11_bentOf_56 : decode cX11_bentOf 56 = .ok (.getfield 79, 3) := by decide +kernel
theorem dX11_bentOf_59 : decode cX11_bentOf 59 = .ok (.iastore, 1) := by decide +kernel
theorem dX11_bentOf_60 : decode cX11_bentOf 60 = .ok (.iload_n 2, 1) := by decide +kernel
theorem dX11_bentOf_61 : decode cX11_bentOf 61 = .ok (.iload_n 1, 1) := by decide +kernel
theorem dX11_bentOf_62 : decode cX11_bentOf 62 = .ok (.iadd, 1) := by decide +kernel
theorem dX11_bentOf_63 : decode cX11_bentOf 63 = .ok (.sipush 240, 3) := by decide +kernel
theorem dX11_bentOf_66 : decode cX11_bentOf 66 = .ok (.irem, 1) := by decide +kernel
theorem dX11_bentOf_67 : decode cX11_bentOf 67 = .ok (.istore 5, 2) := by decide +kernel
theorem dX11_bentOf_69 : decode cX11_bentOf 69 = .ok (.iload 5, 2) := by decide +kernel
theorem dX11_bentOf_71 : decode cX11_bentOf 71 = .ok (.ifCond .ge 12, 3) := by decide +kernel
theorem dX11_bentOf_74 : decode cX11_bentOf 74 = .ok (.iload 5, 2) := by decide +kernel
theorem dX11_bentOf_76 : decode cX11_bentOf 76 = .ok (.sipush 240, 3) := by decide +kernel
theorem dX11_bentOf_79 : decode cX11_bentOf 79 = .ok (.iadd, 1) := by decide +kernel
theorem dX11_bentOf_80 : decode cX11_bentOf 80 = .ok (.goto 5, 3) := by decide +kernel
theorem dX11_bentOf_83 : decode cX11_bentOf 83 = .ok (.iload 5, 2) := by decide +kernel
theorem dX11_bentOf_85 : decode cX11_bentOf 85 = .ok (.istore_n 2, 1) := by decide +kernel
theorem dX11_bentOf_86 : decode cX11_bentOf 86 = .ok (.iload 4, 2) := by decide +kernel
theorem dX11_bentOf_88 : decode cX11_bentOf 88 = .ok (.iconst 1, 1) := by decide +kernel
theorem dX11_bentOf_89 : decode cX11_bentOf 89 = .ok (.if_icmp .le 71, 3) := by decide +kernel
theorem dX11_bentOf_92 : decode cX11_bentOf 92 = .ok (.iload_n 3, 1) := by decide +kernel
theorem dX11_bentOf_93 : decode cX11_bentOf 93 = .ok (.aload_n 0, 1) := by decide +kernel
theorem dX11_bentOf_94 : decode cX11_bentOf 94 = .ok (.getfield 53, 3) := by decide +kernel
theorem dX11_bentOf_97 : decode cX11_bentOf 97 = .ok (.iload 4, 2) := by decide +kernel
theorem dX11_bentOf_99 : decode cX11_bentOf 99 = .ok (.iaload, 1) := by decide +kernel
theorem dX11_bentOf_100 : decode cX11_bentOf 100 = .ok (.aload_n 0, 1) := by decide +kernel
theorem dX11_bentOf_101 : decode cX11_bentOf 101 = .ok (.getfield 53, 3) := by decide +kernel
theorem dX11_bentOf_104 : decode cX11_bentOf 104 = .ok (.iload 4, 2) := by decide +kernel
theorem dX11_bentOf_106 : decode cX11_bentOf 106 = .ok (.iconst 2, 1) := by decide +kernel
theorem dX11_bentOf_107 : decode cX11_bentOf 107 = .ok (.isub, 1) := by decide +kernel
theorem dX11_bentOf_108 : decode cX11_bentOf 108 = .ok (.iaload, 1) := by decide +kernel
theorem dX11_bentOf_109 : decode cX11_bentOf 109 = .ok (.iadd, 1) := by decide +kernel
theorem dX11_bentOf_110 : decode cX11_bentOf 110 = .ok (.iconst 2, 1) := by decide +kernel
theorem dX11_bentOf_111 : decode cX11_bentOf 111 = .ok (.aload_n 0, 1) := by decide +kernel
theorem dX11_bentOf_112 : decode cX11_bentOf 112 = .ok (.getfield 53, 3) := by decide +kernel
theorem dX11_bentOf_115 : decode cX11_bentOf 115 = .ok (.iload 4, 2) := by decide +kernel
theorem dX11_bentOf_117 : decode cX11_bentOf 117 = .ok (.iconst 1, 1) := by decide +kernel
theorem dX11_bentOf_118 : decode cX11_bentOf 118 = .ok (.isub, 1) := by decide +kernel
theorem dX11_bentOf_119 : decode cX11_bentOf 119 = .ok (.iaload, 1) := by decide +kernel
theorem dX11_bentOf_120 : decode cX11_bentOf 120 = .ok (.imul, 1) := by decide +kernel
theorem dX11_bentOf_121 : decode cX11_bentOf 121 = .ok (.isub, 1) := by decide +kernel
theorem dX11_bentOf_122 : decode cX11_bentOf 122 = .ok (.invokestatic 184, 3) := by decide +kernel
theorem dX11_bentOf_125 : decode cX11_bentOf 125 = .ok (.aload_n 0, 1) := by decide +kernel
theorem dX11_bentOf_126 : decode cX11_bentOf 126 = .ok (.getfield 56, 3) := by decide +kernel
theorem dX11_bentOf_129 : decode cX11_bentOf 129 = .ok (.iload 4, 2) := by decide +kernel
theorem dX11_bentOf_131 : decode cX11_bentOf 131 = .ok (.iaload, 1) := by decide +kernel
theorem dX11_bentOf_132 : decode cX11_bentOf 132 = .ok (.aload_n 0, 1) := by decide +kernel
theorem dX11_bentOf_133 : decode cX11_bentOf 133 = .ok (.getfield 56, 3) := by decide +kernel
theorem dX11_bentOf_136 : decode cX11_bentOf 136 = .ok (.iload 4, 2) := by decide +kernel
theorem dX11_bentOf_138 : decode cX11_bentOf 138 = .ok (.iconst 2, 1) := by decide +kernel
theorem dX11_bentOf_139 : decode cX11_bentOf 139 = .ok (.isub, 1) := by decide +kernel
theorem dX11_bentOf_140 : decode cX11_bentOf 140 = .ok (.iaload, 1) := by decide +kernel
theorem dX11_bentOf_141 : decode cX11_bentOf 141 = .ok (.iadd, 1) := by decide +kernel
theorem dX11_bentOf_142 : decode cX11_bentOf 142 = .ok (.iconst 2, 1) := by decide +kernel
theorem dX11_bentOf_143 : decode cX11_bentOf 143 = .ok (.aload_n 0, 1) := by decide +kernel
theorem dX11_bentOf_144 : decode cX11_bentOf 144 = .ok (.getfield 56, 3) := by decide +kernel
theorem dX11_bentOf_147 : decode cX11_bentOf 147 = .ok (.iload 4, 2) := by decide +kernel
theorem dX11_bentOf_149 : decode cX11_bentOf 149 = .ok (.iconst 1, 1) := by decide +kernel
theorem dX11_bentOf_150 : decode cX11_bentOf 150 = .ok (.isub, 1) := by decide +kernel
theorem dX11_bentOf_151 : decode cX11_bentOf 151 = .ok (.iaload, 1) := by decide +kernel
theorem dX11_bentOf_152 : decode cX11_bentOf 152 = .ok (.imul, 1) := by decide +kernel
theorem dX11_bentOf_153 : decode cX11_bentOf 153 = .ok (.isub, 1) := by decide +kernel
theorem dX11_bentOf_154 : decode cX11_bentOf 154 = .ok (.invokestatic 184, 3) := by decide +kernel
theorem dX11_bentOf_157 : decode cX11_bentOf 157 = .ok (.iadd, 1) := by decide +kernel
theorem dX11_bentOf_158 : decode cX11_bentOf 158 = .ok (.iadd, 1) := by decide +kernel
theorem dX11_bentOf_159 : decode cX11_bentOf 159 = .ok (.istore_n 3, 1) := by decide +kernel
theorem dX11_bentOf_160 : decode cX11_bentOf 160 = .ok (.iinc 4 1, 3) := by decide +kernel
theorem dX11_bentOf_163 : decode cX11_bentOf 163 = .ok (.goto (-156), 3) := by decide +kernel
theorem dX11_bentOf_166 : decode cX11_bentOf 166 = .ok (.iload_n 3, 1) := by decide +kernel
theorem dX11_bentOf_167 : decode cX11_bentOf 167 = .ok (.ireturn, 1) := by decide +kernel
theorem dX11_bent_0 : decode cX11_bent 0 = .ok (.iload_n 1, 1) := by decide +kernel
theorem dX11_bent_1 : decode cX11_bent 1 = .ok (.i2l, 1) := by decide +kernel
theorem dX11_bent_2 : decode cX11_bent 2 = .ok (.ldc2_w 243, 3) := by decide +kernel
theorem dX11_bent_5 : decode cX11_bent 5 = .ok (.ldc2_w 71, 3) := by decide +kernel
theorem dX11_bent_8 : decode cX11_bent 8 = .ok (.invokestatic 67, 3) := by decide +kernel
theorem dX11_bent_11 : decode cX11_bent 11 = .ok (.ifCond .eq 11, 3) := by decide +kernel
theorem dX11_bent_14 : decode cX11_bent 14 = .ok (.aload_n 0, 1) := by decide +kernel
theorem dX11_bent_15 : decode cX11_bent 15 = .ok (.iload_n 1, 1) := by decide +kernel
theorem dX11_bent_16 : decode cX11_bent 16 = .ok (.invokevirtual 245, 3) := by decide +kernel
theorem dX11_bent_19 : decode cX11_bent 19 = .ok (.goto 5, 3) := by decide +kernel
theorem dX11_bent_22 : decode cX11_bent 22 = .ok (.bipush (-2), 2) := by decide +kernel
theorem dX11_bent_24 : decode cX11_bent 24 = .ok (.ireturn, 1) := by decide +kernel
theorem dX11_turnedBy_0 : decode cX11_turnedBy 0 = .ok (.iconst 0, 1) := by decide +kernel
theorem dX11_turnedBy_1 : decode cX11_turnedBy 1 = .ok (.istore_n 1, 1) := by decide +kernel
theorem dX11_turnedBy_2 : decode cX11_turnedBy 2 = .ok (.iconst 1, 1) := by decide +kernel
theorem dX11_turnedBy_3 : decode cX11_turnedBy 3 = .ok (.istore_n 2, 1) := by decide +kernel
theorem dX11_turnedBy_4 : decode cX11_turnedBy 4 = .ok (.iload_n 2, 1) := by decide +kernel
theorem dX11_turnedBy_5 : decode cX11_turnedBy 5 = .ok (.bipush 60, 2) := by decide +kernel
theorem dX11_turnedBy_7 : decode cX11_turnedBy 7 = .ok (.if_icmp .gt 49, 3) := by decide +kernel
theorem dX11_turnedBy_10 : decode cX11_turnedBy 10 = .ok (.aload_n 0, 1) := by decide +kernel
theorem dX11_turnedBy_11 : decode cX11_turnedBy 11 = .ok (.iload_n 2, 1) := by decide +kernel
theorem dX11_turnedBy_12 : decode cX11_turnedBy 12 = .ok (.invokevirtual 245, 3) := by decide +kernel
theorem dX11_turnedBy_15 : decode cX11_turnedBy 15 = .ok (.aload_n 0, 1) := by decide +kernel
theorem dX11_turnedBy_16 : decode cX11_turnedBy 16 = .ok (.iload_n 1, 1) := by decide +kernel
theorem dX11_turnedBy_17 : decode cX11_turnedBy 17 = .ok (.invokevirtual 245, 3) := by decide +kernel
theorem dX11_turnedBy_20 : decode cX11_turnedBy 20 = .ok (.if_icmp .ge 7, 3) := by decide +kernel
theorem dX11_turnedBy_23 : decode cX11_turnedBy 23 = .ok (.iload_n 2, 1) := by decide +kernel
theorem dX11_turnedBy_24 : decode cX11_turnedBy 24 = .ok (.goto 4, 3) := by decide +kernel
theorem dX11_turnedBy_27 : decode cX11_turnedBy 27 = .ok (.iload_n 1, 1) := by decide +kernel
theorem dX11_turnedBy_28 : decode cX11_turnedBy 28 = .ok (.istore_n 1, 1) := by decide +kernel
theorem dX11_turnedBy_29 : decode cX11_turnedBy 29 = .ok (.aload_n 0, 1) := by decide +kernel
theorem dX11_turnedBy_30 : decode cX11_turnedBy 30 = .ok (.iload_n 2, 1) := by decide +kernel
theorem dX11_turnedBy_31 : decode cX11_turnedBy 31 = .ok (.ineg, 1) := by decide +kernel
theorem dX11_turnedBy_32 : decode cX11_turnedBy 32 = .ok (.invokevirtual 245, 3) := by decide +kernel
theorem dX11_turnedBy_35 : decode cX11_turnedBy 35 = .ok (.aload_n 0, 1) := by decide +kernel
theorem dX11_turnedBy_36 : decode cX11_turnedBy 36 = .ok (.iload_n 1, 1) := by decide +kernel
theorem dX11_turnedBy_37 : decode cX11_turnedBy 37 = .ok (.invokevirtual 245, 3) := by decide +kernel
theorem dX11_turnedBy_40 : decode cX11_turnedBy 40 = .ok (.if_icmp .ge 8, 3) := by decide +kernel
theorem dX11_turnedBy_43 : decode cX11_turnedBy 43 = .ok (.iload_n 2, 1) := by decide +kernel
theorem dX11_turnedBy_44 : decode cX11_turnedBy 44 = .ok (.ineg, 1) := by decide +kernel
theorem dX11_turnedBy_45 : decode cX11_turnedBy 45 = .ok (.goto 4, 3) := by decide +kernel
theorem dX11_turnedBy_48 : decode cX11_turnedBy 48 = .ok (.iload_n 1, 1) := by decide +kernel
theorem dX11_turnedBy_49 : decode cX11_turnedBy 49 = .ok (.istore_n 1, 1) := by decide +kernel
theorem dX11_turnedBy_50 : decode cX11_turnedBy 50 = .ok (.iinc 2 1, 3) := by decide +kernel
theorem dX11_turnedBy_53 : decode cX11_turnedBy 53 = .ok (.goto (-49), 3) := by decide +kernel
theorem dX11_turnedBy_56 : decode cX11_turnedBy 56 = .ok (.iload_n 1, 1) := by decide +kernel
theorem dX11_turnedBy_57 : decode cX11_turnedBy 57 = .ok (.ireturn, 1) := by decide +kernel
theorem dX11_turned_0 : decode cX11_turned 0 = .ok (.aload_n 0, 1) := by decide +kernel
theorem dX11_turned_1 : decode cX11_turned 1 = .ok (.getfield 240, 3) := by decide +kernel
theorem dX11_turned_4 : decode cX11_turned 4 = .ok (.iconst 3, 1) := by decide +kernel
theorem dX11_turned_5 : decode cX11_turned 5 = .ok (.if_icmp .ge 8, 3) := by decide +kernel
theorem dX11_turned_8 : decode cX11_turned 8 = .ok (.ldc 248, 2) := by decide +kernel
theorem dX11_turned_10 : decode cX11_turned 10 = .ok (.goto 7, 3) := by decide +kernel
theorem dX11_turned_13 : decode cX11_turned 13 = .ok (.aload_n 0, 1) := by decide +kernel
theorem dX11_turned_14 : decode cX11_turned 14 = .ok (.invokevirtual 249, 3) := by decide +kernel
theorem dX11_turned_17 : decode cX11_turned 17 = .ok (.ireturn, 1) := by decide +kernel
theorem dX11_span_0 : decode cX11_span 0 = .ok (.iload_n 1, 1) := by decide +kernel
theorem dX11_span_1 : decode cX11_span 1 = .ok (.i2l, 1) := by decide +kernel
theorem dX11_span_2 : decode cX11_span 2 = .ok (.lconst 0, 1) := by decide +kernel
theorem dX11_span_3 : decode cX11_span 3 = .ok (.ldc2_w 238, 3) := by decide +kernel
theorem dX11_span_6 : decode cX11_span 6 = .ok (.invokestatic 67, 3) := by decide +kernel
theorem dX11_span_9 : decode cX11_span 9 = .ok (.ifCond .eq 10, 3) := by decide +kernel
theorem dX11_span_12 : decode cX11_span 12 = .ok (.iload_n 2, 1) := by decide +kernel
theorem dX11_span_13 : decode cX11_span 13 = .ok (.invokestatic 121, 3) := by decide +kernel
theorem dX11_span_16 : decode cX11_span 16 = .ok (.ifCond .ne 6, 3) := by decide +kernel
theorem dX11_span_19 : decode cX11_span 19 = .ok (.ldc 148, 2) := by decide +kernel
theorem dX11_span_21 : decode cX11_span 21 = .ok (.ireturn, 1) := by decide +kernel
theorem dX11_span_22 : decode cX11_span 22 = .ok (.aload_n 0, 1) := by decide +kernel
theorem dX11_span_23 : decode cX11_span 23 = .ok (.getfield 240, 3) := by decide +kernel
theorem dX11_span_26 : decode cX11_span 26 = .ok (.iconst 3, 1) := by decide +kernel
theorem dX11_span_27 : decode cX11_span 27 = .ok (.if_icmp .ge 6, 3) := by decide +kernel
theorem dX11_span_30 : decode cX11_span 30 = .ok (.ldc 248, 2) := by decide +kernel
theorem dX11_span_32 : decode cX11_span 32 = .ok (.ireturn, 1) := by decide +kernel
theorem dX11_span_33 : decode cX11_span 33 = .ok (.aload_n 0, 1) := by decide +kernel
theorem dX11_span_34 : decode cX11_span 34 = .ok (.aload_n 0, 1) := by decide +kernel
theorem dX11_span_35 : decode cX11_span 35 = .ok (.invokevirtual 249, 3) := by decide +kernel
theorem dX11_span_38 : decode cX11_span 38 = .ok (.invokevirtual 245, 3) := by decide +kernel
theorem dX11_span_41 : decode cX11_span 41 = .ok (.iload_n 1, 1) := by decide +kernel
theorem dX11_span_42 : decode cX11_span 42 = .ok (.iadd, 1) := by decide +kernel
theorem dX11_span_43 : decode cX11_span 43 = .ok (.istore_n 3, 1) := by decide +kernel
theorem dX11_span_44 : decode cX11_span 44 = .ok (.iload_n 2, 1) := by decide +kernel
theorem dX11_span_45 : decode cX11_span 45 = .ok (.ifCond .ne 7, 3) := by decide +kernel
theorem dX11_span_48 : decode cX11_span 48 = .ok (.iconst 1, 1) := by decide +kernel
theorem dX11_span_49 : decode cX11_span 49 = .ok (.goto 4, 3) := by decide +kernel
theorem dX11_span_52 : decode cX11_span 52 = .ok (.iconst (-1), 1) := by decide +kernel
theorem dX11_span_53 : decode cX11_span 53 = .ok (.istore 4, 2) := by decide +kernel
theorem dX11_span_55 : decode cX11_span 55 = .ok (.iload_n 2, 1) := by decide +kernel
theorem dX11_span_56 : decode cX11_span 56 = .ok (.ifCond .ne 8, 3) := by decide +kernel
theorem dX11_span_59 : decode cX11_span 59 = .ok (.bipush (-60), 2) := by decide +kernel
theorem dX11_span_61 : decode cX11_span 61 = .ok (.goto 5, 3) := by decide +kernel
theorem dX11_span_64 : decode cX11_span 64 = .ok (.bipush 60, 2) := by decide +kernel
theorem dX11_span_66 : decode cX11_span 66 = .ok (.istore 5, 2) := by decide +kernel
theorem dX11_span_68 : decode cX11_span 68 = .ok (.aload_n 0, 1) := by decide +kernel
theorem dX11_span_69 : decode cX11_span 69 = .ok (.iload 5, 2) := by decide +kernel
theorem dX11_span_71 : decode cX11_span 71 = .ok (.invokevirtual 245, 3) := by decide +kernel
theorem dX11_span_74 : decode cX11_span 74 = .ok (.iload_n 3, 1) := by decide +kernel
theorem dX11_span_75 : decode cX11_span 75 = .ok (.if_icmp .le 13, 3) := by decide +kernel
theorem dX11_span_78 : decode cX11_span 78 = .ok (.iload 5, 2) := by decide +kernel
theorem dX11_span_80 : decode cX11_span 80 = .ok (.iload 4, 2) := by decide +kernel
theorem dX11_span_82 : decode cX11_span 82 = .ok (.iadd, 1) := by decide +kernel
theorem dX11_span_83 : decode cX11_span 83 = .ok (.istore 5, 2) := by decide +kernel
theorem dX11_span_85 : decode cX11_span 85 = .ok (.goto (-17), 3) := by decide +kernel
theorem dX11_span_88 : decode cX11_span 88 = .ok (.iload 5, 2) := by decide +kernel
theorem dX11_span_90 : decode cX11_span 90 = .ok (.ireturn, 1) := by decide +kernel
theorem dX11_firstWay_0 : decode cX11_firstWay 0 = .ok (.iconst 0, 1) := by decide +kernel
theorem dX11_firstWay_1 : decode cX11_firstWay 1 = .ok (.istore 4, 2) := by decide +kernel
theorem dX11_firstWay_3 : decode cX11_firstWay 3 = .ok (.lconst 0, 1) := by decide +kernel
theorem dX11_firstWay_4 : decode cX11_firstWay 4 = .ok (.lstore 5, 2) := by decide +kernel
theorem dX11_firstWay_6 : decode cX11_firstWay 6 = .ok (.iconst 0, 1) := by decide +kernel
theorem dX11_firstWay_7 : decode cX11_firstWay 7 = .ok (.istore 7, 2) := by decide +kernel
theorem dX11_firstWay_9 : decode cX11_firstWay 9 = .ok (.iload 7, 2) := by decide +kernel
theorem dX11_firstWay_11 : decode cX11_firstWay 11 = .ok (.bipush 24, 2) := by decide +kernel
theorem dX11_firstWay_13 : decode cX11_firstWay 13 = .ok (.if_icmp .ge 81, 3) := by decide +kernel
theorem dX11_firstWay_16 : decode cX11_firstWay 16 = .ok (.aload_n 0, 1) := by decide +kernel
theorem dX11_firstWay_17 : decode cX11_firstWay 17 = .ok (.iload_n 2, 1) := by decide +kernel
theorem dX11_firstWay_18 : decode cX11_firstWay 18 = .ok (.iconst 0, 1) := by decide +kernel
theorem dX11_firstWay_19 : decode cX11_firstWay 19 = .ok (.iload 7, 2) := by decide +kernel
theorem dX11_firstWay_21 : decode cX11_firstWay 21 = .ok (.invokevirtual 135, 3) := by decide +kernel
theorem dX11_firstWay_24 : decode cX11_firstWay 24 = .ok (.aload_n 0, 1) := by decide +kernel
theorem dX11_firstWay_25 : decode cX11_firstWay 25 = .ok (.getfield 75, 3) := by decide +kernel
theorem dX11_firstWay_28 : decode cX11_firstWay 28 = .ok (.i2l, 1) := by decide +kernel
theorem dX11_firstWay_29 : decode cX11_firstWay 29 = .ok (.aload_n 0, 1) := by decide +kernel
theorem dX11_firstWay_30 : decode cX11_firstWay 30 = .ok (.getfield 31, 3) := by decide +kernel
theorem dX11_firstWay_33 : decode cX11_firstWay 33 = .ok (.iload_n 3, 1) := by decide +kernel
theorem dX11_firstWay_34 : decode cX11_firstWay 34 = .ok (.iaload, 1) := by decide +kernel
theorem dX11_firstWay_35 : decode cX11_firstWay 35 = .ok (.aload_n 0, 1) := by decide +kernel
theorem dX11_firstWay_36 : decode cX11_firstWay 36 = .ok (.getfield 31, 3) := by decide +kernel
theorem dX11_firstWay_39 : decode cX11_firstWay 39 = .ok (.iload_n 1, 1) := by decide +kernel
theorem dX11_firstWay_40 : decode cX11_firstWay 40 = .ok (.iaload, 1) := by decide +kernel
theorem dX11_firstWay_41 : decode cX11_firstWay 41 = .ok (.isub, 1) := by decide +kernel
theorem dX11_firstWay_42 : decode cX11_firstWay 42 = .ok (.i2l, 1) := by decide +kernel
theorem dX11_firstWay_43 : decode cX11_firstWay 43 = .ok (.lmul, 1) := by decide +kernel
theorem dX11_firstWay_44 : decode cX11_firstWay 44 = .ok (.aload_n 0, 1) := by decide +kernel
theorem dX11_firstWay_45 : decode cX11_firstWay 45 = .ok (.getfield 79, 3) := by decide +kernel
theorem dX11_firstWay_48 : decode cX11_firstWay 48 = .ok (.i2l, 1) := by decide +kernel
theorem dX11_firstWay_49 : decode cX11_firstWay 49 = .ok (.aload_n 0, 1) := by decide +kernel
theorem dX11_firstWay_50 : decode cX11_firstWay 50 = .ok (.getfield 34, 3) := by decide +kernel
theorem dX11_firstWay_53 : decode cX11_firstWay 53 = .ok (.iload_n 3, 1) := by decide +kernel
theorem dX11_firstWay_54 : decode cX11_firstWay 54 = .ok (.iaload, 1) := by decide +kernel
theorem dX11_firstWay_55 : decode cX11_firstWay 55 = .ok (.aload_n 0, 1) := by decide +kernel
theorem dX11_firstWay_56 : decode cX11_firstWay 56 = .ok (.getfield 34, 3) := by decide +kernel
theorem dX11_firstWay_59 : decode cX11_firstWay 59 = .ok (.iload_n 1, 1) := by decide +kernel
theorem dX11_firstWay_60 : decode cX11_firstWay 60 = .ok (.iaload, 1) := by decide +kernel
theorem dX11_firstWay_61 : decode cX11_firstWay 61 = .ok (.isub, 1) := by decide +kernel
theorem dX11_firstWay_62 : decode cX11_firstWay 62 = .ok (.i2l, 1) := by decide +kernel
theorem dX11_firstWay_63 : decode cX11_firstWay 63 = .ok (.lmul, 1) := by decide +kernel
theorem dX11_firstWay_64 : decode cX11_firstWay 64 = .ok (.ladd, 1) := by decide +kernel
theorem dX11_firstWay_65 : decode cX11_firstWay 65 = .ok (.lstore 8, 2) := by decide +kernel
theorem dX11_firstWay_67 : decode cX11_firstWay 67 = .ok (.iload 7, 2) := by decide +kernel
theorem dX11_firstWay_69 : decode cX11_firstWay 69 = .ok (.ifCond .eq 11, 3) := by decide +kernel
theorem dX11_firstWay_72 : decode cX11_firstWay 72 = .ok (.lload 8, 2) := by decide +kernel
theorem dX11_firstWay_74 : decode cX11_firstWay 74 = .ok (.lload 5, 2) := by decide +kernel
theorem dX11_firstWay_76 : decode cX11_firstWay 76 = .ok (.lcmp, 1) := by decide +kernel
theorem dX11_firstWay_77 : decode cX11_firstWay 77 = .ok (.ifCond .le 11, 3) := by decide +kernel
theorem dX11_firstWay_80 : decode cX11_firstWay 80 = .ok (.iload 7, 2) := by decide +kernel
theorem dX11_firstWay_82 : decode cX11_firstWay 82 = .ok (.istore 4, 2) := by decide +kernel
theorem dX11_firstWay_84 : decode cX11_firstWay 84 = .ok (.lload 8, 2) := by decide +kernel
theorem dX11_firstWay_86 : decode cX11_firstWay 86 = .ok (.lstore 5, 2) := by decide +kernel
theorem dX11_firstWay_88 : decode cX11_firstWay 88 = .ok (.iinc 7 1, 3) := by decide +kernel
theorem dX11_firstWay_91 : decode cX11_firstWay 91 = .ok (.goto (-82), 3) := by decide +kernel
theorem dX11_firstWay_94 : decode cX11_firstWay 94 = .ok (.iload 4, 2) := by decide +kernel
theorem dX11_firstWay_96 : decode cX11_firstWay 96 = .ok (.ireturn, 1) := by decide +kernel
theorem dX11_nextWay_0 : decode cX11_nextWay 0 = .ok (.iconst 1, 1) := by decide +kernel
theorem dX11_nextWay_1 : decode cX11_nextWay 1 = .ok (.istore_n 3, 1) := by decide +kernel
theorem dX11_nextWay_2 : decode cX11_nextWay 2 = .ok (.aload_n 0, 1) := by decide +kernel
theorem dX11_nextWay_3 : decode cX11_nextWay 3 = .ok (.iload_n 2, 1) := by decide +kernel
theorem dX11_nextWay_4 : decode cX11_nextWay 4 = .ok (.iconst 1, 1) := by decide +kernel
theorem dX11_nextWay_5 : decode cX11_nextWay 5 = .ok (.invokevirtual 187, 3) := by decide +kernel
theorem dX11_nextWay_8 : decode cX11_nextWay 8 = .ok (.istore 4, 2) := by decide +kernel
theorem dX11_nextWay_10 : decode cX11_nextWay 10 = .ok (.iconst 2, 1) := by decide +kernel
theorem dX11_nextWay_11 : decode cX11_nextWay 11 = .ok (.istore 5, 2) := by decide +kernel
theorem dX11_nextWay_13 : decode cX11_nextWay 13 = .ok (.iload 5, 2) := by decide +kernel
theorem dX11_nextWay_15 : decode cX11_nextWay 15 = .ok (.bipush 60, 2) := by decide +kernel
theorem dX11_nextWay_17 : decode cX11_nextWay 17 = .ok (.if_icmp .gt 32, 3) := by decide +kernel
theorem dX11_nextWay_20 : decode cX11_nextWay 20 = .ok (.aload_n 0, 1) := by decide +kernel
theorem dX11_nextWay_21 : decode cX11_nextWay 21 = .ok (.iload_n 2, 1) := by decide +kernel
theorem dX11_nextWay_22 : decode cX11_nextWay 22 = .ok (.iload 5, 2) := by decide +kernel
theorem dX11_nextWay_24 : decode cX11_nextWay 24 = .ok (.invokevirtual 187, 3) := by decide +kernel
theorem dX11_nextWay_27 : decode cX11_nextWay 27 = .ok (.istore 6, 2) := by decide +kernel
theorem dX11_nextWay_29 : decode cX11_nextWay 29 = .ok (.iload 6, 2) := by decide +kernel
theorem dX11_nextWay_31 : decode cX11_nextWay 31 = .ok (.iload 4, 2) := by decide +kernel
theorem dX11_nextWay_33 : decode cX11_nextWay 33 = .ok (.if_icmp .ge 10, 3) := by decide +kernel
theorem dX11_nextWay_36 : decode cX11_nextWay 36 = .ok (.iload 5, 2) := by decide +kernel
theorem dX11_nextWay_38 : decode cX11_nextWay 38 = .ok (.istore_n 3, 1) := by decide +kernel
theorem dX11_nextWay_39 : decode cX11_nextWay 39 = .ok (.iload 6, 2) := by decide +kernel
theorem dX11_nextWay_41 : decode cX11_nextWay 41 = .ok (.istore 4, 2) := by decide +kernel
theorem dX11_nextWay_43 : decode cX11_nextWay 43 = .ok (.iinc 5 1, 3) := by decide +kernel
theorem dX11_nextWay_46 : decode cX11_nextWay 46 = .ok (.goto (-33), 3) := by decide +kernel
theorem dX11_nextWay_49 : decode cX11_nextWay 49 = .ok (.aload_n 0, 1) := by decide +kernel
theorem dX11_nextWay_50 : decode cX11_nextWay 50 = .ok (.iload_n 2, 1) := by decide +kernel
theorem dX11_nextWay_51 : decode cX11_nextWay 51 = .ok (.iload_n 3, 1) := by decide +kernel
theorem dX11_nextWay_52 : decode cX11_nextWay 52 = .ok (.invokevirtual 149, 3) := by decide +kernel
theorem dX11_nextWay_55 : decode cX11_nextWay 55 = .ok (.aload_n 0, 1) := by decide +kernel
theorem dX11_nextWay_56 : decode cX11_nextWay 56 = .ok (.getfield 75, 3) := by decide +kernel
theorem dX11_nextWay_59 : decode cX11_nextWay 59 = .ok (.i2l, 1) := by decide +kernel
theorem dX11_nextWay_60 : decode cX11_nextWay 60 = .ok (.aload_n 0, 1) := by decide +kernel
theorem dX11_nextWay_61 : decode cX11_nextWay 61 = .ok (.iload_n 3, 1) := by decide +kernel
theorem dX11_nextWay_62 : decode cX11_nextWay 62 = .ok (.invokevirtual 168, 3) := by decide +kernel
theorem dX11_nextWay_65 : decode cX11_nextWay 65 = .ok (.i2l, 1) := by decide +kernel
theorem dX11_nextWay_66 : decode cX11_nextWay 66 = .ok (.lmul, 1) := by decide +kernel
theorem dX11_nextWay_67 : decode cX11_nextWay 67 = .ok (.aload_n 0, 1) := by decide +kernel
theorem dX11_nextWay_68 : decode cX11_nextWay 68 = .ok (.getfield 79, 3) := by decide +kernel
theorem dX11_nextWay_71 : decode cX11_nextWay 71 = .ok (.i2l, 1) := by decide +kernel
theorem dX11_nextWay_72 : decode cX11_nextWay 72 = .ok (.aload_n 0, 1) := by decide +kernel
theorem dX11_nextWay_73 : decode cX11_nextWay 73 = .ok (.iload_n 3, 1) := by decide +kernel
theorem dX11_nextWay_74 : decode cX11_nextWay 74 = .ok (.invokevirtual 165, 3) := by decide +kernel
theorem dX11_nextWay_77 : decode cX11_nextWay 77 = .ok (.i2l, 1) := by decide +kernel
theorem dX11_nextWay_78 : decode cX11_nextWay 78 = .ok (.lmul, 1) := by decide +kernel
theorem dX11_nextWay_79 : decode cX11_nextWay 79 = .ok (.lsub, 1) := by decide +kernel
theorem dX11_nextWay_80 : decode cX11_nextWay 80 = .ok (.lstore 5, 2) := by decide +kernel
theorem dX11_nextWay_82 : decode cX11_nextWay 82 = .ok (.iload_n 1, 1) := by decide +kernel
theorem dX11_nextWay_83 : decode cX11_nextWay 83 = .ok (.lload 5, 2) := by decide +kernel
theorem dX11_nextWay_85 : decode cX11_nextWay 85 = .ok (.lconst 0, 1) := by decide +kernel
theorem dX11_nextWay_86 : decode cX11_nextWay 86 = .ok (.lcmp, 1) := by decide +kernel
theorem dX11_nextWay_87 : decode cX11_nextWay 87 = .ok (.ifCond .ge 7, 3) := by decide +kernel
theorem dX11_nextWay_90 : decode cX11_nextWay 90 = .ok (.iconst 1, 1) := by decide +kernel
theorem dX11_nextWay_91 : decode cX11_nextWay 91 = .ok (.goto 5, 3) := by decide +kernel
theorem dX11_nextWay_94 : decode cX11_nextWay 94 = .ok (.bipush 23, 2) := by decide +kernel
theorem dX11_nextWay_96 : decode cX11_nextWay 96 = .ok (.iadd, 1) := by decide +kernel
theorem dX11_nextWay_97 : decode cX11_nextWay 97 = .ok (.bipush 24, 2) := by decide +kernel
theorem dX11_nextWay_99 : decode cX11_nextWay 99 = .ok (.irem, 1) := by decide +kernel
theorem dX11_nextWay_100 : decode cX11_nextWay 100 = .ok (.ireturn, 1) := by decide +kernel
theorem dX11_triesFrom_0 : decode cX11_triesFrom 0 = .ok (.aload_n 0, 1) := by decide +kernel
theorem dX11_triesFrom_1 : decode cX11_triesFrom 1 = .ok (.invokevirtual 124, 3) := by decide +kernel
theorem dX11_triesFrom_4 : decode cX11_triesFrom 4 = .ok (.aload_n 0, 1) := by decide +kernel
theorem dX11_triesFrom_5 : decode cX11_triesFrom 5 = .ok (.iload 4, 2) := by decide +kernel
theorem dX11_triesFrom_7 : decode cX11_triesFrom 7 = .ok (.putfield 252, 3) := by decide +kernel
theorem dX11_triesFrom_10 : decode cX11_triesFrom 10 = .ok (.iconst 1, 1) := by decide +kernel
theorem dX11_triesFrom_11 : decode cX11_triesFrom 11 = .ok (.istore 5, 2) := by decide +kernel
theorem dX11_triesFrom_13 : decode cX11_triesFrom 13 = .ok (.iload 5, 2) := by decide +kernel
theorem dX11_triesFrom_15 : decode cX11_triesFrom 15 = .ok (.bipush 24, 2) := by decide +kernel
theorem dX11_triesFrom_17 : decode cX11_triesFrom 17 = .ok (.if_icmp .gt 39, 3) := by decide +kernel
theorem dX11_triesFrom_20 : decode cX11_triesFrom 20 = .ok (.aload_n 0, 1) := by decide +kernel
theorem dX11_triesFrom_21 : decode cX11_triesFrom 21 = .ok (.iload_n 1, 1) := by decide +kernel
theorem dX11_triesFrom_22 : decode cX11_triesFrom 22 = .ok (.iload_n 2, 1) := by decide +kernel
theorem dX11_triesFrom_23 : decode cX11_triesFrom 23 = .ok (.aload_n 0, 1) := by decide +kernel
theorem dX11_triesFrom_24 : decode cX11_triesFrom 24 = .ok (.getfield 252, 3) := by decide +kernel
theorem dX11_triesFrom_27 : decode cX11_triesFrom 27 = .ok (.iload_n 3, 1) := by decide +kernel
theorem dX11_triesFrom_28 : decode cX11_triesFrom 28 = .ok (.invokevirtual 191, 3) := by decide +kernel
theorem dX11_triesFrom_31 : decode cX11_triesFrom 31 = .ok (.ifCond .lt 6, 3) := by decide +kernel
theorem dX11_triesFrom_34 : decode cX11_triesFrom 34 = .ok (.iload 5, 2) := by decide +kernel
theorem dX11_triesFrom_36 : decode cX11_triesFrom 36 = .ok (.ireturn, 1) := by decide +kernel
theorem dX11_triesFrom_37 : decode cX11_triesFrom 37 = .ok (.aload_n 0, 1) := by decide +kernel
theorem dX11_triesFrom_38 : decode cX11_triesFrom 38 = .ok (.aload_n 0, 1) := by decide +kernel
theorem dX11_triesFrom_39 : decode cX11_triesFrom 39 = .ok (.aload_n 0, 1) := by decide +kernel
theorem dX11_triesFrom_40 : decode cX11_triesFrom 40 = .ok (.getfield 252, 3) := by decide +kernel
theorem dX11_triesFrom_43 : decode cX11_triesFrom 43 = .ok (.iload_n 3, 1) := by decide +kernel
theorem dX11_triesFrom_44 : decode cX11_triesFrom 44 = .ok (.invokevirtual 255, 3) := by decide +kernel
theorem dX11_triesFrom_47 : decode cX11_triesFrom 47 = .ok (.putfield 252, 3) := by decide +kernel
theorem dX11_triesFrom_50 : decode cX11_triesFrom 50 = .ok (.iinc 5 1, 3) := by decide +kernel
theorem dX11_triesFrom_53 : decode cX11_triesFrom 53 = .ok (.goto (-40), 3) := by decide +kernel
theorem dX11_triesFrom_56 : decode cX11_triesFrom 56 = .ok (.bipush (-6), 2) := by decide +kernel
theorem dX11_triesFrom_58 : decode cX11_triesFrom 58 = .ok (.ireturn, 1) := by decide +kernel
theorem dX11_areTwo_0 : decode cX11_areTwo 0 = .ok (.aload_n 0, 1) := by decide +kernel
theorem dX11_areTwo_1 : decode cX11_areTwo 1 = .ok (.iload_n 1, 1) := by decide +kernel
theorem dX11_areTwo_2 : decode cX11_areTwo 2 = .ok (.invokevirtual 142, 3) := by decide +kernel
theorem dX11_areTwo_5 : decode cX11_areTwo 5 = .ok (.ifCond .eq 20, 3) := by decide +kernel
theorem dX11_areTwo_8 : decode cX11_areTwo 8 = .ok (.aload_n 0, 1) := by decide +kernel
theorem dX11_areTwo_9 : decode cX11_areTwo 9 = .ok (.iload_n 2, 1) := by decide +kernel
theorem dX11_areTwo_10 : decode cX11_areTwo 10 = .ok (.invokevirtual 142, 3) := by decide +kernel
theorem dX11_areTwo_13 : decode cX11_areTwo 13 = .ok (.ifCond .eq 12, 3) := by decide +kernel
theorem dX11_areTwo_16 : decode cX11_areTwo 16 = .ok (.iload_n 1, 1) := by decide +kernel
theorem dX11_areTwo_17 : decode cX11_areTwo 17 = .ok (.iload_n 2, 1) := by decide +kernel
theorem dX11_areTwo_18 : decode cX11_areTwo 18 = .ok (.if_icmp .eq 7, 3) := by decide +kernel
theorem dX11_areTwo_21 : decode cX11_areTwo 21 = .ok (.iconst 1, 1) := by decide +kernel
theorem dX11_areTwo_22 : decode cX11_areTwo 22 = .ok (.goto 4, 3) := by decide +kernel
theorem dX11_areTwo_25 : decode cX11_areTwo 25 = .ok (.iconst 0, 1) := by decide +kernel
theorem dX11_areTwo_26 : decode cX11_areTwo 26 = .ok (.ireturn, 1) := by decide +kernel
theorem dX11_learns_0 : decode cX11_learns 0 = .ok (.aload_n 0, 1) := by decide +kernel
theorem dX11_learns_1 : decode cX11_learns 1 = .ok (.iload_n 1, 1) := by decide +kernel
theorem dX11_learns_2 : decode cX11_learns 2 = .ok (.iload_n 3, 1) := by decide +kernel
theorem dX11_learns_3 : decode cX11_learns 3 = .ok (.invokevirtual 258, 3) := by decide +kernel
theorem dX11_learns_6 : decode cX11_learns 6 = .ok (.ifCond .ne 5, 3) := by decide +kernel
theorem dX11_learns_9 : decode cX11_learns 9 = .ok (.iconst (-1), 1) := by decide +kernel
theorem dX11_learns_10 : decode cX11_learns 10 = .ok (.ireturn, 1) := by decide +kernel
theorem dX11_learns_11 : decode cX11_learns 11 = .ok (.iload_n 2, 1) := by decide +kernel
theorem dX11_learns_12 : decode cX11_learns 12 = .ok (.i2l, 1) := by decide +kernel
theorem dX11_learns_13 : decode cX11_learns 13 = .ok (.lconst 1, 1) := by decide +kernel
theorem dX11_learns_14 : decode cX11_learns 14 = .ok (.ldc2_w 171, 3) := by decide +kernel
theorem dX11_learns_17 : decode cX11_learns 17 = .ok (.invokestatic 67, 3) := by decide +kernel
theorem dX11_learns_20 : decode cX11_learns 20 = .ok (.ifCond .eq 11, 3) := by decide +kernel
theorem dX11_learns_23 : decode cX11_learns 23 = .ok (.iload 4, 2) := by decide +kernel
theorem dX11_learns_25 : decode cX11_learns 25 = .ok (.invokestatic 121, 3) := by decide +kernel
theorem dX11_learns_28 : decode cX11_learns 28 = .ok (.ifCond .ne 6, 3) := by decide +kernel
theorem dX11_learns_31 : decode cX11_learns 31 = .ok (.bipush (-2), 2) := by decide +kernel
theorem dX11_learns_33 : decode cX11_learns 33 = .ok (.ireturn, 1) := by decide +kernel
theorem dX11_learns_34 : decode cX11_learns 34 = .ok (.aload_n 0, 1) := by decide +kernel
theorem dX11_learns_35 : decode cX11_learns 35 = .ok (.iload_n 1, 1) := by decide +kernel
theorem dX11_learns_36 : decode cX11_learns 36 = .ok (.iload_n 2, 1) := by decide +kernel
theorem dX11_learns_37 : decode cX11_learns 37 = .ok (.iload_n 3, 1) := by decide +kernel
theorem dX11_learns_38 : decode cX11_learns 38 = .ok (.aload_n 0, 1) := by decide +kernel
theorem dX11_learns_39 : decode cX11_learns 39 = .ok (.iload_n 1, 1) := by decide +kernel
theorem dX11_learns_40 : decode cX11_learns 40 = .ok (.iload_n 2, 1) := by decide +kernel
theorem dX11_learns_41 : decode cX11_learns 41 = .ok (.iload_n 3, 1) := by decide +kernel
theorem dX11_learns_42 : decode cX11_learns 42 = .ok (.invokevirtual 261, 3) := by decide +kernel
theorem dX11_learns_45 : decode cX11_learns 45 = .ok (.invokevirtual 264, 3) := by decide +kernel
theorem dX11_learns_48 : decode cX11_learns 48 = .ok (.istore 5, 2) := by decide +kernel
theorem dX11_learns_50 : decode cX11_learns 50 = .ok (.iload 5, 2) := by decide +kernel
theorem dX11_learns_52 : decode cX11_learns 52 = .ok (.ifCond .ge 8, 3) := by decide +kernel
theorem dX11_learns_55 : decode cX11_learns 55 = .ok (.bipush (-6), 2) := by decide +kernel
theorem dX11_learns_57 : decode cX11_learns 57 = .ok (.goto 17, 3) := by decide +kernel
theorem dX11_learns_60 : decode cX11_learns 60 = .ok (.iload 4, 2) := by decide +kernel
theorem dX11_learns_62 : decode cX11_learns 62 = .ok (.ifCond .ne 8, 3) := by decide +kernel
theorem dX11_learns_65 : decode cX11_learns 65 = .ok (.iload 5, 2) := by decide +kernel
theorem dX11_learns_67 : decode cX11_learns 67 = .ok (.goto 7, 3) := by decide +kernel
theorem dX11_learns_70 : decode cX11_learns 70 = .ok (.aload_n 0, 1) := by decide +kernel
theorem dX11_learns_71 : decode cX11_learns 71 = .ok (.getfield 252, 3) := by decide +kernel
theorem dX11_learns_74 : decode cX11_learns 74 = .ok (.ireturn, 1) := by decide +kernel
theorem dX11_along_0 : decode cX11_along 0 = .ok (.aload_n 0, 1) := by decide +kernel
theorem dX11_along_1 : decode cX11_along 1 = .ok (.iload_n 1, 1) := by decide +kernel
theorem dX11_along_2 : decode cX11_along 2 = .ok (.iload_n 3, 1) := by decide +kernel
theorem dX11_along_3 : decode cX11_along 3 = .ok (.invokevirtual 258, 3) := by decide +kernel
theorem dX11_along_6 : decode cX11_along 6 = .ok (.ifCond .ne 5, 3) := by decide +kernel
theorem dX11_along_9 : decode cX11_along 9 = .ok (.iconst (-1), 1) := by decide +kernel
theorem dX11_along_10 : decode cX11_along 10 = .ok (.ireturn, 1) := by decide +kernel
theorem dX11_along_11 : decode cX11_along 11 = .ok (.iload_n 2, 1) := by decide +kernel
theorem dX11_along_12 : decode cX11_along 12 = .ok (.i2l, 1) := by decide +kernel
theorem dX11_along_13 : decode cX11_along 13 = .ok (.lconst 1, 1) := by decide +kernel
theorem dX11_along_14 : decode cX11_along 14 = .ok (.ldc2_w 171, 3) := by decide +kernel
theorem dX11_along_17 : decode cX11_along 17 = .ok (.invokestatic 67, 3) := by decide +kernel
theorem dX11_along_20 : decode cX11_along 20 = .ok (.ifCond .eq 16, 3) := by decide +kernel
theorem dX11_along_23 : decode cX11_along 23 = .ok (.iload 4, 2) := by decide +kernel
theorem dX11_along_25 : decode cX11_along 25 = .ok (.i2l, 1) := by decide +kernel
theorem dX11_along_26 : decode cX11_along 26 = .ok (.lconst 0, 1) := by decide +kernel
theorem dX11_along_27 : decode cX11_along 27 = .ok (.ldc2_w 267, 3) := by decide +kernel
theorem dX11_along_30 : decode cX11_along 30 = .ok (.invokestatic 67, 3) := by decide +kernel
theorem dX11_along_33 : decode cX11_along 33 = .ok (.ifCond .ne 6, 3) := by decide +kernel
theorem dX11_along_36 : decode cX11_along 36 = .ok (.bipush (-2), 2) := by decide +kernel
theorem dX11_along_38 : decode cX11_along 38 = .ok (.ireturn, 1) := by decide +kernel
theorem dX11_along_39 : decode cX11_along 39 = .ok (.aload_n 0, 1) := by decide +kernel
theorem dX11_along_40 : decode cX11_along 40 = .ok (.iload_n 1, 1) := by decide +kernel
theorem dX11_along_41 : decode cX11_along 41 = .ok (.iload_n 2, 1) := by decide +kernel
theorem dX11_along_42 : decode cX11_along 42 = .ok (.iload_n 3, 1) := by decide +kernel
theorem dX11_along_43 : decode cX11_along 43 = .ok (.aload_n 0, 1) := by decide +kernel
theorem dX11_along_44 : decode cX11_along 44 = .ok (.iload_n 1, 1) := by decide +kernel
theorem dX11_along_45 : decode cX11_along 45 = .ok (.iload_n 2, 1) := by decide +kernel
theorem dX11_along_46 : decode cX11_along 46 = .ok (.iload_n 3, 1) := by decide +kernel
theorem dX11_along_47 : decode cX11_along 47 = .ok (.invokevirtual 261, 3) := by decide +kernel
theorem dX11_along_50 : decode cX11_along 50 = .ok (.invokevirtual 264, 3) := by decide +kernel
theorem dX11_along_53 : decode cX11_along 53 = .ok (.ifCond .ge 6, 3) := by decide +kernel
theorem dX11_along_56 : decode cX11_along 56 = .ok (.bipush (-6), 2) := by decide +kernel
theorem dX11_along_58 : decode cX11_along 58 = .ok (.ireturn, 1) := by decide +kernel
theorem dX11_along_59 : decode cX11_along 59 = .ok (.aload_n 0, 1) := by decide +kernel
theorem dX11_along_60 : decode cX11_along 60 = .ok (.getfield 13, 3) := by decide +kernel
theorem dX11_along_63 : decode cX11_along 63 = .ok (.iconst 0, 1) := by decide +kernel
theorem dX11_along_64 : decode cX11_along 64 = .ok (.iaload, 1) := by decide +kernel
theorem dX11_along_65 : decode cX11_along 65 = .ok (.istore 5, 2) := by decide +kernel
theorem dX11_along_67 : decode cX11_along 67 = .ok (.aload_n 0, 1) := by decide +kernel
theorem dX11_along_68 : decode cX11_along 68 = .ok (.getfield 13, 3) := by decide +kernel
theorem dX11_along_71 : decode cX11_along 71 = .ok (.iconst 0, 1) := by decide +kernel
theorem dX11_along_72 : decode cX11_along 72 = .ok (.iload 4, 2) := by decide +kernel
theorem dX11_along_74 : decode cX11_along 74 = .ok (.bipush 99, 2) := by decide +kernel
theorem dX11_along_76 : decode cX11_along 76 = .ok (.isub, 1) := by decide +kernel
theorem dX11_along_77 : decode cX11_along 77 = .ok (.iastore, 1) := by decide +kernel
theorem dX11_along_78 : decode cX11_along 78 = .ok (.aload_n 0, 1) := by decide +kernel
theorem dX11_along_79 : decode cX11_along 79 = .ok (.iload_n 1, 1) := by decide +kernel
theorem dX11_along_80 : decode cX11_along 80 = .ok (.iload_n 2, 1) := by decide +kernel
theorem dX11_along_81 : decode cX11_along 81 = .ok (.iload_n 3, 1) := by decide +kernel
theorem dX11_along_82 : decode cX11_along 82 = .ok (.aload_n 0, 1) := by decide +kernel
theorem dX11_along_83 : decode cX11_along 83 = .ok (.getfield 252, 3) := by decide +kernel
theorem dX11_along_86 : decode cX11_along 86 = .ok (.invokevirtual 264, 3) := by decide +kernel
theorem dX11_along_89 : decode cX11_along 89 = .ok (.istore 6, 2) := by decide +kernel
theorem dX11_along_91 : decode cX11_along 91 = .ok (.aload_n 0, 1) := by decide +kernel
theorem dX11_along_92 : decode cX11_along 92 = .ok (.getfield 13, 3) := by decide +kernel
theorem dX11_along_95 : decode cX11_along 95 = .ok (.iconst 0, 1) := by decide +kernel
theorem dX11_along_96 : decode cX11_along 96 = .ok (.iload 5, 2) := by decide +kernel
theorem dX11_along_98 : decode cX11_along 98 = .ok (.iastore, 1) := by decide +kernel
theorem dX11_along_99 : decode cX11_along 99 = .ok (.iload 6, 2) := by decide +kernel
theorem dX11_along_101 : decode cX11_along 101 = .ok (.ireturn, 1) := by decide +kernel
theorem dX11_pass_0 : decode cX11_pass 0 = .ok (.aload_n 0, 1) := by decide +kernel
theorem dX11_pass_1 : decode cX11_pass 1 = .ok (.getfield 269, 3) := by decide +kernel
theorem dX11_pass_4 : decode cX11_pass 4 = .ok (.ifCond .eq 7, 3) := by decide +kernel
theorem dX11_pass_7 : decode cX11_pass 7 = .ok (.iload_n 1, 1) := by decide +kernel
theorem dX11_pass_8 : decode cX11_pass 8 = .ok (.goto 12, 3) := by decide +kernel
theorem dX11_pass_11 : decode cX11_pass 11 = .ok (.aload_n 0, 1) := by decide +kernel
theorem dX11_pass_12 : decode cX11_pass 12 = .ok (.getfield 59, 3) := by decide +kernel
theorem dX11_pass_15 : decode cX11_pass 15 = .ok (.aload_n 0, 1) := by decide +kernel
theorem dX11_pass_16 : decode cX11_pass 16 = .ok (.getfield 273, 3) := by decide +kernel
theorem dX11_pass_19 : decode cX11_pass 19 = .ok (.iaload, 1) := by decide +kernel
theorem dX11_pass_20 : decode cX11_pass 20 = .ok (.istore_n 2, 1) := by decide +kernel
theorem dX11_pass_21 : decode cX11_pass 21 = .ok (.aload_n 0, 1) := by decide +kernel
theorem dX11_pass_22 : decode cX11_pass 22 = .ok (.getfield 59, 3) := by decide +kernel
theorem dX11_pass_25 : decode cX11_pass 25 = .ok (.aload_n 0, 1) := by decide +kernel
theorem dX11_pass_26 : decode cX11_pass 26 = .ok (.getfield 273, 3) := by decide +kernel
theorem dX11_pass_29 : decode cX11_pass 29 = .ok (.iload_n 2, 1) := by decide +kernel
theorem dX11_pass_30 : decode cX11_pass 30 = .ok (.iastore, 1) := by decide +kernel
theorem dX11_pass_31 : decode cX11_pass 31 = .ok (.aload_n 0, 1) := by decide +kernel
theorem dX11_pass_32 : decode cX11_pass 32 = .ok (.dup, 1) := by decide +kernel
theorem dX11_pass_33 : decode cX11_pass 33 = .ok (.getfield 273, 3) := by decide +kernel
theorem dX11_pass_36 : decode cX11_pass 36 = .ok (.iconst 1, 1) := by decide +kernel
theorem dX11_pass_37 : decode cX11_pass 37 = .ok (.iadd, 1) := by decide +kernel
theorem dX11_pass_38 : decode cX11_pass 38 = .ok (.putfield 273, 3) := by decide +kernel
theorem dX11_pass_41 : decode cX11_pass 41 = .ok (.iload_n 2, 1) := by decide +kernel
theorem dX11_pass_42 : decode cX11_pass 42 = .ok (.ireturn, 1) := by decide +kernel
theorem dX11_passAll_0 : decode cX11_passAll 0 = .ok (.aload_n 0, 1) := by decide +kernel
theorem dX11_passAll_1 : decode cX11_passAll 1 = .ok (.aload_n 0, 1) := by decide +kernel
theorem dX11_passAll_2 : decode cX11_passAll 2 = .ok (.aload_n 0, 1) := by decide +kernel
theorem dX11_passAll_3 : decode cX11_passAll 3 = .ok (.getfield 109, 3) := by decide +kernel
theorem dX11_passAll_6 : decode cX11_passAll 6 = .ok (.invokevirtual 276, 3) := by decide +kernel
theorem dX11_passAll_9 : decode cX11_passAll 9 = .ok (.putfield 109, 3) := by decide +kernel
theorem dX11_passAll_12 : decode cX11_passAll 12 = .ok (.aload_n 0, 1) := by decide +kernel
theorem dX11_passAll_13 : decode cX11_passAll 13 = .ok (.aload_n 0, 1) := by decide +kernel
theorem dX11_passAll_14 : decode cX11_passAll 14 = .ok (.aload_n 0, 1) := by decide +kernel
theorem dX11_passAll_15 : decode cX11_passAll 15 = .ok (.getfield 112, 3) := by decide +kernel
theorem dX11_passAll_18 : decode cX11_passAll 18 = .ok (.invokevirtual 276, 3) := by decide +kernel
theorem dX11_passAll_21 : decode cX11_passAll 21 = .ok (.putfield 112, 3) := by decide +kernel
theorem dX11_passAll_24 : decode cX11_passAll 24 = .ok (.aload_n 0, 1) := by decide +kernel
theorem dX11_passAll_25 : decode cX11_passAll 25 = .ok (.aload_n 0, 1) := by decide +kernel
theorem dX11_passAll_26 : decode cX11_passAll 26 = .ok (.aload_n 0, 1) := by decide +kernel
theorem dX11_passAll_27 : decode cX11_passAll 27 = .ok (.getfield 132, 3) := by decide +kernel
theorem dX11_passAll_30 : decode cX11_passAll 30 = .ok (.invokevirtual 276, 3) := by decide +kernel
theorem dX11_passAll_33 : decode cX11_passAll 33 = .ok (.putfield 132, 3) := by decide +kernel
theorem dX11_passAll_36 : decode cX11_passAll 36 = .ok (.aload_n 0, 1) := by decide +kernel
theorem dX11_passAll_37 : decode cX11_passAll 37 = .ok (.aload_n 0, 1) := by decide +kernel
theorem dX11_passAll_38 : decode cX11_passAll 38 = .ok (.aload_n 0, 1) := by decide +kernel
theorem dX11_passAll_39 : decode cX11_passAll 39 = .ok (.getfield 240, 3) := by decide +kernel
theorem dX11_passAll_42 : decode cX11_passAll 42 = .ok (.invokevirtual 276, 3) := by decide +kernel
theorem dX11_passAll_45 : decode cX11_passAll 45 = .ok (.putfield 240, 3) := by decide +kernel
theorem dX11_passAll_48 : decode cX11_passAll 48 = .ok (.iconst 0, 1) := by decide +kernel
theorem dX11_passAll_49 : decode cX11_passAll 49 = .ok (.istore_n 1, 1) := by decide +kernel
theorem dX11_passAll_50 : decode cX11_passAll 50 = .ok (.iload_n 1, 1) := by decide +kernel
theorem dX11_passAll_51 : decode cX11_passAll 51 = .ok (.iconst 5, 1) := by decide +kernel
theorem dX11_passAll_52 : decode cX11_passAll 52 = .ok (.if_icmp .ge 25, 3) := by decide +kernel
theorem dX11_passAll_55 : decode cX11_passAll 55 = .ok (.aload_n 0, 1) := by decide +kernel
theorem dX11_passAll_56 : decode cX11_passAll 56 = .ok (.getfield 13, 3) := by decide +kernel
theorem dX11_passAll_59 : decode cX11_passAll 59 = .ok (.iload_n 1, 1) := by decide +kernel
theorem dX11_passAll_60 : decode cX11_passAll 60 = .ok (.aload_n 0, 1) := by decide +kernel
theorem dX11_passAll_61 : decode cX11_passAll 61 = .ok (.aload_n 0, 1) := by decide +kernel
theorem dX11_passAll_62 : decode cX11_passAll 62 = .ok (.getfield 13, 3) := by decide +kernel
theorem dX11_passAll_65 : decode cX11_passAll 65 = .ok (.iload_n 1, 1) := by decide +kernel
theorem dX11_passAll_66 : decode cX11_passAll 66 = .ok (.iaload, 1) := by decide +kernel
theorem dX11_passAll_67 : decode cX11_passAll 67 = .ok (.invokevirtual 276, 3) := by decide +kernel
theorem dX11_passAll_70 : decode cX11_passAll 70 = .ok (.iastore, 1) := by decide +kernel
theorem dX11_passAll_71 : decode cX11_passAll 71 = .ok (.iinc 1 1, 3) := by decide +kernel
theorem dX11_passAll_74 : decode cX11_passAll 74 = .ok (.goto (-24), 3) := by decide +kernel
theorem dX11_passAll_77 : decode cX11_passAll 77 = .ok (.iconst 0, 1) := by decide +kernel
theorem dX11_passAll_78 : decode cX11_passAll 78 = .ok (.istore_n 1, 1) := by decide +kernel
theorem dX11_passAll_79 : decode cX11_passAll 79 = .ok (.iload_n 1, 1) := by decide +kernel
theorem dX11_passAll_80 : decode cX11_passAll 80 = .ok (.bipush 20, 2) := by decide +kernel
theorem dX11_passAll_82 : decode cX11_passAll 82 = .ok (.if_icmp .ge 41, 3) := by decide +kernel
theorem dX11_passAll_85 : decode cX11_passAll 85 = .ok (.aload_n 0, 1) := by decide +kernel
theorem dX11_passAll_86 : decode cX11_passAll 86 = .ok (.getfield 25, 3) := by decide +kernel
theorem dX11_passAll_89 : decode cX11_passAll 89 = .ok (.iload_n 1, 1) := by decide +kernel
theorem dX11_passAll_90 : decode cX11_passAll 90 = .ok (.aload_n 0, 1) := by decide +kernel
theorem dX11_passAll_91 : decode cX11_passAll 91 = .ok (.aload_n 0, 1) := by decide +kernel
theorem dX11_passAll_92 : decode cX11_passAll 92 = .ok (.getfield 25, 3) := by decide +kernel
theorem dX11_passAll_95 : decode cX11_passAll 95 = .ok (.iload_n 1, 1) := by decide +kernel
theorem dX11_passAll_96 : decode cX11_passAll 96 = .ok (.iaload, 1) := by decide +kernel
theorem dX11_passAll_97 : decode cX11_passAll 97 = .ok (.invokevirtual 276, 3) := by decide +kernel
theorem dX11_passAll_100 : decode cX11_passAll 100 = .ok (.iastore, 1) := by decide +kernel
theorem dX11_passAll_101 : decode cX11_passAll 101 = .ok (.aload_n 0, 1) := by decide +kernel
theorem dX11_passAll_102 : decode cX11_passAll 102 = .ok (.getfield 28, 3) := by decide +kernel
theorem dX11_passAll_105 : decode cX11_passAll 105 = .ok (.iload_n 1, 1) := by decide +kernel
theorem dX11_passAll_106 : decode cX11_passAll 106 = .ok (.aload_n 0, 1) := by decide +kernel
theorem dX11_passAll_107 : decode cX11_passAll 107 = .ok (.aload_n 0, 1) := by decide +kernel
theorem dX11_passAll_108 : decode cX11_passAll 108 = .ok (.getfield 28, 3) := by decide +kernel
theorem dX11_passAll_111 : decode cX11_passAll 111 = .ok (.iload_n 1, 1) := by decide +kernel
theorem dX11_passAll_112 : decode cX11_passAll 112 = .ok (.iaload, 1) := by decide +kernel
theorem dX11_passAll_113 : decode cX11_passAll 113 = .ok (.invokevirtual 276, 3) := by decide +kernel
theorem dX11_passAll_116 : decode cX11_passAll 116 = .ok (.iastore, 1) := by decide +kernel
theorem dX11_passAll_117 : decode cX11_passAll 117 = .ok (.iinc 1 1, 3) := by decide +kernel
theorem dX11_passAll_120 : decode cX11_passAll 120 = .ok (.goto (-41), 3) := by decide +kernel
theorem dX11_passAll_123 : decode cX11_passAll 123 = .ok (.iconst 0, 1) := by decide +kernel
theorem dX11_passAll_124 : decode cX11_passAll 124 = .ok (.istore_n 1, 1) := by decide +kernel
theorem dX11_passAll_125 : decode cX11_passAll 125 = .ok (.iload_n 1, 1) := by decide +kernel
theorem dX11_passAll_126 : decode cX11_passAll 126 = .ok (.bipush 8, 2) := by decide +kernel
theorem dX11_passAll_128 : decode cX11_passAll 128 = .ok (.if_icmp .ge 41, 3) := by decide +kernel
theorem dX11_passAll_131 : decode cX11_passAll 131 = .ok (.aload_n 0, 1) := by decide +kernel
theorem dX11_passAll_132 : decode cX11_passAll 132 = .ok (.getfield 31, 3) := by decide +kernel
theorem dX11_passAll_135 : decode cX11_passAll 135 = .ok (.iload_n 1, 1) := by decide +kernel
theorem dX11_passAll_136 : decode cX11_passAll 136 = .ok (.aload_n 0, 1) := by decide +kernel
theorem dX11_passAll_137 : decode cX11_passAll 137 = .ok (.aload_n 0, 1) := by decide +kernel
theorem dX11_passAll_138 : decode cX11_passAll 138 = .ok (.getfield 31, 3) := by decide +kernel
theorem dX11_passAll_141 : decode cX11_passAll 141 = .ok (.iload_n 1, 1) := by decide +kernel
theorem dX11_passAll_142 : decode cX11_passAll 142 = .ok (.iaload, 1) := by decide +kernel
theorem dX11_passAll_143 : decode cX11_passAll 143 = .ok (.invokevirtual 276, 3) := by decide +kernel
theorem dX11_passAll_146 : decode cX11_passAll 146 = .ok (.iastore, 1) := by decide +kernel
theorem dX11_passAll_147 : decode cX11_passAll 147 = .ok (.aload_n 0, 1) := by decide +kernel
theorem dX11_passAll_148 : decode cX11_passAll 148 = .ok (.getfield 34, 3) := by decide +kernel
theorem dX11_passAll_151 : decode cX11_passAll 151 = .ok (.iload_n 1, 1) := by decide +kernel
theorem dX11_passAll_152 : decode cX11_passAll 152 = .ok (.aload_n 0, 1) := by decide +kernel
theorem dX11_passAll_153 : decode cX11_passAll 153 = .ok (.aload_n 0, 1) := by decide +kernel
theorem dX11_passAll_154 : decode cX11_passAll 154 = .ok (.getfield 34, 3) := by decide +kernel
theorem dX11_passAll_157 : decode cX11_passAll 157 = .ok (.iload_n 1, 1) := by decide +kernel
theorem dX11_passAll_158 : decode cX11_passAll 158 = .ok (.iaload, 1) := by decide +kernel
theorem dX11_passAll_159 : decode cX11_passAll 159 = .ok (.invokevirtual 276, 3) := by decide +kernel
theorem dX11_passAll_162 : decode cX11_passAll 162 = .ok (.iastore, 1) := by decide +kernel
theorem dX11_passAll_163 : decode cX11_passAll 163 = .ok (.iinc 1 1, 3) := by decide +kernel
theorem dX11_passAll_166 : decode cX11_passAll 166 = .ok (.goto (-41), 3) := by decide +kernel
theorem dX11_passAll_169 : decode cX11_passAll 169 = .ok (.iconst 0, 1) := by decide +kernel
theorem dX11_passAll_170 : decode cX11_passAll 170 = .ok (.istore_n 1, 1) := by decide +kernel
theorem dX11_passAll_171 : decode cX11_passAll 171 = .ok (.iload_n 1, 1) := by decide +kernel
theorem dX11_passAll_172 : decode cX11_passAll 172 = .ok (.bipush 24, 2) := by decide +kernel
theorem dX11_passAll_174 : decode cX11_passAll 174 = .ok (.if_icmp .ge 41, 3) := by decide +kernel
theorem dX11_passAll_177 : decode cX11_passAll 177 = .ok (.aload_n 0, 1) := by decide +kernel
theorem dX11_passAll_178 : decode cX11_passAll 178 = .ok (.getfield 47, 3) := by decide +kernel
theorem dX11_passAll_181 : decode cX11_passAll 181 = .ok (.iload_n 1, 1) := by decide +kernel
theorem dX11_passAll_182 : decode cX11_passAll 182 = .ok (.aload_n 0, 1) := by decide +kernel
theorem dX11_passAll_183 : decode cX11_passAll 183 = .ok (.aload_n 0, 1) := by decide +kernel
theorem dX11_passAll_184 : decode cX11_passAll 184 = .ok (.getfield 47, 3) := by decide +kernel
theorem dX11_passAll_187 : decode cX11_passAll 187 = .ok (.iload_n 1, 1) := by decide +kernel
theorem dX11_passAll_188 : decode cX11_passAll 188 = .ok (.iaload, 1) := by decide +kernel
theorem dX11_passAll_189 : decode cX11_passAll 189 = .ok (.invokevirtual 276, 3) := by decide +kernel
theorem dX11_passAll_192 : decode cX11_passAll 192 = .ok (.iastore, 1) := by decide +kernel
theorem dX11_passAll_193 : decode cX11_passAll 193 = .ok (.aload_n 0, 1) := by decide +kernel
theorem dX11_passAll_194 : decode cX11_passAll 194 = .ok (.getfield 50, 3) := by decide +kernel
theorem dX11_passAll_197 : decode cX11_passAll 197 = .ok (.iload_n 1, 1) := by decide +kernel
theorem dX11_passAll_198 : decode cX11_passAll 198 = .ok (.aload_n 0, 1) := by decide +kernel
theorem dX11_passAll_199 : decode cX11_passAll 199 = .ok (.aload_n 0, 1) := by decide +kernel
theorem dX11_passAll_200 : decode cX11_passAll 200 = .ok (.getfield 50, 3) := by decide +kernel
theorem dX11_passAll_203 : decode cX11_passAll 203 = .ok (.iload_n 1, 1) := by decide +kernel
theorem dX11_passAll_204 : decode cX11_passAll 204 = .ok (.iaload, 1) := by decide +kernel
theorem dX11_passAll_205 : decode cX11_passAll 205 = .ok (.invokevirtual 276, 3) := by decide +kernel
theorem dX11_passAll_208 : decode cX11_passAll 208 = .ok (.iastore, 1) := by decide +kernel
theorem dX11_passAll_209 : decode cX11_passAll 209 = .ok (.iinc 1 1, 3) := by decide +kernel
theorem dX11_passAll_212 : decode cX11_passAll 212 = .ok (.goto (-41), 3) := by decide +kernel
theorem dX11_passAll_215 : decode cX11_passAll 215 = .ok (.return_, 1) := by decide +kernel
theorem dX11_image_0 : decode cX11_image 0 = .ok (.iload_n 1, 1) := by decide +kernel
theorem dX11_image_1 : decode cX11_image 1 = .ok (.invokestatic 121, 3) := by decide +kernel
theorem dX11_image_4 : decode cX11_image 4 = .ok (.ifCond .ne 6, 3) := by decide +kernel
theorem dX11_image_7 : decode cX11_image 7 = .ok (.bipush (-2), 2) := by decide +kernel
theorem dX11_image_9 : decode cX11_image 9 = .ok (.ireturn, 1) := by decide +kernel
theorem dX11_image_10 : decode cX11_image 10 = .ok (.aload_n 0, 1) := by decide +kernel
theorem dX11_image_11 : decode cX11_image 11 = .ok (.sipush 140, 3) := by decide +kernel
theorem dX11_image_14 : decode cX11_image 14 = .ok (.iload_n 1, 1) := by decide +kernel
theorem dX11_image_15 : decode cX11_image 15 = .ok (.imul, 1) := by decide +kernel
theorem dX11_image_16 : decode cX11_image 16 = .ok (.putfield 273, 3) := by decide +kernel
theorem dX11_image_19 : decode cX11_image 19 = .ok (.aload_n 0, 1) := by decide +kernel
theorem dX11_image_20 : decode cX11_image 20 = .ok (.iconst 1, 1) := by decide +kernel
theorem dX11_image_21 : decode cX11_image 21 = .ok (.putfield 269, 3) := by decide +kernel
theorem dX11_image_24 : decode cX11_image 24 = .ok (.aload_n 0, 1) := by decide +kernel
theorem dX11_image_25 : decode cX11_image 25 = .ok (.invokevirtual 279, 3) := by decide +kernel
theorem dX11_image_28 : decode cX11_image 28 = .ok (.aload_n 0, 1) := by decide +kernel
theorem dX11_image_29 : decode cX11_image 29 = .ok (.getfield 62, 3) := by decide +kernel
theorem dX11_image_32 : decode cX11_image 32 = .ok (.iload_n 1, 1) := by decide +kernel
theorem dX11_image_33 : decode cX11_image 33 = .ok (.iconst 1, 1) := by decide +kernel
theorem dX11_image_34 : decode cX11_image 34 = .ok (.bastore, 1) := by decide +kernel
theorem dX11_image_35 : decode cX11_image 35 = .ok (.iconst 1, 1) := by decide +kernel
theorem dX11_image_36 : decode cX11_image 36 = .ok (.ireturn, 1) := by decide +kernel
theorem dX11_restore_0 : decode cX11_restore 0 = .ok (.iload_n 1, 1) := by decide +kernel
theorem dX11_restore_1 : decode cX11_restore 1 = .ok (.invokestatic 121, 3) := by decide +kernel
theorem dX11_restore_4 : decode cX11_restore 4 = .ok (.ifCond .ne 6, 3) := by decide +kernel
theorem dX11_restore_7 : decode cX11_restore 7 = .ok (.bipush (-2), 2) := by decide +kernel
theorem dX11_restore_9 : decode cX11_restore 9 = .ok (.ireturn, 1) := by decide +kernel
theorem dX11_restore_10 : decode cX11_restore 10 = .ok (.aload_n 0, 1) := by decide +kernel
theorem dX11_restore_11 : decode cX11_restore 11 = .ok (.getfield 62, 3) := by decide +kernel
theorem dX11_restore_14 : decode cX11_restore 14 = .ok (.iload_n 1, 1) := by decide +kernel
theorem dX11_restore_15 : decode cX11_restore 15 = .ok (.baload, 1) := by decide +kernel
theorem dX11_restore_16 : decode cX11_restore 16 = .ok (.ifCond .ne 6, 3) := by decide +kernel
theorem dX11_restore_19 : decode cX11_restore 19 = .ok (.bipush (-3), 2) := by decide +kernel
theorem dX11_restore_21 : decode cX11_restore 21 = .ok (.ireturn, 1) := by decide +kernel
theorem dX11_restore_22 : decode cX11_restore 22 = .ok (.aload_n 0, 1) := by decide +kernel
theorem dX11_restore_23 : decode cX11_restore 23 = .ok (.sipush 140, 3) := by decide +kernel
theorem dX11_restore_26 : decode cX11_restore 26 = .ok (.iload_n 1, 1) := by decide +kernel
theorem dX11_restore_27 : decode cX11_restore 27 = .ok (.imul, 1) := by decide +kernel
theorem dX11_restore_28 : decode cX11_restore 28 = .ok (.putfield 273, 3) := by decide +kernel
theorem dX11_restore_31 : decode cX11_restore 31 = .ok (.aload_n 0, 1) := by decide +kernel
theorem dX11_restore_32 : decode cX11_restore 32 = .ok (.iconst 0, 1) := by decide +kernel
theorem dX11_restore_33 : decode cX11_restore 33 = .ok (.putfield 269, 3) := by decide +kernel
theorem dX11_restore_36 : decode cX11_restore 36 = .ok (.aload_n 0, 1) := by decide +kernel
theorem dX11_restore_37 : decode cX11_restore 37 = .ok (.invokevirtual 279, 3) := by decide +kernel
theorem dX11_restore_40 : decode cX11_restore 40 = .ok (.iconst 1, 1) := by decide +kernel
theorem dX11_restore_41 : decode cX11_restore 41 = .ok (.ireturn, 1) := by decide +kernel
theorem dX11_told_0 : decode cX11_told 0 = .ok (.iload_n 1, 1) := by decide +kernel
theorem dX11_told_1 : decode cX11_told 1 = .ok (.i2l, 1) := by decide +kernel
theorem dX11_told_2 : decode cX11_told 2 = .ok (.ldc2_w 82, 3) := by decide +kernel
theorem dX11_told_5 : decode cX11_told 5 = .ok (.ldc2_w 282, 3) := by decide +kernel
theorem dX11_told_8 : decode cX11_told 8 = .ok (.invokestatic 67, 3) := by decide +kernel
theorem dX11_told_11 : decode cX11_told 11 = .ok (.ifCond .eq 11, 3) := by decide +kernel
theorem dX11_told_14 : decode cX11_told 14 = .ok (.aload_n 0, 1) := by decide +kernel
theorem dX11_told_15 : decode cX11_told 15 = .ok (.iload_n 1, 1) := by decide +kernel
theorem dX11_told_16 : decode cX11_told 16 = .ok (.iconst 4, 1) := by decide +kernel
theorem dX11_told_17 : decode cX11_told 17 = .ok (.isub, 1) := by decide +kernel
theorem dX11_told_18 : decode cX11_told 18 = .ok (.invokevirtual 84, 3) := by decide +kernel
theorem dX11_told_21 : decode cX11_told 21 = .ok (.ireturn, 1) := by decide +kernel
theorem dX11_told_22 : decode cX11_told 22 = .ok (.iload_n 1, 1) := by decide +kernel
theorem dX11_told_23 : decode cX11_told 23 = .ok (.tableswitch 49 0 3 #[29, 34, 39, 44], 29) := by decide +kernel
theorem dX11_told_52 : decode cX11_told 52 = .ok (.aload_n 0, 1) := by decide +kernel
theorem dX11_told_53 : decode cX11_told 53 = .ok (.getfield 92, 3) := by decide +kernel
theorem dX11_told_56 : decode cX11_told 56 = .ok (.ireturn, 1) := by decide +kernel
theorem dX11_told_57 : decode cX11_told 57 = .ok (.aload_n 0, 1) := by decide +kernel
theorem dX11_told_58 : decode cX11_told 58 = .ok (.getfield 112, 3) := by decide +kernel
theorem dX11_told_61 : decode cX11_told 61 = .ok (.ireturn, 1) := by decide +kernel
theorem dX11_told_62 : decode cX11_told 62 = .ok (.aload_n 0, 1) := by decide +kernel
theorem dX11_told_63 : decode cX11_told 63 = .ok (.getfield 132, 3) := by decide +kernel
theorem dX11_told_66 : decode cX11_told 66 = .ok (.ireturn, 1) := by decide +kernel
theorem dX11_told_67 : decode cX11_told 67 = .ok (.aload_n 0, 1) := by decide +kernel
theorem dX11_told_68 : decode cX11_told 68 = .ok (.getfield 240, 3) := by decide +kernel
theorem dX11_told_71 : decode cX11_told 71 = .ok (.ireturn, 1) := by decide +kernel
theorem dX11_told_72 : decode cX11_told 72 = .ok (.bipush (-2), 2) := by decide +kernel
theorem dX11_told_74 : decode cX11_told 74 = .ok (.ireturn, 1) := by decide +kernel
theorem dJ6_bitCount_0f7a4_0 : decode cJ6_bitCount_0f7a4 0 = .ok (.iload_n 0, 1) := by decide +kernel
theorem dJ6_bitCount_0f7a4_1 : decode cJ6_bitCount_0f7a4 1 = .ok (.iload_n 0, 1) := by decide +kernel
theorem dJ6_bitCount_0f7a4_2 : decode cJ6_bitCount_0f7a4 2 = .ok (.iconst 1, 1) := by decide +kernel
theorem dJ6_bitCount_0f7a4_3 : decode cJ6_bitCount_0f7a4 3 = .ok (.iushr, 1) := by decide +kernel
theorem dJ6_bitCount_0f7a4_4 : decode cJ6_bitCount_0f7a4 4 = .ok (.ldc_w 265, 3) := by decide +kernel
theorem dJ6_bitCount_0f7a4_7 : decode cJ6_bitCount_0f7a4 7 = .ok (.iand, 1) := by decide +kernel
theorem dJ6_bitCount_0f7a4_8 : decode cJ6_bitCount_0f7a4 8 = .ok (.isub, 1) := by decide +kernel
theorem dJ6_bitCount_0f7a4_9 : decode cJ6_bitCount_0f7a4 9 = .ok (.istore_n 0, 1) := by decide +kernel
theorem dJ6_bitCount_0f7a4_10 : decode cJ6_bitCount_0f7a4 10 = .ok (.iload_n 0, 1) := by decide +kernel
theorem dJ6_bitCount_0f7a4_11 : decode cJ6_bitCount_0f7a4 11 = .ok (.ldc_w 266, 3) := by decide +kernel
theorem dJ6_bitCount_0f7a4_14 : decode cJ6_bitCount_0f7a4 14 = .ok (.iand, 1) := by decide +kernel
theorem dJ6_bitCount_0f7a4_15 : decode cJ6_bitCount_0f7a4 15 = .ok (.iload_n 0, 1) := by decide +kernel
theorem dJ6_bitCount_0f7a4_16 : decode cJ6_bitCount_0f7a4 16 = .ok (.iconst 2, 1) := by decide +kernel
theorem dJ6_bitCount_0f7a4_17 : decode cJ6_bitCount_0f7a4 17 = .ok (.iushr, 1) := by decide +kernel
theorem dJ6_bitCount_0f7a4_18 : decode cJ6_bitCount_0f7a4 18 = .ok (.ldc_w 266, 3) := by decide +kernel
theorem dJ6_bitCount_0f7a4_21 : decode cJ6_bitCount_0f7a4 21 = .ok (.iand, 1) := by decide +kernel
theorem dJ6_bitCount_0f7a4_22 : decode cJ6_bitCount_0f7a4 22 = .ok (.iadd, 1) := by decide +kernel
theorem dJ6_bitCount_0f7a4_23 : decode cJ6_bitCount_0f7a4 23 = .ok (.istore_n 0, 1) := by decide +kernel
theorem dJ6_bitCount_0f7a4_24 : decode cJ6_bitCount_0f7a4 24 = .ok (.iload_n 0, 1) := by decide +kernel
theorem dJ6_bitCount_0f7a4_25 : decode cJ6_bitCount_0f7a4 25 = .ok (.iload_n 0, 1) := by decide +kernel
theorem dJ6_bitCount_0f7a4_26 : decode cJ6_bitCount_0f7a4 26 = .ok (.iconst 4, 1) := by decide +kernel
theorem dJ6_bitCount_0f7a4_27 : decode cJ6_bitCount_0f7a4 27 = .ok (.iushr, 1) := by decide +kernel
theorem dJ6_bitCount_0f7a4_28 : decode cJ6_bitCount_0f7a4 28 = .ok (.iadd, 1) := by decide +kernel
theorem dJ6_bitCount_0f7a4_29 : decode cJ6_bitCount_0f7a4 29 = .ok (.ldc_w 267, 3) := by decide +kernel
theorem dJ6_bitCount_0f7a4_32 : decode cJ6_bitCount_0f7a4 32 = .ok (.iand, 1) := by decide +kernel
theorem dJ6_bitCount_0f7a4_33 : decode cJ6_bitCount_0f7a4 33 = .ok (.istore_n 0, 1) := by decide +kernel
theorem dJ6_bitCount_0f7a4_34 : decode cJ6_bitCount_0f7a4 34 = .ok (.iload_n 0, 1) := by decide +kernel
theorem dJ6_bitCount_0f7a4_35 : decode cJ6_bitCount_0f7a4 35 = .ok (.iload_n 0, 1) := by decide +kernel
theorem dJ6_bitCount_0f7a4_36 : decode cJ6_bitCount_0f7a4 36 = .ok (.bipush 8, 2) := by decide +kernel
theorem dJ6_bitCount_0f7a4_38 : decode cJ6_bitCount_0f7a4 38 = .ok (.iushr, 1) := by decide +kernel
theorem dJ6_bitCount_0f7a4_39 : decode cJ6_bitCount_0f7a4 39 = .ok (.iadd, 1) := by decide +kernel
theorem dJ6_bitCount_0f7a4_40 : decode cJ6_bitCount_0f7a4 40 = .ok (.istore_n 0, 1) := by decide +kernel
theorem dJ6_bitCount_0f7a4_41 : decode cJ6_bitCount_0f7a4 41 = .ok (.iload_n 0, 1) := by decide +kernel
theorem dJ6_bitCount_0f7a4_42 : decode cJ6_bitCount_0f7a4 42 = .ok (.iload_n 0, 1) := by decide +kernel
theorem dJ6_bitCount_0f7a4_43 : decode cJ6_bitCount_0f7a4 43 = .ok (.bipush 16, 2) := by decide +kernel
theorem dJ6_bitCount_0f7a4_45 : decode cJ6_bitCount_0f7a4 45 = .ok (.iushr, 1) := by decide +kernel
theorem dJ6_bitCount_0f7a4_46 : decode cJ6_bitCount_0f7a4 46 = .ok (.iadd, 1) := by decide +kernel
theorem dJ6_bitCount_0f7a4_47 : decode cJ6_bitCount_0f7a4 47 = .ok (.istore_n 0, 1) := by decide +kernel
theorem dJ6_bitCount_0f7a4_48 : decode cJ6_bitCount_0f7a4 48 = .ok (.iload_n 0, 1) := by decide +kernel
theorem dJ6_bitCount_0f7a4_49 : decode cJ6_bitCount_0f7a4 49 = .ok (.bipush 63, 2) := by decide +kernel
theorem dJ6_bitCount_0f7a4_51 : decode cJ6_bitCount_0f7a4 51 = .ok (.iand, 1) := by decide +kernel
theorem dJ6_bitCount_0f7a4_52 : decode cJ6_bitCount_0f7a4 52 = .ok (.ireturn, 1) := by decide +kernel
theorem dJ13_signum_95d88_0 : decode cJ13_signum_95d88 0 = .ok (.lload_n 0, 1) := by decide +kernel
theorem dJ13_signum_95d88_1 : decode cJ13_signum_95d88 1 = .ok (.bipush 63, 2) := by decide +kernel
theorem dJ13_signum_95d88_3 : decode cJ13_signum_95d88 3 = .ok (.lshr, 1) := by decide +kernel
theorem dJ13_signum_95d88_4 : decode cJ13_signum_95d88 4 = .ok (.lload_n 0, 1) := by decide +kernel
theorem dJ13_signum_95d88_5 : decode cJ13_signum_95d88 5 = .ok (.lneg, 1) := by decide +kernel
theorem dJ13_signum_95d88_6 : decode cJ13_signum_95d88 6 = .ok (.bipush 63, 2) := by decide +kernel
theorem dJ13_signum_95d88_8 : decode cJ13_signum_95d88 8 = .ok (.lushr, 1) := by decide +kernel
theorem dJ13_signum_95d88_9 : decode cJ13_signum_95d88 9 = .ok (.lor, 1) := by decide +kernel
theorem dJ13_signum_95d88_10 : decode cJ13_signum_95d88 10 = .ok (.l2i, 1) := by decide +kernel
theorem dJ13_signum_95d88_11 : decode cJ13_signum_95d88 11 = .ok (.ireturn, 1) := by decide +kernel
theorem dJ9_floorMod_7cf53_0 : decode cJ9_floorMod_7cf53 0 = .ok (.iload_n 0, 1) := by decide +kernel
theorem dJ9_floorMod_7cf53_1 : decode cJ9_floorMod_7cf53 1 = .ok (.iload_n 1, 1) := by decide +kernel
theorem dJ9_floorMod_7cf53_2 : decode cJ9_floorMod_7cf53 2 = .ok (.irem, 1) := by decide +kernel
theorem dJ9_floorMod_7cf53_3 : decode cJ9_floorMod_7cf53 3 = .ok (.istore_n 2, 1) := by decide +kernel
theorem dJ9_floorMod_7cf53_4 : decode cJ9_floorMod_7cf53 4 = .ok (.iload_n 0, 1) := by decide +kernel
theorem dJ9_floorMod_7cf53_5 : decode cJ9_floorMod_7cf53 5 = .ok (.iload_n 1, 1) := by decide +kernel
theorem dJ9_floorMod_7cf53_6 : decode cJ9_floorMod_7cf53 6 = .ok (.ixor, 1) := by decide +kernel
theorem dJ9_floorMod_7cf53_7 : decode cJ9_floorMod_7cf53 7 = .ok (.ifCond .ge 11, 3) := by decide +kernel
theorem dJ9_floorMod_7cf53_10 : decode cJ9_floorMod_7cf53 10 = .ok (.iload_n 2, 1) := by decide +kernel
theorem dJ9_floorMod_7cf53_11 : decode cJ9_floorMod_7cf53 11 = .ok (.ifCond .eq 7, 3) := by decide +kernel
theorem dJ9_floorMod_7cf53_14 : decode cJ9_floorMod_7cf53 14 = .ok (.iload_n 2, 1) := by decide +kernel
theorem dJ9_floorMod_7cf53_15 : decode cJ9_floorMod_7cf53 15 = .ok (.iload_n 1, 1) := by decide +kernel
theorem dJ9_floorMod_7cf53_16 : decode cJ9_floorMod_7cf53 16 = .ok (.iadd, 1) := by decide +kernel
theorem dJ9_floorMod_7cf53_17 : decode cJ9_floorMod_7cf53 17 = .ok (.ireturn, 1) := by decide +kernel
theorem dJ9_floorMod_7cf53_18 : decode cJ9_floorMod_7cf53 18 = .ok (.iload_n 2, 1) := by decide +kernel
theorem dJ9_floorMod_7cf53_19 : decode cJ9_floorMod_7cf53 19 = .ok (.ireturn, 1) := by decide +kernel
theorem dJ9_abs_067f4_0 : decode cJ9_abs_067f4 0 = .ok (.lload_n 0, 1) := by decide +kernel
theorem dJ9_abs_067f4_1 : decode cJ9_abs_067f4 1 = .ok (.lconst 0, 1) := by decide +kernel
theorem dJ9_abs_067f4_2 : decode cJ9_abs_067f4 2 = .ok (.lcmp, 1) := by decide +kernel
theorem dJ9_abs_067f4_3 : decode cJ9_abs_067f4 3 = .ok (.ifCond .ge 8, 3) := by decide +kernel
theorem dJ9_abs_067f4_6 : decode cJ9_abs_067f4 6 = .ok (.lload_n 0, 1) := by decide +kernel
theorem dJ9_abs_067f4_7 : decode cJ9_abs_067f4 7 = .ok (.lneg, 1) := by decide +kernel
theorem dJ9_abs_067f4_8 : decode cJ9_abs_067f4 8 = .ok (.goto 4, 3) := by decide +kernel
theorem dJ9_abs_067f4_11 : decode cJ9_abs_067f4 11 = .ok (.lload_n 0, 1) := by decide +kernel
theorem dJ9_abs_067f4_12 : decode cJ9_abs_067f4 12 = .ok (.lreturn, 1) := by decide +kernel
theorem dJ9_max_7cf53_0 : decode cJ9_max_7cf53 0 = .ok (.iload_n 0, 1) := by decide +kernel
theorem dJ9_max_7cf53_1 : decode cJ9_max_7cf53 1 = .ok (.iload_n 1, 1) := by decide +kernel
theorem dJ9_max_7cf53_2 : decode cJ9_max_7cf53 2 = .ok (.if_icmp .lt 7, 3) := by decide +kernel
theorem dJ9_max_7cf53_5 : decode cJ9_max_7cf53 5 = .ok (.iload_n 0, 1) := by decide +kernel
theorem dJ9_max_7cf53_6 : decode cJ9_max_7cf53 6 = .ok (.goto 4, 3) := by decide +kernel
theorem dJ9_max_7cf53_9 : decode cJ9_max_7cf53 9 = .ok (.iload_n 1, 1) := by decide +kernel
theorem dJ9_max_7cf53_10 : decode cJ9_max_7cf53 10 = .ok (.ireturn, 1) := by decide +kernel
theorem dJ9_max_f86c9_0 : decode cJ9_max_f86c9 0 = .ok (.lload_n 0, 1) := by decide +kernel
theorem dJ9_max_f86c9_1 : decode cJ9_max_f86c9 1 = .ok (.lload_n 2, 1) := by decide +kernel
theorem dJ9_max_f86c9_2 : decode cJ9_max_f86c9 2 = .ok (.lcmp, 1) := by decide +kernel
theorem dJ9_max_f86c9_3 : decode cJ9_max_f86c9 3 = .ok (.ifCond .lt 7, 3) := by decide +kernel
theorem dJ9_max_f86c9_6 : decode cJ9_max_f86c9 6 = .ok (.lload_n 0, 1) := by decide +kernel
theorem dJ9_max_f86c9_7 : decode cJ9_max_f86c9 7 = .ok (.goto 4, 3) := by decide +kernel
theorem dJ9_max_f86c9_10 : decode cJ9_max_f86c9 10 = .ok (.lload_n 2, 1) := by decide +kernel
theorem dJ9_max_f86c9_11 : decode cJ9_max_f86c9 11 = .ok (.lreturn, 1) := by decide +kernel
theorem dJ9_min_7cf53_0 : decode cJ9_min_7cf53 0 = .ok (.iload_n 0, 1) := by decide +kernel
theorem dJ9_min_7cf53_1 : decode cJ9_min_7cf53 1 = .ok (.iload_n 1, 1) := by decide +kernel
theorem dJ9_min_7cf53_2 : decode cJ9_min_7cf53 2 = .ok (.if_icmp .gt 7, 3) := by decide +kernel
theorem dJ9_min_7cf53_5 : decode cJ9_min_7cf53 5 = .ok (.iload_n 0, 1) := by decide +kernel
theorem dJ9_min_7cf53_6 : decode cJ9_min_7cf53 6 = .ok (.goto 4, 3) := by decide +kernel
theorem dJ9_min_7cf53_9 : decode cJ9_min_7cf53 9 = .ok (.iload_n 1, 1) := by decide +kernel
theorem dJ9_min_7cf53_10 : decode cJ9_min_7cf53 10 = .ok (.ireturn, 1) := by decide +kernel
theorem dJ9_min_f86c9_0 : decode cJ9_min_f86c9 0 = .ok (.lload_n 0, 1) := by decide +kernel
theorem dJ9_min_f86c9_1 : decode cJ9_min_f86c9 1 = .ok (.lload_n 2, 1) := by decide +kernel
theorem dJ9_min_f86c9_2 : decode cJ9_min_f86c9 2 = .ok (.lcmp, 1) := by decide +kernel
theorem dJ9_min_f86c9_3 : decode cJ9_min_f86c9 3 = .ok (.ifCond .gt 7, 3) := by decide +kernel
theorem dJ9_min_f86c9_6 : decode cJ9_min_f86c9 6 = .ok (.lload_n 0, 1) := by decide +kernel
theorem dJ9_min_f86c9_7 : decode cJ9_min_f86c9 7 = .ok (.goto 4, 3) := by decide +kernel
theorem dJ9_min_f86c9_10 : decode cJ9_min_f86c9 10 = .ok (.lload_n 2, 1) := by decide +kernel
theorem dJ9_min_f86c9_11 : decode cJ9_min_f86c9 11 = .ok (.lreturn, 1) := by decide +kernel
theorem dL_law_0 : decode cL_law 0 = .ok (.new 7, 3) := by decide +kernel
theorem dL_law_3 : decode cL_law 3 = .ok (.dup, 1) := by decide +kernel
theorem dL_law_4 : decode cL_law 4 = .ok (.invokespecial 9, 3) := by decide +kernel
theorem dL_law_7 : decode cL_law 7 = .ok (.astore_n 1, 1) := by decide +kernel
theorem dL_law_8 : decode cL_law 8 = .ok (.new 10, 3) := by decide +kernel
theorem dL_law_11 : decode cL_law 11 = .ok (.dup, 1) := by decide +kernel
theorem dL_law_12 : decode cL_law 12 = .ok (.invokespecial 12, 3) := by decide +kernel
theorem dL_law_15 : decode cL_law 15 = .ok (.astore_n 2, 1) := by decide +kernel
theorem dL_law_16 : decode cL_law 16 = .ok (.iconst 0, 1) := by decide +kernel
theorem dL_law_17 : decode cL_law 17 = .ok (.istore_n 3, 1) := by decide +kernel
theorem dL_law_18 : decode cL_law 18 = .ok (.iload_n 3, 1) := by decide +kernel
theorem dL_law_19 : decode cL_law 19 = .ok (.aload_n 0, 1) := by decide +kernel
theorem dL_law_20 : decode cL_law 20 = .ok (.arraylength, 1) := by decide +kernel
theorem dL_law_21 : decode cL_law 21 = .ok (.bipush 7, 2) := by decide +kernel
theorem dL_law_23 : decode cL_law 23 = .ok (.isub, 1) := by decide +kernel
theorem dL_law_24 : decode cL_law 24 = .ok (.if_icmp .gt 1051, 3) := by decide +kernel
theorem dL_law_27 : decode cL_law 27 = .ok (.aload_n 0, 1) := by decide +kernel
theorem dL_law_28 : decode cL_law 28 = .ok (.iload_n 3, 1) := by decide +kernel
theorem dL_law_29 : decode cL_law 29 = .ok (.iaload, 1) := by decide +kernel
theorem dL_law_30 : decode cL_law 30 = .ok (.bipush 31, 2) := by decide +kernel
theorem dL_law_32 : decode cL_law 32 = .ok (.iand, 1) := by decide +kernel
theorem dL_law_33 : decode cL_law 33 = .ok (.tableswitch 1036 0 26 #[123, 156, 179, 192, 205, 218, 251, 284, 327, 390, 443, 486, 529, 604, 657, 680, 703, 746, 779, 792, 815, 828, 861, 914, 967, 990, 1013], 123) := by decide +kernel
theorem dL_law_156 : decode cL_law 156 = .ok (.aload_n 1, 1) := by decide +kernel
theorem dL_law_157 : decode cL_law 157 = .ok (.aload_n 0, 1) := by decide +kernel
theorem dL_law_158 : decode cL_law 158 = .ok (.iload_n 3, 1) := by decide +kernel
theorem dL_law_159 : decode cL_law 159 = .ok (.iconst 1, 1) := by decide +kernel
theorem dL_law_160 : decode cL_law 160 = .ok (.iadd, 1) := by decide +kernel
theorem dL_law_161 : decode cL_law 161 = .ok (.iaload, 1) := by decide +kernel
theorem dL_law_162 : decode cL_law 162 = .ok (.aload_n 0, 1) := by decide +kernel
theorem dL_law_163 : decode cL_law 163 = .ok (.iload_n 3, 1) := by decide +kernel
theorem dL_law_164 : decode cL_law 164 = .ok (.iconst 2, 1) := by decide +kernel
theorem dL_law_165 : decode cL_law 165 = .ok (.iadd, 1) := by decide +kernel
theorem dL_law_166 : decode cL_law 166 = .ok (.iaload, 1) := by decide +kernel
theorem dL_law_167 : decode cL_law 167 = .ok (.invokevirtual 13, 3) := by decide +kernel
theorem dL_law_170 : decode cL_law 170 = .ok (.aload_n 2, 1) := by decide +kernel
theorem dL_law_171 : decode cL_law 171 = .ok (.aload_n 0, 1) := by decide +kernel
theorem dL_law_172 : decode cL_law 172 = .ok (.iload_n 3, 1) := by decide +kernel
theorem dL_law_173 : decode cL_law 173 = .ok (.iconst 1, 1) := by decide +kernel
theorem dL_law_174 : decode cL_law 174 = .ok (.iadd, 1) := by decide +kernel
theorem dL_law_175 : decode cL_law 175 = .ok (.iaload, 1) := by decide +kernel
theorem dL_law_176 : decode cL_law 176 = .ok (.aload_n 0, 1) := by decide +kernel
theorem dL_law_177 : decode cL_law 177 = .ok (.iload_n 3, 1) := by decide +kernel
theorem dL_law_178 : decode cL_law 178 = .ok (.iconst 2, 1) := by decide +kernel
theorem dL_law_179 : decode cL_law 179 = .ok (.iadd, 1) := by decide +kernel
theorem dL_law_180 : decode cL_law 180 = .ok (.iaload, 1) := by decide +kernel
theorem dL_law_181 : decode cL_law 181 = .ok (.invokevirtual 17, 3) := by decide +kernel
theorem dL_law_184 : decode cL_law 184 = .ok (.if_icmp .eq 885, 3) := by decide +kernel
theorem dL_law_187 : decode cL_law 187 = .ok (.iconst 0, 1) := by decide +kernel
theorem dL_law_188 : decode cL_law 188 = .ok (.ireturn, 1) := by decide +kernel
theorem dL_law_189 : decode cL_law 189 = .ok (.aload_n 1, 1) := by decide +kernel
theorem dL_law_190 : decode cL_law 190 = .ok (.aload_n 0, 1) := by decide +kernel
theorem dL_law_191 : decode cL_law 191 = .ok (.iload_n 3, 1) := by decide +kernel
theorem dL_law_192 : decode cL_law 192 = .ok (.iconst 1, 1) := by decide +kernel
theorem dL_law_193 : decode cL_law 193 = .ok (.iadd, 1) := by decide +kernel
theorem dL_law_194 : decode cL_law 194 = .ok (.iaload, 1) := by decide +kernel
theorem dL_law_195 : decode cL_law 195 = .ok (.invokevirtual 18, 3) := by decide +kernel
theorem dL_law_198 : decode cL_law 198 = .ok (.aload_n 2, 1) := by decide +kernel
theorem dL_law_199 : decode cL_law 199 = .ok (.aload_n 0, 1) := by decide +kernel
theorem dL_law_200 : decode cL_law 200 = .ok (.iload_n 3, 1) := by decide +kernel
theorem dL_law_201 : decode cL_law 201 = .ok (.iconst 1, 1) := by decide +kernel
theorem dL_law_202 : decode cL_law 202 = .ok (.iadd, 1) := by decide +kernel
theorem dL_law_203 : decode cL_law 203 = .ok (.iaload, 1) := by decide +kernel
theorem dL_law_204 : decode cL_law 204 = .ok (.invokevirtual 22, 3) := by decide +kernel
theorem dL_law_207 : decode cL_law 207 = .ok (.if_icmp .eq 862, 3) := by decide +kernel
theorem dL_law_210 : decode cL_law 210 = .ok (.iconst 0, 1) := by decide +kernel
theorem dL_law_211 : decode cL_law 211 = .ok (.ireturn, 1) := by decide +kernel
theorem dL_law_212 : decode cL_law 212 = .ok (.aload_n 1, 1) := by decide +kernel
theorem dL_law_213 : decode cL_law 213 = .ok (.invokevirtual 23, 3) := by decide +kernel
theorem dL_law_216 : decode cL_law 216 = .ok (.aload_n 2, 1) := by decide +kernel
theorem dL_law_217 : decode cL_law 217 = .ok (.invokevirtual 27, 3) := by decide +kernel
theorem dL_law_220 : decode cL_law 220 = .ok (.if_icmp .eq 849, 3) := by decide +kernel
theorem dL_law_223 : decode cL_law 223 = .ok (.iconst 0, 1) := by decide +kernel
theorem dL_law_224 : decode cL_law 224 = .ok (.ireturn, 1) := by decide +kernel
theorem dL_law_225 : decode cL_law 225 = .ok (.aload_n 1, 1) := by decide +kernel
theorem dL_law_226 : decode cL_law 226 = .ok (.invokevirtual 28, 3) := by decide +kernel
theorem dL_law_229 : decode cL_law 229 = .ok (.aload_n 2, 1) := by decide +kernel
theorem dL_law_230 : decode cL_law 230 = .ok (.invokevirtual 31, 3) := by decide +kernel
theorem dL_law_233 : decode cL_law 233 = .ok (.if_icmp .eq 836, 3) := by decide +kernel
theorem dL_law_236 : decode cL_law 236 = .ok (.iconst 0, 1) := by decide +kernel
theorem dL_law_237 : decode cL_law 237 = .ok (.ireturn, 1) := by decide +kernel
theorem dL_law_238 : decode cL_law 238 = .ok (.aload_n 1, 1) := by decide +kernel
theorem dL_law_239 : decode cL_law 239 = .ok (.invokevirtual 32, 3) := by decide +kernel
theorem dL_law_242 : decode cL_law 242 = .ok (.aload_n 2, 1) := by decide +kernel
theorem dL_law_243 : decode cL_law 243 = .ok (.invokevirtual 35, 3) := by decide +kernel
theorem dL_law_246 : decode cL_law 246 = .ok (.if_icmp .eq 823, 3) := by decide +kernel
theorem dL_law_249 : decode cL_law 249 = .ok (.iconst 0, 1) := by decide +kernel
theorem dL_law_250 : decode cL_law 250 = .ok (.ireturn, 1) := by decide +kernel
theorem dL_law_251 : decode cL_law 251 = .ok (.aload_n 1, 1) := by decide +kernel
theorem dL_law_252 : decode cL_law 252 = .ok (.aload_n 0, 1) := by decide +kernel
theorem dL_law_253 : decode cL_law 253 = .ok (.iload_n 3, 1) := by decide +kernel
theorem dL_law_254 : decode cL_law 254 = .ok (.iconst 1, 1) := by decide +kernel
theorem dL_law_255 : decode cL_law 255 = .ok (.iadd, 1) := by decide +kernel
theorem dL_law_256 : decode cL_law 256 = .ok (.iaload, 1) := by decide +kernel
theorem dL_law_257 : decode cL_law 257 = .ok (.aload_n 0, 1) := by decide +kernel
theorem dL_law_258 : decode cL_law 258 = .ok (.iload_n 3, 1) := by decide +kernel
theorem dL_law_259 : decode cL_law 259 = .ok (.iconst 2, 1) := by decide +kernel
theorem dL_law_260 : decode cL_law 260 = .ok (.iadd, 1) := by decide +kernel
theorem dL_law_261 : decode cL_law 261 = .ok (.iaload, 1) := by decide +kernel
theorem dL_law_262 : decode cL_law 262 = .ok (.invokevirtual 36, 3) := by decide +kernel
theorem dL_law_265 : decode cL_law 265 = .ok (.aload_n 2, 1) := by decide +kernel
theorem dL_law_266 : decode cL_law 266 = .ok (.aload_n 0, 1) := by decide +kernel
theorem dL_law_267 : decode cL_law 267 = .ok (.iload_n 3, 1) := by decide +kernel
theorem dL_law_268 : decode cL_law 268 = .ok (.iconst 1, 1) := by decide +kernel
theorem dL_law_269 : decode cL_law 269 = .ok (.iadd, 1) := by decide +kernel
theorem dL_law_270 : decode cL_law 270 = .ok (.iaload, 1) := by decide +kernel
theorem dL_law_271 : decode cL_law 271 = .ok (.aload_n 0, 1) := by decide +kernel
theorem dL_law_272 : decode cL_law 272 = .ok (.iload_n 3, 1) := by decide +kernel
theorem dL_law_273 : decode cL_law 273 = .ok (.iconst 2, 1) := by decide +kernel
theorem dL_law_274 : decode cL_law 274 = .ok (.iadd, 1) := by decide +kernel
theorem dL_law_275 : decode cL_law 275 = .ok (.iaload, 1) := by decide +kernel
theorem dL_law_276 : decode cL_law 276 = .ok (.invokevirtual 39, 3) := by decide +kernel
theorem dL_law_279 : decode cL_law 279 = .ok (.if_icmp .eq 790, 3) := by decide +kernel
theorem dL_law_282 : decode cL_law 282 = .ok (.iconst 0, 1) := by decide +kernel
theorem dL_law_283 : decode cL_law 283 = .ok (.ireturn, 1) := by decide +kernel
theorem dL_law_284 : decode cL_law 284 = .ok (.aload_n 1, 1) := by decide +kernel
theorem dL_law_285 : decode cL_law 285 = .ok (.aload_n 0, 1) := by decide +kernel
theorem dL_law_286 : decode cL_law 286 = .ok (.iload_n 3, 1) := by decide +kernel
theorem dL_law_287 : decode cL_law 287 = .ok (.iconst 1, 1) := by decide +kernel
theorem dL_law_288 : decode cL_law 288 = .ok (.iadd, 1) := by decide +kernel
theorem dL_law_289 : decode cL_law 289 = .ok (.iaload, 1) := by decide +kernel
theorem dL_law_290 : decode cL_law 290 = .ok (.aload_n 0, 1) := by decide +kernel
theorem dL_law_291 : decode cL_law 291 = .ok (.iload_n 3, 1) := by decide +kernel
theorem dL_law_292 : decode cL_law 292 = .ok (.iconst 2, 1) := by decide +kernel
theorem dL_law_293 : decode cL_law 293 = .ok (.iadd, 1) := by decide +kernel
theorem dL_law_294 : decode cL_law 294 = .ok (.iaload, 1) := by decide +kernel
theorem dL_law_295 : decode cL_law 295 = .ok (.invokevirtual 40, 3) := by decide +kernel
theorem dL_law_298 : decode cL_law 298 = .ok (.aload_n 2, 1) := by decide +kernel
theorem dL_law_299 : decode cL_law 299 = .ok (.aload_n 0, 1) := by decide +kernel
theorem dL_law_300 : decode cL_law 300 = .ok (.iload_n 3, 1) := by decide +kernel
theorem dL_law_301 : decode cL_law 301 = .ok (.iconst 1, 1) := by decide +kernel
theorem dL_law_302 : decode cL_law 302 = .ok (.iadd, 1) := by decide +kernel
theorem dL_law_303 : decode cL_law 303 = .ok (.iaload, 1) := by decide +kernel
theorem dL_law_304 : decode cL_law 304 = .ok (.aload_n 0, 1) := by decide +kernel
theorem dL_law_305 : decode cL_law 305 = .ok (.iload_n 3, 1) := by decide +kernel
theorem dL_law_306 : decode cL_law 306 = .ok (.iconst 2, 1) := by decide +kernel
theorem dL_law_307 : decode cL_law 307 = .ok (.iadd, 1) := by decide +kernel
theorem dL_law_308 : decode cL_law 308 = .ok (.iaload, 1) := by decide +kernel
theorem dL_law_309 : decode cL_law 309 = .ok (.invokevirtual 43, 3) := by decide +kernel
theorem dL_law_312 : decode cL_law 312 = .ok (.if_icmp .eq 757, 3) := by decide +kernel
theorem dL_law_315 : decode cL_law 315 = .ok (.iconst 0, 1) := by decide +kernel
theorem dL_law_316 : decode cL_law 316 = .ok (.ireturn, 1) := by decide +kernel
theorem dL_law_317 : decode cL_law 317 = .ok (.aload_n 1, 1) := by decide +kernel
theorem dL_law_318 : decode cL_law 318 = .ok (.aload_n 0, 1) := by decide +kernel
theorem dL_law_319 : decode cL_law 319 = .ok (.iload_n 3, 1) := by decide +kernel
theorem dL_law_320 : decode cL_law 320 = .ok (.iconst 1, 1) := by decide +kernel
theorem dL_law_321 : decode cL_law 321 = .ok (.iadd, 1) := by decide +kernel
theorem dL_law_322 : decode cL_law 322 = .ok (.iaload, 1) := by decide +kernel
theorem dL_law_323 : decode cL_law 323 = .ok (.aload_n 0, 1) := by decide +kernel
theorem dL_law_324 : decode cL_law 324 = .ok (.iload_n 3, 1) := by decide +kernel
theorem dL_law_325 : decode cL_law 325 = .ok (.iconst 2, 1) := by decide +kernel
theorem dL_law_326 : decode cL_law 326 = .ok (.iadd, 1) := by decide +kernel
theorem dL_law_327 : decode cL_law 327 = .ok (.iaload, 1) := by decide +kernel
theorem dL_law_328 : decode cL_law 328 = .ok (.aload_n 0, 1) := by decide +kernel
theorem dL_law_329 : decode cL_law 329 = .ok (.iload_n 3, 1) := by decide +kernel
theorem dL_law_330 : decode cL_law 330 = .ok (.iconst 3, 1) := by decide +kernel
theorem dL_law_331 : decode cL_law 331 = .ok (.iadd, 1) := by decide +kernel
theorem dL_law_332 : decode cL_law 332 = .ok (.iaload, 1) := by decide +kernel
theorem dL_law_333 : decode cL_law 333 = .ok (.invokevirtual 44, 3) := by decide +kernel
theorem dL_law_336 : decode cL_law 336 = .ok (.aload_n 2, 1) := by decide +kernel
theorem dL_law_337 : decode cL_law 337 = .ok (.aload_n 0, 1) := by decide +kernel
theorem dL_law_338 : decode cL_law 338 = .ok (.iload_n 3, 1) := by decide +kernel
theorem dL_law_339 : decode cL_law 339 = .ok (.iconst 1, 1) := by decide +kernel
theorem dL_law_340 : decode cL_law 340 = .ok (.iadd, 1) := by decide +kernel
theorem dL_law_341 : decode cL_law 341 = .ok (.iaload, 1) := by decide +kernel
theorem dL_law_342 : decode cL_law 342 = .ok (.aload_n 0, 1) := by decide +kernel
theorem dL_law_343 : decode cL_law 343 = .ok (.iload_n 3, 1) := by decide +kernel
theorem dL_law_344 : decode cL_law 344 = .ok (.iconst 2, 1) := by decide +kernel
theorem dL_law_345 : decode cL_law 345 = .ok (.iadd, 1) := by decide +kernel
theorem dL_law_346 : decode cL_law 346 = .ok (.iaload, 1) := by decide +kernel
theorem dL_law_347 : decode cL_law 347 = .ok (.aload_n 0, 1) := by decide +kernel
theorem dL_law_348 : decode cL_law 348 = .ok (.iload_n 3, 1) := by decide +kernel
theorem dL_law_349 : decode cL_law 349 = .ok (.iconst 3, 1) := by decide +kernel
theorem dL_law_350 : decode cL_law 350 = .ok (.iadd, 1) := by decide +kernel
theorem dL_law_351 : decode cL_law 351 = .ok (.iaload, 1) := by decide +kernel
theorem dL_law_352 : decode cL_law 352 = .ok (.invokevirtual 48, 3) := by decide +kernel
theorem dL_law_355 : decode cL_law 355 = .ok (.if_icmp .eq 714, 3) := by decide +kernel
theorem dL_law_358 : decode cL_law 358 = .ok (.iconst 0, 1) := by decide +kernel
theorem dL_law_359 : decode cL_law 359 = .ok (.ireturn, 1) := by decide +kernel
theorem dL_law_360 : decode cL_law 360 = .ok (.aload_n 1, 1) := by decide +kernel
theorem dL_law_361 : decode cL_law 361 = .ok (.aload_n 0, 1) := by decide +kernel
theorem dL_law_362 : decode cL_law 362 = .ok (.iload_n 3, 1) := by decide +kernel
theorem dL_law_363 : decode cL_law 363 = .ok (.iconst 1, 1) := by decide +kernel
theorem dL_law_364 : decode cL_law 364 = .ok (.iadd, 1) := by decide +kernel
theorem dL_law_365 : decode cL_law 365 = .ok (.iaload, 1) := by decide +kernel
theorem dL_law_366 : decode cL_law 366 = .ok (.aload_n 0, 1) := by decide +kernel
theorem dL_law_367 : decode cL_law 367 = .ok (.iload_n 3, 1) := by decide +kernel
theorem dL_law_368 : decode cL_law 368 = .ok (.iconst 2, 1) := by decide +kernel
theorem dL_law_369 : decode cL_law 369 = .ok (.iadd, 1) := by decide +kernel
theorem dL_law_370 : decode cL_law 370 = .ok (.iaload, 1) := by decide +kernel
theorem dL_law_371 : decode cL_law 371 = .ok (.aload_n 0, 1) := by decide +kernel
theorem dL_law_372 : decode cL_law 372 = .ok (.iload_n 3, 1) := by decide +kernel
theorem dL_law_373 : decode cL_law 373 = .ok (.iconst 3, 1) := by decide +kernel
theorem dL_law_374 : decode cL_law 374 = .ok (.iadd, 1) := by decide +kernel
theorem dL_law_375 : decode cL_law 375 = .ok (.iaload, 1) := by decide +kernel
theorem dL_law_376 : decode cL_law 376 = .ok (.aload_n 0, 1) := by decide +kernel
theorem dL_law_377 : decode cL_law 377 = .ok (.iload_n 3, 1) := by decide +kernel
theorem dL_law_378 : decode cL_law 378 = .ok (.iconst 4, 1) := by decide +kernel
theorem dL_law_379 : decode cL_law 379 = .ok (.iadd, 1) := by decide +kernel
theorem dL_law_380 : decode cL_law 380 = .ok (.iaload, 1) := by decide +kernel
theorem dL_law_381 : decode cL_law 381 = .ok (.aload_n 0, 1) := by decide +kernel
theorem dL_law_382 : decode cL_law 382 = .ok (.iload_n 3, 1) := by decide +kernel
theorem dL_law_383 : decode cL_law 383 = .ok (.iconst 5, 1) := by decide +kernel
theorem dL_law_384 : decode cL_law 384 = .ok (.iadd, 1) := by decide +kernel
theorem dL_law_385 : decode cL_law 385 = .ok (.iaload, 1) := by decide +kernel
theorem dL_law_386 : decode cL_law 386 = .ok (.invokevirtual 49, 3) := by decide +kernel
theorem dL_law_389 : decode cL_law 389 = .ok (.aload_n 2, 1) := by decide +kernel
theorem dL_law_390 : decode cL_law 390 = .ok (.aload_n 0, 1) := by decide +kernel
theorem dL_law_391 : decode cL_law 391 = .ok (.iload_n 3, 1) := by decide +kernel
theorem dL_law_392 : decode cL_law 392 = .ok (.iconst 1, 1) := by decide +kernel
theorem dL_law_393 : decode cL_law 393 = .ok (.iadd, 1) := by decide +kernel
theorem dL_law_394 : decode cL_law 394 = .ok (.iaload, 1) := by decide +kernel
theorem dL_law_395 : decode cL_law 395 = .ok (.aload_n 0, 1) := by decide +kernel
theorem dL_law_396 : decode cL_law 396 = .ok (.iload_n 3, 1) := by decide +kernel
theorem dL_law_397 : decode cL_law 397 = .ok (.iconst 2, 1) := by decide +kernel
theorem dL_law_398 : decode cL_law 398 = .ok (.iadd, 1) := by decide +kernel
theorem dL_law_399 : decode cL_law 399 = .ok (.iaload, 1) := by decide +kernel
theorem dL_law_400 : decode cL_law 400 = .ok (.aload_n 0, 1) := by decide +kernel
theorem dL_law_401 : decode cL_law 401 = .ok (.iload_n 3, 1) := by decide +kernel
theorem dL_law_402 : decode cL_law 402 = .ok (.iconst 3, 1) := by decide +kernel
theorem dL_law_403 : decode cL_law 403 = .ok (.iadd, 1) := by decide +kernel
theorem dL_law_404 : decode cL_law 404 = .ok (.iaload, 1) := by decide +kernel
theorem dL_law_405 : decode cL_law 405 = .ok (.aload_n 0, 1) := by decide +kernel
theorem dL_law_406 : decode cL_law 406 = .ok (.iload_n 3, 1) := by decide +kernel
theorem dL_law_407 : decode cL_law 407 = .ok (.iconst 4, 1) := by decide +kernel
theorem dL_law_408 : decode cL_law 408 = .ok (.iadd, 1) := by decide +kernel
theorem dL_law_409 : decode cL_law 409 = .ok (.iaload, 1) := by decide +kernel
theorem dL_law_410 : decode cL_law 410 = .ok (.aload_n 0, 1) := by decide +kernel
theorem dL_law_411 : decode cL_law 411 = .ok (.iload_n 3, 1) := by decide +kernel
theorem dL_law_412 : decode cL_law 412 = .ok (.iconst 5, 1) := by decide +kernel
theorem dL_law_413 : decode cL_law 413 = .ok (.iadd, 1) := by decide +kernel
theorem dL_law_414 : decode cL_law 414 = .ok (.iaload, 1) := by decide +kernel
theorem dL_law_415 : decode cL_law 415 = .ok (.invokevirtual 53, 3) := by decide +kernel
theorem dL_law_418 : decode cL_law 418 = .ok (.if_icmp .eq 651, 3) := by decide +kernel
theorem dL_law_421 : decode cL_law 421 = .ok (.iconst 0, 1) := by decide +kernel
theorem dL_law_422 : decode cL_law 422 = .ok (.ireturn, 1) := by decide +kernel
theorem dL_law_423 : decode cL_law 423 = .ok (.aload_n 1, 1) := by decide +kernel
theorem dL_law_424 : decode cL_law 424 = .ok (.aload_n 0, 1) := by decide +kernel
theorem dL_law_425 : decode cL_law 425 = .ok (.iload_n 3, 1) := by decide +kernel
theorem dL_law_426 : decode cL_law 426 = .ok (.iconst 1, 1) := by decide +kernel
theorem dL_law_427 : decode cL_law 427 = .ok (.iadd, 1) := by decide +kernel
theorem dL_law_428 : decode cL_law 428 = .ok (.iaload, 1) := by decide +kernel
theorem dL_law_429 : decode cL_law 429 = .ok (.aload_n 0, 1) := by decide +kernel
theorem dL_law_430 : decode cL_law 430 = .ok (.iload_n 3, 1) := by decide +kernel
theorem dL_law_431 : decode cL_law 431 = .ok (.iconst 2, 1) := by decide +kernel
theorem dL_law_432 : decode cL_law 432 = .ok (.iadd, 1) := by decide +kernel
theorem dL_law_433 : decode cL_law 433 = .ok (.iaload, 1) := by decide +kernel
theorem dL_law_434 : decode cL_law 434 = .ok (.aload_n 0, 1) := by decide +kernel
theorem dL_law_435 : decode cL_law 435 = .ok (.iload_n 3, 1) := by decide +kernel
theorem dL_law_436 : decode cL_law 436 = .ok (.iconst 3, 1) := by decide +kernel
theorem dL_law_437 : decode cL_law 437 = .ok (.iadd, 1) := by decide +kernel
theorem dL_law_438 : decode cL_law 438 = .ok (.iaload, 1) := by decide +kernel
theorem dL_law_439 : decode cL_law 439 = .ok (.aload_n 0, 1) := by decide +kernel
theorem dL_law_440 : decode cL_law 440 = .ok (.iload_n 3, 1) := by decide +kernel
theorem dL_law_441 : decode cL_law 441 = .ok (.iconst 4, 1) := by decide +kernel
theorem dL_law_442 : decode cL_law 442 = .ok (.iadd, 1) := by decide +kernel
theorem dL_law_443 : decode cL_law 443 = .ok (.iaload, 1) := by decide +kernel
theorem dL_law_444 : decode cL_law 444 = .ok (.invokevirtual 54, 3) := by decide +kernel
theorem dL_law_447 : decode cL_law 447 = .ok (.aload_n 2, 1) := by decide +kernel
theorem dL_law_448 : decode cL_law 448 = .ok (.aload_n 0, 1) := by decide +kernel
theorem dL_law_449 : decode cL_law 449 = .ok (.iload_n 3, 1) := by decide +kernel
theorem dL_law_450 : decode cL_law 450 = .ok (.iconst 1, 1) := by decide +kernel
theorem dL_law_451 : decode cL_law 451 = .ok (.iadd, 1) := by decide +kernel
theorem dL_law_452 : decode cL_law 452 = .ok (.iaload, 1) := by decide +kernel
theorem dL_law_453 : decode cL_law 453 = .ok (.aload_n 0, 1) := by decide +kernel
theorem dL_law_454 : decode cL_law 454 = .ok (.iload_n 3, 1) := by decide +kernel
theorem dL_law_455 : decode cL_law 455 = .ok (.iconst 2, 1) := by decide +kernel
theorem dL_law_456 : decode cL_law 456 = .ok (.iadd, 1) := by decide +kernel
theorem dL_law_457 : decode cL_law 457 = .ok (.iaload, 1) := by decide +kernel
theorem dL_law_458 : decode cL_law 458 = .ok (.aload_n 0, 1) := by decide +kernel
theorem dL_law_459 : decode cL_law 459 = .ok (.iload_n 3, 1) := by decide +kernel
theorem dL_law_460 : decode cL_law 460 = .ok (.iconst 3, 1) := by decide +kernel
theorem dL_law_461 : decode cL_law 461 = .ok (.iadd, 1) := by decide +kernel
theorem dL_law_462 : decode cL_law 462 = .ok (.iaload, 1) := by decide +kernel
theorem dL_law_463 : decode cL_law 463 = .ok (.aload_n 0, 1) := by decide +kernel
theorem dL_law_464 : decode cL_law 464 = .ok (.iload_n 3, 1) := by decide +kernel
theorem dL_law_465 : decode cL_law 465 = .ok (.iconst 4, 1) := by decide +kernel
theorem dL_law_466 : decode cL_law 466 = .ok (.iadd, 1) := by decide +kernel
theorem dL_law_467 : decode cL_law 467 = .ok (.iaload, 1) := by decide +kernel
theorem dL_law_468 : decode cL_law 468 = .ok (.invokevirtual 58, 3) := by decide +kernel
theorem dL_law_471 : decode cL_law 471 = .ok (.if_icmp .eq 598, 3) := by decide +kernel
theorem dL_law_474 : decode cL_law 474 = .ok (.iconst 0, 1) := by decide +kernel
theorem dL_law_475 : decode cL_law 475 = .ok (.ireturn, 1) := by decide +kernel
theorem dL_law_476 : decode cL_law 476 = .ok (.aload_n 1, 1) := by decide +kernel
theorem dL_law_477 : decode cL_law 477 = .ok (.aload_n 0, 1) := by decide +kernel
theorem dL_law_478 : decode cL_law 478 = .ok (.iload_n 3, 1) := by decide +kernel
theorem dL_law_479 : decode cL_law 479 = .ok (.iconst 1, 1) := by decide +kernel
theorem dL_law_480 : decode cL_law 480 = .ok (.iadd, 1) := by decide +kernel
theorem dL_law_481 : decode cL_law 481 = .ok (.iaload, 1) := by decide +kernel
theorem dL_law_482 : decode cL_law 482 = .ok (.aload_n 0, 1) := by decide +kernel
theorem dL_law_483 : decode cL_law 483 = .ok (.iload_n 3, 1) := by decide +kernel
theorem dL_law_484 : decode cL_law 484 = .ok (.iconst 2, 1) := by decide +kernel
theorem dL_law_485 : decode cL_law 485 = .ok (.iadd, 1) := by decide +kernel
theorem dL_law_486 : decode cL_law 486 = .ok (.iaload, 1) := by decide +kernel
theorem dL_law_487 : decode cL_law 487 = .ok (.aload_n 0, 1) := by decide +kernel
theorem dL_law_488 : decode cL_law 488 = .ok (.iload_n 3, 1) := by decide +kernel
theorem dL_law_489 : decode cL_law 489 = .ok (.iconst 3, 1) := by decide +kernel
theorem dL_law_490 : decode cL_law 490 = .ok (.iadd, 1) := by decide +kernel
theorem dL_law_491 : decode cL_law 491 = .ok (.iaload, 1) := by decide +kernel
theorem dL_law_492 : decode cL_law 492 = .ok (.invokevirtual 59, 3) := by decide +kernel
theorem dL_law_495 : decode cL_law 495 = .ok (.aload_n 2, 1) := by decide +kernel
theorem dL_law_496 : decode cL_law 496 = .ok (.aload_n 0, 1) := by decide +kernel
theorem dL_law_497 : decode cL_law 497 = .ok (.iload_n 3, 1) := by decide +kernel
theorem dL_law_498 : decode cL_law 498 = .ok (.iconst 1, 1) := by decide +kernel
theorem dL_law_499 : decode cL_law 499 = .ok (.iadd, 1) := by decide +kernel
theorem dL_law_500 : decode cL_law 500 = .ok (.iaload, 1) := by decide +kernel
theorem dL_law_501 : decode cL_law 501 = .ok (.aload_n 0, 1) := by decide +kernel
theorem dL_law_502 : decode cL_law 502 = .ok (.iload_n 3, 1) := by decide +kernel
theorem dL_law_503 : decode cL_law 503 = .ok (.iconst 2, 1) := by decide +kernel
theorem dL_law_504 : decode cL_law 504 = .ok (.iadd, 1) := by decide +kernel
theorem dL_law_505 : decode cL_law 505 = .ok (.iaload, 1) := by decide +kernel
theorem dL_law_506 : decode cL_law 506 = .ok (.aload_n 0, 1) := by decide +kernel
theorem dL_law_507 : decode cL_law 507 = .ok (.iload_n 3, 1) := by decide +kernel
theorem dL_law_508 : decode cL_law 508 = .ok (.iconst 3, 1) := by decide +kernel
theorem dL_law_509 : decode cL_law 509 = .ok (.iadd, 1) := by decide +kernel
theorem dL_law_510 : decode cL_law 510 = .ok (.iaload, 1) := by decide +kernel
theorem dL_law_511 : decode cL_law 511 = .ok (.invokevirtual 62, 3) := by decide +kernel
theorem dL_law_514 : decode cL_law 514 = .ok (.if_icmp .eq 555, 3) := by decide +kernel
theorem dL_law_517 : decode cL_law 517 = .ok (.iconst 0, 1) := by decide +kernel
theorem dL_law_518 : decode cL_law 518 = .ok (.ireturn, 1) := by decide +kernel
theorem dL_law_519 : decode cL_law 519 = .ok (.aload_n 1, 1) := by decide +kernel
theorem dL_law_520 : decode cL_law 520 = .ok (.aload_n 0, 1) := by decide +kernel
theorem dL_law_521 : decode cL_law 521 = .ok (.iload_n 3, 1) := by decide +kernel
theorem dL_law_522 : decode cL_law 522 = .ok (.iconst 1, 1) := by decide +kernel
theorem dL_law_523 : decode cL_law 523 = .ok (.iadd, 1) := by decide +kernel
theorem dL_law_524 : decode cL_law 524 = .ok (.iaload, 1) := by decide +kernel
theorem dL_law_525 : decode cL_law 525 = .ok (.aload_n 0, 1) := by decide +kernel
theorem dL_law_526 : decode cL_law 526 = .ok (.iload_n 3, 1) := by decide +kernel
theorem dL_law_527 : decode cL_law 527 = .ok (.iconst 2, 1) := by decide +kernel
theorem dL_law_528 : decode cL_law 528 = .ok (.iadd, 1) := by decide +kernel
theorem dL_law_529 : decode cL_law 529 = .ok (.iaload, 1) := by decide +kernel
theorem dL_law_530 : decode cL_law 530 = .ok (.aload_n 0, 1) := by decide +kernel
theorem dL_law_531 : decode cL_law 531 = .ok (.iload_n 3, 1) := by decide +kernel
theorem dL_law_532 : decode cL_law 532 = .ok (.iconst 3, 1) := by decide +kernel
theorem dL_law_533 : decode cL_law 533 = .ok (.iadd, 1) := by decide +kernel
theorem dL_law_534 : decode cL_law 534 = .ok (.iaload, 1) := by decide +kernel
theorem dL_law_535 : decode cL_law 535 = .ok (.invokevirtual 63, 3) := by decide +kernel
theorem dL_law_538 : decode cL_law 538 = .ok (.aload_n 2, 1) := by decide +kernel
theorem dL_law_539 : decode cL_law 539 = .ok (.aload_n 0, 1) := by decide +kernel
theorem dL_law_540 : decode cL_law 540 = .ok (.iload_n 3, 1) := by decide +kernel
theorem dL_law_541 : decode cL_law 541 = .ok (.iconst 1, 1) := by decide +kernel
theorem dL_law_542 : decode cL_law 542 = .ok (.iadd, 1) := by decide +kernel
theorem dL_law_543 : decode cL_law 543 = .ok (.iaload, 1) := by decide +kernel
theorem dL_law_544 : decode cL_law 544 = .ok (.aload_n 0, 1) := by decide +kernel
theorem dL_law_545 : decode cL_law 545 = .ok (.iload_n 3, 1) := by decide +kernel
theorem dL_law_546 : decode cL_law 546 = .ok (.iconst 2, 1) := by decide +kernel
theorem dL_law_547 : decode cL_law 547 = .ok (.iadd, 1) := by decide +kernel
theorem dL_law_548 : decode cL_law 548 = .ok (.iaload, 1) := by decide +kernel
theorem dL_law_549 : decode cL_law 549 = .ok (.aload_n 0, 1) := by decide +kernel
theorem dL_law_550 : decode cL_law 550 = .ok (.iload_n 3, 1) := by decide +kernel
theorem dL_law_551 : decode cL_law 551 = .ok (.iconst 3, 1) := by decide +kernel
theorem dL_law_552 : decode cL_law 552 = .ok (.iadd, 1) := by decide +kernel
theorem dL_law_553 : decode cL_law 553 = .ok (.iaload, 1) := by decide +kernel
theorem dL_law_554 : decode cL_law 554 = .ok (.invokevirtual 66, 3) := by decide +kernel
theorem dL_law_557 : decode cL_law 557 = .ok (.if_icmp .eq 512, 3) := by decide +kernel
theorem dL_law_560 : decode cL_law 560 = .ok (.iconst 0, 1) := by decide +kernel
theorem dL_law_561 : decode cL_law 561 = .ok (.ireturn, 1) := by decide +kernel
theorem dL_law_562 : decode cL_law 562 = .ok (.aload_n 1, 1) := by decide +kernel
theorem dL_law_563 : decode cL_law 563 = .ok (.aload_n 0, 1) := by decide +kernel
theorem dL_law_564 : decode cL_law 564 = .ok (.iload_n 3, 1) := by decide +kernel
theorem dL_law_565 : decode cL_law 565 = .ok (.iconst 1, 1) := by decide +kernel
theorem dL_law_566 : decode cL_law 566 = .ok (.iadd, 1) := by decide +kernel
theorem dL_law_567 : decode cL_law 567 = .ok (.iaload, 1) := by decide +kernel
theorem dL_law_568 : decode cL_law 568 = .ok (.aload_n 0, 1) := by decide +kernel
theorem dL_law_569 : decode cL_law 569 = .ok (.iload_n 3, 1) := by decide +kernel
theorem dL_law_570 : decode cL_law 570 = .ok (.iconst 2, 1) := by decide +kernel
theorem dL_law_571 : decode cL_law 571 = .ok (.iadd, 1) := by decide +kernel
theorem dL_law_572 : decode cL_law 572 = .ok (.iaload, 1) := by decide +kernel
theorem dL_law_573 : decode cL_law 573 = .ok (.aload_n 0, 1) := by decide +kernel
theorem dL_law_574 : decode cL_law 574 = .ok (.iload_n 3, 1) := by decide +kernel
theorem dL_law_575 : decode cL_law 575 = .ok (.iconst 3, 1) := by decide +kernel
theorem dL_law_576 : decode cL_law 576 = .ok (.iadd, 1) := by decide +kernel
theorem dL_law_577 : decode cL_law 577 = .ok (.iaload, 1) := by decide +kernel
theorem dL_law_578 : decode cL_law 578 = .ok (.aload_n 0, 1) := by decide +kernel
theorem dL_law_579 : decode cL_law 579 = .ok (.iload_n 3, 1) := by decide +kernel
theorem dL_law_580 : decode cL_law 580 = .ok (.iconst 4, 1) := by decide +kernel
theorem dL_law_581 : decode cL_law 581 = .ok (.iadd, 1) := by decide +kernel
theorem dL_law_582 : decode cL_law 582 = .ok (.iaload, 1) := by decide +kernel
theorem dL_law_583 : decode cL_law 583 = .ok (.aload_n 0, 1) := by decide +kernel
theorem dL_law_584 : decode cL_law 584 = .ok (.iload_n 3, 1) := by decide +kernel
theorem dL_law_585 : decode cL_law 585 = .ok (.iconst 5, 1) := by decide +kernel
theorem dL_law_586 : decode cL_law 586 = .ok (.iadd, 1) := by decide +kernel
theorem dL_law_587 : decode cL_law 587 = .ok (.iaload, 1) := by decide +kernel
theorem dL_law_588 : decode cL_law 588 = .ok (.aload_n 0, 1) := by decide +kernel
theorem dL_law_589 : decode cL_law 589 = .ok (.iload_n 3, 1) := by decide +kernel
theorem dL_law_590 : decode cL_law 590 = .ok (.bipush 6, 2) := by decide +kernel
theorem dL_law_592 : decode cL_law 592 = .ok (.iadd, 1) := by decide +kernel
theorem dL_law_593 : decode cL_law 593 = .ok (.iaload, 1) := by decide +kernel
theorem dL_law_594 : decode cL_law 594 = .ok (.invokevirtual 67, 3) := by decide +kernel
theorem dL_law_597 : decode cL_law 597 = .ok (.aload_n 2, 1) := by decide +kernel
theorem dL_law_598 : decode cL_law 598 = .ok (.aload_n 0, 1) := by decide +kernel
theorem dL_law_599 : decode cL_law 599 = .ok (.iload_n 3, 1) := by decide +kernel
theorem dL_law_600 : decode cL_law 600 = .ok (.iconst 1, 1) := by decide +kernel
theorem dL_law_601 : decode cL_law 601 = .ok (.iadd, 1) := by decide +kernel
theorem dL_law_602 : decode cL_law 602 = .ok (.iaload, 1) := by decide +kernel
theorem dL_law_603 : decode cL_law 603 = .ok (.aload_n 0, 1) := by decide +kernel
theorem dL_law_604 : decode cL_law 604 = .ok (.iload_n 3, 1) := by decide +kernel
theorem dL_law_605 : decode cL_law 605 = .ok (.iconst 2, 1) := by decide +kernel
theorem dL_law_606 : decode cL_law 606 = .ok (.iadd, 1) := by decide +kernel
theorem dL_law_607 : decode cL_law 607 = .ok (.iaload, 1) := by decide +kernel
theorem dL_law_608 : decode cL_law 608 = .ok (.aload_n 0, 1) := by decide +kernel
theorem dL_law_609 : decode cL_law 609 = .ok (.iload_n 3, 1) := by decide +kernel
theorem dL_law_610 : decode cL_law 610 = .ok (.iconst 3, 1) := by decide +kernel
theorem dL_law_611 : decode cL_law 611 = .ok (.iadd, 1) := by decide +kernel
theorem dL_law_612 : decode cL_law 612 = .ok (.iaload, 1) := by decide +kernel
theorem dL_law_613 : decode cL_law 613 = .ok (.aload_n 0, 1) := by decide +kernel
theorem dL_law_614 : decode cL_law 614 = .ok (.iload_n 3, 1) := by decide +kernel
theorem dL_law_615 : decode cL_law 615 = .ok (.iconst 4, 1) := by decide +kernel
theorem dL_law_616 : decode cL_law 616 = .ok (.iadd, 1) := by decide +kernel
theorem dL_law_617 : decode cL_law 617 = .ok (.iaload, 1) := by decide +kernel
theorem dL_law_618 : decode cL_law 618 = .ok (.aload_n 0, 1) := by decide +kernel
theorem dL_law_619 : decode cL_law 619 = .ok (.iload_n 3, 1) := by decide +kernel
theorem dL_law_620 : decode cL_law 620 = .ok (.iconst 5, 1) := by decide +kernel
theorem dL_law_621 : decode cL_law 621 = .ok (.iadd, 1) := by decide +kernel
theorem dL_law_622 : decode cL_law 622 = .ok (.iaload, 1) := by decide +kernel
theorem dL_law_623 : decode cL_law 623 = .ok (.aload_n 0, 1) := by decide +kernel
theorem dL_law_624 : decode cL_law 624 = .ok (.iload_n 3, 1) := by decide +kernel
theorem dL_law_625 : decode cL_law 625 = .ok (.bipush 6, 2) := by decide +kernel
theorem dL_law_627 : decode cL_law 627 = .ok (.iadd, 1) := by decide +kernel
theorem dL_law_628 : decode cL_law 628 = .ok (.iaload, 1) := by decide +kernel
theorem dL_law_629 : decode cL_law 629 = .ok (.invokevirtual 71, 3) := by decide +kernel
theorem dL_law_632 : decode cL_law 632 = .ok (.if_icmp .eq 437, 3) := by decide +kernel
theorem dL_law_635 : decode cL_law 635 = .ok (.iconst 0, 1) := by decide +kernel
theorem dL_law_636 : decode cL_law 636 = .ok (.ireturn, 1) := by decide +kernel
theorem dL_law_637 : decode cL_law 637 = .ok (.aload_n 1, 1) := by decide +kernel
theorem dL_law_638 : decode cL_law 638 = .ok (.aload_n 0, 1) := by decide +kernel
theorem dL_law_639 : decode cL_law 639 = .ok (.iload_n 3, 1) := by decide +kernel
theorem dL_law_640 : decode cL_law 640 = .ok (.iconst 1, 1) := by decide +kernel
theorem dL_law_641 : decode cL_law 641 = .ok (.iadd, 1) := by decide +kernel
theorem dL_law_642 : decode cL_law 642 = .ok (.iaload, 1) := by decide +kernel
theorem dL_law_643 : decode cL_law 643 = .ok (.aload_n 0, 1) := by decide +kernel
theorem dL_law_644 : decode cL_law 644 = .ok (.iload_n 3, 1) := by decide +kernel
theorem dL_law_645 : decode cL_law 645 = .ok (.iconst 2, 1) := by decide +kernel
theorem dL_law_646 : decode cL_law 646 = .ok (.iadd, 1) := by decide +kernel
theorem dL_law_647 : decode cL_law 647 = .ok (.iaload, 1) := by decide +kernel
theorem dL_law_648 : decode cL_law 648 = .ok (.aload_n 0, 1) := by decide +kernel
theorem dL_law_649 : decode cL_law 649 = .ok (.iload_n 3, 1) := by decide +kernel
theorem dL_law_650 : decode cL_law 650 = .ok (.iconst 3, 1) := by decide +kernel
theorem dL_law_651 : decode cL_law 651 = .ok (.iadd, 1) := by decide +kernel
theorem dL_law_652 : decode cL_law 652 = .ok (.iaload, 1) := by decide +kernel
theorem dL_law_653 : decode cL_law 653 = .ok (.aload_n 0, 1) := by decide +kernel
theorem dL_law_654 : decode cL_law 654 = .ok (.iload_n 3, 1) := by decide +kernel
theorem dL_law_655 : decode cL_law 655 = .ok (.iconst 4, 1) := by decide +kernel
theorem dL_law_656 : decode cL_law 656 = .ok (.iadd, 1) := by decide +kernel
theorem dL_law_657 : decode cL_law 657 = .ok (.iaload, 1) := by decide +kernel
theorem dL_law_658 : decode cL_law 658 = .ok (.invokevirtual 72, 3) := by decide +kernel
theorem dL_law_661 : decode cL_law 661 = .ok (.aload_n 2, 1) := by decide +kernel
theorem dL_law_662 : decode cL_law 662 = .ok (.aload_n 0, 1) := by decide +kernel
theorem dL_law_663 : decode cL_law 663 = .ok (.iload_n 3, 1) := by decide +kernel
theorem dL_law_664 : decode cL_law 664 = .ok (.iconst 1, 1) := by decide +kernel
theorem dL_law_665 : decode cL_law 665 = .ok (.iadd, 1) := by decide +kernel
theorem dL_law_666 : decode cL_law 666 = .ok (.iaload, 1) := by decide +kernel
theorem dL_law_667 : decode cL_law 667 = .ok (.aload_n 0, 1) := by decide +kernel
theorem dL_law_668 : decode cL_law 668 = .ok (.iload_n 3, 1) := by decide +kernel
theorem dL_law_669 : decode cL_law 669 = .ok (.iconst 2, 1) := by decide +kernel
theorem dL_law_670 : decode cL_law 670 = .ok (.iadd, 1) := by decide +kernel
theorem dL_law_671 : decode cL_law 671 = .ok (.iaload, 1) := by decide +kernel
theorem dL_law_672 : decode cL_law 672 = .ok (.aload_n 0, 1) := by decide +kernel
theorem dL_law_673 : decode cL_law 673 = .ok (.iload_n 3, 1) := by decide +kernel
theorem dL_law_674 : decode cL_law 674 = .ok (.iconst 3, 1) := by decide +kernel
theorem dL_law_675 : decode cL_law 675 = .ok (.iadd, 1) := by decide +kernel
theorem dL_law_676 : decode cL_law 676 = .ok (.iaload, 1) := by decide +kernel
theorem dL_law_677 : decode cL_law 677 = .ok (.aload_n 0, 1) := by decide +kernel
theorem dL_law_678 : decode cL_law 678 = .ok (.iload_n 3, 1) := by decide +kernel
theorem dL_law_679 : decode cL_law 679 = .ok (.iconst 4, 1) := by decide +kernel
theorem dL_law_680 : decode cL_law 680 = .ok (.iadd, 1) := by decide +kernel
theorem dL_law_681 : decode cL_law 681 = .ok (.iaload, 1) := by decide +kernel
theorem dL_law_682 : decode cL_law 682 = .ok (.invokevirtual 75, 3) := by decide +kernel
theorem dL_law_685 : decode cL_law 685 = .ok (.if_icmp .eq 384, 3) := by decide +kernel
theorem dL_law_688 : decode cL_law 688 = .ok (.iconst 0, 1) := by decide +kernel
theorem dL_law_689 : decode cL_law 689 = .ok (.ireturn, 1) := by decide +kernel
theorem dL_law_690 : decode cL_law 690 = .ok (.aload_n 1, 1) := by decide +kernel
theorem dL_law_691 : decode cL_law 691 = .ok (.aload_n 0, 1) := by decide +kernel
theorem dL_law_692 : decode cL_law 692 = .ok (.iload_n 3, 1) := by decide +kernel
theorem dL_law_693 : decode cL_law 693 = .ok (.iconst 1, 1) := by decide +kernel
theorem dL_law_694 : decode cL_law 694 = .ok (.iadd, 1) := by decide +kernel
theorem dL_law_695 : decode cL_law 695 = .ok (.iaload, 1) := by decide +kernel
theorem dL_law_696 : decode cL_law 696 = .ok (.invokevirtual 76, 3) := by decide +kernel
theorem dL_law_699 : decode cL_law 699 = .ok (.aload_n 2, 1) := by decide +kernel
theorem dL_law_700 : decode cL_law 700 = .ok (.aload_n 0, 1) := by decide +kernel
theorem dL_law_701 : decode cL_law 701 = .ok (.iload_n 3, 1) := by decide +kernel
theorem dL_law_702 : decode cL_law 702 = .ok (.iconst 1, 1) := by decide +kernel
theorem dL_law_703 : decode cL_law 703 = .ok (.iadd, 1) := by decide +kernel
theorem dL_law_704 : decode cL_law 704 = .ok (.iaload, 1) := by decide +kernel
theorem dL_law_705 : decode cL_law 705 = .ok (.invokevirtual 79, 3) := by decide +kernel
theorem dL_law_708 : decode cL_law 708 = .ok (.if_icmp .eq 361, 3) := by decide +kernel
theorem dL_law_711 : decode cL_law 711 = .ok (.iconst 0, 1) := by decide +kernel
theorem dL_law_712 : decode cL_law 712 = .ok (.ireturn, 1) := by decide +kernel
theorem dL_law_713 : decode cL_law 713 = .ok (.aload_n 1, 1) := by decide +kernel
theorem dL_law_714 : decode cL_law 714 = .ok (.aload_n 0, 1) := by decide +kernel
theorem dL_law_715 : decode cL_law 715 = .ok (.iload_n 3, 1) := by decide +kernel
theorem dL_law_716 : decode cL_law 716 = .ok (.iconst 1, 1) := by decide +kernel
theorem dL_law_717 : decode cL_law 717 = .ok (.iadd, 1) := by decide +kernel
theorem dL_law_718 : decode cL_law 718 = .ok (.iaload, 1) := by decide +kernel
theorem dL_law_719 : decode cL_law 719 = .ok (.invokevirtual 80, 3) := by decide +kernel
theorem dL_law_722 : decode cL_law 722 = .ok (.aload_n 2, 1) := by decide +kernel
theorem dL_law_723 : decode cL_law 723 = .ok (.aload_n 0, 1) := by decide +kernel
theorem dL_law_724 : decode cL_law 724 = .ok (.iload_n 3, 1) := by decide +kernel
theorem dL_law_725 : decode cL_law 725 = .ok (.iconst 1, 1) := by decide +kernel
theorem dL_law_726 : decode cL_law 726 = .ok (.iadd, 1) := by decide +kernel
theorem dL_law_727 : decode cL_law 727 = .ok (.iaload, 1) := by decide +kernel
theorem dL_law_728 : decode cL_law 728 = .ok (.invokevirtual 83, 3) := by decide +kernel
theorem dL_law_731 : decode cL_law 731 = .ok (.if_icmp .eq 338, 3) := by decide +kernel
theorem dL_law_734 : decode cL_law 734 = .ok (.iconst 0, 1) := by decide +kernel
theorem dL_law_735 : decode cL_law 735 = .ok (.ireturn, 1) := by decide +kernel
theorem dL_law_736 : decode cL_law 736 = .ok (.aload_n 1, 1) := by decide +kernel
theorem dL_law_737 : decode cL_law 737 = .ok (.aload_n 0, 1) := by decide +kernel
theorem dL_law_738 : decode cL_law 738 = .ok (.iload_n 3, 1) := by decide +kernel
theorem dL_law_739 : decode cL_law 739 = .ok (.iconst 1, 1) := by decide +kernel
theorem dL_law_740 : decode cL_law 740 = .ok (.iadd, 1) := by decide +kernel
theorem dL_law_741 : decode cL_law 741 = .ok (.iaload, 1) := by decide +kernel
theorem dL_law_742 : decode cL_law 742 = .ok (.aload_n 0, 1) := by decide +kernel
theorem dL_law_743 : decode cL_law 743 = .ok (.iload_n 3, 1) := by decide +kernel
theorem dL_law_744 : decode cL_law 744 = .ok (.iconst 2, 1) := by decide +kernel
theorem dL_law_745 : decode cL_law 745 = .ok (.iadd, 1) := by decide +kernel
theorem dL_law_746 : decode cL_law 746 = .ok (.iaload, 1) := by decide +kernel
theorem dL_law_747 : decode cL_law 747 = .ok (.aload_n 0, 1) := by decide +kernel
theorem dL_law_748 : decode cL_law 748 = .ok (.iload_n 3, 1) := by decide +kernel
theorem dL_law_749 : decode cL_law 749 = .ok (.iconst 3, 1) := by decide +kernel
theorem dL_law_750 : decode cL_law 750 = .ok (.iadd, 1) := by decide +kernel
theorem dL_law_751 : decode cL_law 751 = .ok (.iaload, 1) := by decide +kernel
theorem dL_law_752 : decode cL_law 752 = .ok (.invokevirtual 84, 3) := by decide +kernel
theorem dL_law_755 : decode cL_law 755 = .ok (.aload_n 2, 1) := by decide +kernel
theorem dL_law_756 : decode cL_law 756 = .ok (.aload_n 0, 1) := by decide +kernel
theorem dL_law_757 : decode cL_law 757 = .ok (.iload_n 3, 1) := by decide +kernel
theorem dL_law_758 : decode cL_law 758 = .ok (.iconst 1, 1) := by decide +kernel
theorem dL_law_759 : decode cL_law 759 = .ok (.iadd, 1) := by decide +kernel
theorem dL_law_760 : decode cL_law 760 = .ok (.iaload, 1) := by decide +kernel
theorem dL_law_761 : decode cL_law 761 = .ok (.aload_n 0, 1) := by decide +kernel
theorem dL_law_762 : decode cL_law 762 = .ok (.iload_n 3, 1) := by decide +kernel
theorem dL_law_763 : decode cL_law 763 = .ok (.iconst 2, 1) := by decide +kernel
theorem dL_law_764 : decode cL_law 764 = .ok (.iadd, 1) := by decide +kernel
theorem dL_law_765 : decode cL_law 765 = .ok (.iaload, 1) := by decide +kernel
theorem dL_law_766 : decode cL_law 766 = .ok (.aload_n 0, 1) := by decide +kernel
theorem dL_law_767 : decode cL_law 767 = .ok (.iload_n 3, 1) := by decide +kernel
theorem dL_law_768 : decode cL_law 768 = .ok (.iconst 3, 1) := by decide +kernel
theorem dL_law_769 : decode cL_law 769 = .ok (.iadd, 1) := by decide +kernel
theorem dL_law_770 : decode cL_law 770 = .ok (.iaload, 1) := by decide +kernel
theorem dL_law_771 : decode cL_law 771 = .ok (.invokevirtual 87, 3) := by decide +kernel
theorem dL_law_774 : decode cL_law 774 = .ok (.if_icmp .eq 295, 3) := by decide +kernel
theorem dL_law_777 : decode cL_law 777 = .ok (.iconst 0, 1) := by decide +kernel
theorem dL_law_778 : decode cL_law 778 = .ok (.ireturn, 1) := by decide +kernel
theorem dL_law_779 : decode cL_law 779 = .ok (.aload_n 1, 1) := by decide +kernel
theorem dL_law_780 : decode cL_law 780 = .ok (.aload_n 0, 1) := by decide +kernel
theorem dL_law_781 : decode cL_law 781 = .ok (.iload_n 3, 1) := by decide +kernel
theorem dL_law_782 : decode cL_law 782 = .ok (.iconst 1, 1) := by decide +kernel
theorem dL_law_783 : decode cL_law 783 = .ok (.iadd, 1) := by decide +kernel
theorem dL_law_784 : decode cL_law 784 = .ok (.iaload, 1) := by decide +kernel
theorem dL_law_785 : decode cL_law 785 = .ok (.aload_n 0, 1) := by decide +kernel
theorem dL_law_786 : decode cL_law 786 = .ok (.iload_n 3, 1) := by decide +kernel
theorem dL_law_787 : decode cL_law 787 = .ok (.iconst 2, 1) := by decide +kernel
theorem dL_law_788 : decode cL_law 788 = .ok (.iadd, 1) := by decide +kernel
theorem dL_law_789 : decode cL_law 789 = .ok (.iaload, 1) := by decide +kernel
theorem dL_law_790 : decode cL_law 790 = .ok (.invokevirtual 88, 3) := by decide +kernel
theorem dL_law_793 : decode cL_law 793 = .ok (.aload_n 2, 1) := by decide +kernel
theorem dL_law_794 : decode cL_law 794 = .ok (.aload_n 0, 1) := by decide +kernel
theorem dL_law_795 : decode cL_law 795 = .ok (.iload_n 3, 1) := by decide +kernel
theorem dL_law_796 : decode cL_law 796 = .ok (.iconst 1, 1) := by decide +kernel
theorem dL_law_797 : decode cL_law 797 = .ok (.iadd, 1) := by decide +kernel
theorem dL_law_798 : decode cL_law 798 = .ok (.iaload, 1) := by decide +kernel
theorem dL_law_799 : decode cL_law 799 = .ok (.aload_n 0, 1) := by decide +kernel
theorem dL_law_800 : decode cL_law 800 = .ok (.iload_n 3, 1) := by decide +kernel
theorem dL_law_801 : decode cL_law 801 = .ok (.iconst 2, 1) := by decide +kernel
theorem dL_law_802 : decode cL_law 802 = .ok (.iadd, 1) := by decide +kernel
theorem dL_law_803 : decode cL_law 803 = .ok (.iaload, 1) := by decide +kernel
theorem dL_law_804 : decode cL_law 804 = .ok (.invokevirtual 91, 3) := by decide +kernel
theorem dL_law_807 : decode cL_law 807 = .ok (.if_icmp .eq 262, 3) := by decide +kernel
theorem dL_law_810 : decode cL_law 810 = .ok (.iconst 0, 1) := by decide +kernel
theorem dL_law_811 : decode cL_law 811 = .ok (.ireturn, 1) := by decide +kernel
theorem dL_law_812 : decode cL_law 812 = .ok (.aload_n 1, 1) := by decide +kernel
theorem dL_law_813 : decode cL_law 813 = .ok (.invokevirtual 92, 3) := by decide +kernel
theorem dL_law_816 : decode cL_law 816 = .ok (.aload_n 2, 1) := by decide +kernel
theorem dL_law_817 : decode cL_law 817 = .ok (.invokevirtual 95, 3) := by decide +kernel
theorem dL_law_820 : decode cL_law 820 = .ok (.if_icmp .eq 249, 3) := by decide +kernel
theorem dL_law_823 : decode cL_law 823 = .ok (.iconst 0, 1) := by decide +kernel
theorem dL_law_824 : decode cL_law 824 = .ok (.ireturn, 1) := by decide +kernel
theorem dL_law_825 : decode cL_law 825 = .ok (.aload_n 1, 1) := by decide +kernel
theorem dL_law_826 : decode cL_law 826 = .ok (.aload_n 0, 1) := by decide +kernel
theorem dL_law_827 : decode cL_law 827 = .ok (.iload_n 3, 1) := by decide +kernel
theorem dL_law_828 : decode cL_law 828 = .ok (.iconst 1, 1) := by decide +kernel
theorem dL_law_829 : decode cL_law 829 = .ok (.iadd, 1) := by decide +kernel
theorem dL_law_830 : decode cL_law 830 = .ok (.iaload, 1) := by decide +kernel
theorem dL_law_831 : decode cL_law 831 = .ok (.invokevirtual 96, 3) := by decide +kernel
theorem dL_law_834 : decode cL_law 834 = .ok (.aload_n 2, 1) := by decide +kernel
theorem dL_law_835 : decode cL_law 835 = .ok (.aload_n 0, 1) := by decide +kernel
theorem dL_law_836 : decode cL_law 836 = .ok (.iload_n 3, 1) := by decide +kernel
theorem dL_law_837 : decode cL_law 837 = .ok (.iconst 1, 1) := by decide +kernel
theorem dL_law_838 : decode cL_law 838 = .ok (.iadd, 1) := by decide +kernel
theorem dL_law_839 : decode cL_law 839 = .ok (.iaload, 1) := by decide +kernel
theorem dL_law_840 : decode cL_law 840 = .ok (.invokevirtual 99, 3) := by decide +kernel
theorem dL_law_843 : decode cL_law 843 = .ok (.if_icmp .eq 226, 3) := by decide +kernel
theorem dL_law_846 : decode cL_law 846 = .ok (.iconst 0, 1) := by decide +kernel
theorem dL_law_847 : decode cL_law 847 = .ok (.ireturn, 1) := by decide +kernel
theorem dL_law_848 : decode cL_law 848 = .ok (.aload_n 1, 1) := by decide +kernel
theorem dL_law_849 : decode cL_law 849 = .ok (.invokevirtual 100, 3) := by decide +kernel
theorem dL_law_852 : decode cL_law 852 = .ok (.aload_n 2, 1) := by decide +kernel
theorem dL_law_853 : decode cL_law 853 = .ok (.invokevirtual 103, 3) := by decide +kernel
theorem dL_law_856 : decode cL_law 856 = .ok (.if_icmp .eq 213, 3) := by decide +kernel
theorem dL_law_859 : decode cL_law 859 = .ok (.iconst 0, 1) := by decide +kernel
theorem dL_law_860 : decode cL_law 860 = .ok (.ireturn, 1) := by decide +kernel
theorem dL_law_861 : decode cL_law 861 = .ok (.aload_n 1, 1) := by decide +kernel
theorem dL_law_862 : decode cL_law 862 = .ok (.aload_n 0, 1) := by decide +kernel
theorem dL_law_863 : decode cL_law 863 = .ok (.iload_n 3, 1) := by decide +kernel
theorem dL_law_864 : decode cL_law 864 = .ok (.iconst 1, 1) := by decide +kernel
theorem dL_law_865 : decode cL_law 865 = .ok (.iadd, 1) := by decide +kernel
theorem dL_law_866 : decode cL_law 866 = .ok (.iaload, 1) := by decide +kernel
theorem dL_law_867 : decode cL_law 867 = .ok (.aload_n 0, 1) := by decide +kernel
theorem dL_law_868 : decode cL_law 868 = .ok (.iload_n 3, 1) := by decide +kernel
theorem dL_law_869 : decode cL_law 869 = .ok (.iconst 2, 1) := by decide +kernel
theorem dL_law_870 : decode cL_law 870 = .ok (.iadd, 1) := by decide +kernel
theorem dL_law_871 : decode cL_law 871 = .ok (.iaload, 1) := by decide +kernel
theorem dL_law_872 : decode cL_law 872 = .ok (.invokevirtual 104, 3) := by decide +kernel
theorem dL_law_875 : decode cL_law 875 = .ok (.aload_n 2, 1) := by decide +kernel
theorem dL_law_876 : decode cL_law 876 = .ok (.aload_n 0, 1) := by decide +kernel
theorem dL_law_877 : decode cL_law 877 = .ok (.iload_n 3, 1) := by decide +kernel
theorem dL_law_878 : decode cL_law 878 = .ok (.iconst 1, 1) := by decide +kernel
theorem dL_law_879 : decode cL_law 879 = .ok (.iadd, 1) := by decide +kernel
theorem dL_law_880 : decode cL_law 880 = .ok (.iaload, 1) := by decide +kernel
theorem dL_law_881 : decode cL_law 881 = .ok (.aload_n 0, 1) := by decide +kernel
theorem dL_law_882 : decode cL_law 882 = .ok (.iload_n 3, 1) := by decide +kernel
theorem dL_law_883 : decode cL_law 883 = .ok (.iconst 2, 1) := by decide +kernel
theorem dL_law_884 : decode cL_law 884 = .ok (.iadd, 1) := by decide +kernel
theorem dL_law_885 : decode cL_law 885 = .ok (.iaload, 1) := by decide +kernel
theorem dL_law_886 : decode cL_law 886 = .ok (.invokevirtual 107, 3) := by decide +kernel
theorem dL_law_889 : decode cL_law 889 = .ok (.if_icmp .eq 180, 3) := by decide +kernel
theorem dL_law_892 : decode cL_law 892 = .ok (.iconst 0, 1) := by decide +kernel
theorem dL_law_893 : decode cL_law 893 = .ok (.ireturn, 1) := by decide +kernel
theorem dL_law_894 : decode cL_law 894 = .ok (.aload_n 1, 1) := by decide +kernel
theorem dL_law_895 : decode cL_law 895 = .ok (.aload_n 0, 1) := by decide +kernel
theorem dL_law_896 : decode cL_law 896 = .ok (.iload_n 3, 1) := by decide +kernel
theorem dL_law_897 : decode cL_law 897 = .ok (.iconst 1, 1) := by decide +kernel
theorem dL_law_898 : decode cL_law 898 = .ok (.iadd, 1) := by decide +kernel
theorem dL_law_899 : decode cL_law 899 = .ok (.iaload, 1) := by decide +kernel
theorem dL_law_900 : decode cL_law 900 = .ok (.aload_n 0, 1) := by decide +kernel
theorem dL_law_901 : decode cL_law 901 = .ok (.iload_n 3, 1) := by decide +kernel
theorem dL_law_902 : decode cL_law 902 = .ok (.iconst 2, 1) := by decide +kernel
theorem dL_law_903 : decode cL_law 903 = .ok (.iadd, 1) := by decide +kernel
theorem dL_law_904 : decode cL_law 904 = .ok (.iaload, 1) := by decide +kernel
theorem dL_law_905 : decode cL_law 905 = .ok (.aload_n 0, 1) := by decide +kernel
theorem dL_law_906 : decode cL_law 906 = .ok (.iload_n 3, 1) := by decide +kernel
theorem dL_law_907 : decode cL_law 907 = .ok (.iconst 3, 1) := by decide +kernel
theorem dL_law_908 : decode cL_law 908 = .ok (.iadd, 1) := by decide +kernel
theorem dL_law_909 : decode cL_law 909 = .ok (.iaload, 1) := by decide +kernel
theorem dL_law_910 : decode cL_law 910 = .ok (.aload_n 0, 1) := by decide +kernel
theorem dL_law_911 : decode cL_law 911 = .ok (.iload_n 3, 1) := by decide +kernel
theorem dL_law_912 : decode cL_law 912 = .ok (.iconst 4, 1) := by decide +kernel
theorem dL_law_913 : decode cL_law 913 = .ok (.iadd, 1) := by decide +kernel
theorem dL_law_914 : decode cL_law 914 = .ok (.iaload, 1) := by decide +kernel
theorem dL_law_915 : decode cL_law 915 = .ok (.invokevirtual 108, 3) := by decide +kernel
theorem dL_law_918 : decode cL_law 918 = .ok (.aload_n 2, 1) := by decide +kernel
theorem dL_law_919 : decode cL_law 919 = .ok (.aload_n 0, 1) := by decide +kernel
theorem dL_law_920 : decode cL_law 920 = .ok (.iload_n 3, 1) := by decide +kernel
theorem dL_law_921 : decode cL_law 921 = .ok (.iconst 1, 1) := by decide +kernel
theorem dL_law_922 : decode cL_law 922 = .ok (.iadd, 1) := by decide +kernel
theorem dL_law_923 : decode cL_law 923 = .ok (.iaload, 1) := by decide +kernel
theorem dL_law_924 : decode cL_law 924 = .ok (.aload_n 0, 1) := by decide +kernel
theorem dL_law_925 : decode cL_law 925 = .ok (.iload_n 3, 1) := by decide +kernel
theorem dL_law_926 : decode cL_law 926 = .ok (.iconst 2, 1) := by decide +kernel
theorem dL_law_927 : decode cL_law 927 = .ok (.iadd, 1) := by decide +kernel
theorem dL_law_928 : decode cL_law 928 = .ok (.iaload, 1) := by decide +kernel
theorem dL_law_929 : decode cL_law 929 = .ok (.aload_n 0, 1) := by decide +kernel
theorem dL_law_930 : decode cL_law 930 = .ok (.iload_n 3, 1) := by decide +kernel
theorem dL_law_931 : decode cL_law 931 = .ok (.iconst 3, 1) := by decide +kernel
theorem dL_law_932 : decode cL_law 932 = .ok (.iadd, 1) := by decide +kernel
theorem dL_law_933 : decode cL_law 933 = .ok (.iaload, 1) := by decide +kernel
theorem dL_law_934 : decode cL_law 934 = .ok (.aload_n 0, 1) := by decide +kernel
theorem dL_law_935 : decode cL_law 935 = .ok (.iload_n 3, 1) := by decide +kernel
theorem dL_law_936 : decode cL_law 936 = .ok (.iconst 4, 1) := by decide +kernel
theorem dL_law_937 : decode cL_law 937 = .ok (.iadd, 1) := by decide +kernel
theorem dL_law_938 : decode cL_law 938 = .ok (.iaload, 1) := by decide +kernel
theorem dL_law_939 : decode cL_law 939 = .ok (.invokevirtual 111, 3) := by decide +kernel
theorem dL_law_942 : decode cL_law 942 = .ok (.if_icmp .eq 127, 3) := by decide +kernel
theorem dL_law_945 : decode cL_law 945 = .ok (.iconst 0, 1) := by decide +kernel
theorem dL_law_946 : decode cL_law 946 = .ok (.ireturn, 1) := by decide +kernel
theorem dL_law_947 : decode cL_law 947 = .ok (.aload_n 1, 1) := by decide +kernel
theorem dL_law_948 : decode cL_law 948 = .ok (.aload_n 0, 1) := by decide +kernel
theorem dL_law_949 : decode cL_law 949 = .ok (.iload_n 3, 1) := by decide +kernel
theorem dL_law_950 : decode cL_law 950 = .ok (.iconst 1, 1) := by decide +kernel
theorem dL_law_951 : decode cL_law 951 = .ok (.iadd, 1) := by decide +kernel
theorem dL_law_952 : decode cL_law 952 = .ok (.iaload, 1) := by decide +kernel
theorem dL_law_953 : decode cL_law 953 = .ok (.aload_n 0, 1) := by decide +kernel
theorem dL_law_954 : decode cL_law 954 = .ok (.iload_n 3, 1) := by decide +kernel
theorem dL_law_955 : decode cL_law 955 = .ok (.iconst 2, 1) := by decide +kernel
theorem dL_law_956 : decode cL_law 956 = .ok (.iadd, 1) := by decide +kernel
theorem dL_law_957 : decode cL_law 957 = .ok (.iaload, 1) := by decide +kernel
theorem dL_law_958 : decode cL_law 958 = .ok (.aload_n 0, 1) := by decide +kernel
theorem dL_law_959 : decode cL_law 959 = .ok (.iload_n 3, 1) := by decide +kernel
theorem dL_law_960 : decode cL_law 960 = .ok (.iconst 3, 1) := by decide +kernel
theorem dL_law_961 : decode cL_law 961 = .ok (.iadd, 1) := by decide +kernel
theorem dL_law_962 : decode cL_law 962 = .ok (.iaload, 1) := by decide +kernel
theorem dL_law_963 : decode cL_law 963 = .ok (.aload_n 0, 1) := by decide +kernel
theorem dL_law_964 : decode cL_law 964 = .ok (.iload_n 3, 1) := by decide +kernel
theorem dL_law_965 : decode cL_law 965 = .ok (.iconst 4, 1) := by decide +kernel
theorem dL_law_966 : decode cL_law 966 = .ok (.iadd, 1) := by decide +kernel
theorem dL_law_967 : decode cL_law 967 = .ok (.iaload, 1) := by decide +kernel
theorem dL_law_968 : decode cL_law 968 = .ok (.invokevirtual 112, 3) := by decide +kernel
theorem dL_law_971 : decode cL_law 971 = .ok (.aload_n 2, 1) := by decide +kernel
theorem dL_law_972 : decode cL_law 972 = .ok (.aload_n 0, 1) := by decide +kernel
theorem dL_law_973 : decode cL_law 973 = .ok (.iload_n 3, 1) := by decide +kernel
theorem dL_law_974 : decode cL_law 974 = .ok (.iconst 1, 1) := by decide +kernel
theorem dL_law_975 : decode cL_law 975 = .ok (.iadd, 1) := by decide +kernel
theorem dL_law_976 : decode cL_law 976 = .ok (.iaload, 1) := by decide +kernel
theorem dL_law_977 : decode cL_law 977 = .ok (.aload_n 0, 1) := by decide +kernel
theorem dL_law_978 : decode cL_law 978 = .ok (.iload_n 3, 1) := by decide +kernel
theorem dL_law_979 : decode cL_law 979 = .ok (.iconst 2, 1) := by decide +kernel
theorem dL_law_980 : decode cL_law 980 = .ok (.iadd, 1) := by decide +kernel
theorem dL_law_981 : decode cL_law 981 = .ok (.iaload, 1) := by decide +kernel
theorem dL_law_982 : decode cL_law 982 = .ok (.aload_n 0, 1) := by decide +kernel
theorem dL_law_983 : decode cL_law 983 = .ok (.iload_n 3, 1) := by decide +kernel
theorem dL_law_984 : decode cL_law 984 = .ok (.iconst 3, 1) := by decide +kernel
theorem dL_law_985 : decode cL_law 985 = .ok (.iadd, 1) := by decide +kernel
theorem dL_law_986 : decode cL_law 986 = .ok (.iaload, 1) := by decide +kernel
theorem dL_law_987 : decode cL_law 987 = .ok (.aload_n 0, 1) := by decide +kernel
theorem dL_law_988 : decode cL_law 988 = .ok (.iload_n 3, 1) := by decide +kernel
theorem dL_law_989 : decode cL_law 989 = .ok (.iconst 4, 1) := by decide +kernel
theorem dL_law_990 : decode cL_law 990 = .ok (.iadd, 1) := by decide +kernel
theorem dL_law_991 : decode cL_law 991 = .ok (.iaload, 1) := by decide +kernel
theorem dL_law_992 : decode cL_law 992 = .ok (.invokevirtual 115, 3) := by decide +kernel
theorem dL_law_995 : decode cL_law 995 = .ok (.if_icmp .eq 74, 3) := by decide +kernel
theorem dL_law_998 : decode cL_law 998 = .ok (.iconst 0, 1) := by decide +kernel
theorem dL_law_999 : decode cL_law 999 = .ok (.ireturn, 1) := by decide +kernel
theorem dL_law_1000 : decode cL_law 1000 = .ok (.aload_n 1, 1) := by decide +kernel
theorem dL_law_1001 : decode cL_law 1001 = .ok (.aload_n 0, 1) := by decide +kernel
theorem dL_law_1002 : decode cL_law 1002 = .ok (.iload_n 3, 1) := by decide +kernel
theorem dL_law_1003 : decode cL_law 1003 = .ok (.iconst 1, 1) := by decide +kernel
theorem dL_law_1004 : decode cL_law 1004 = .ok (.iadd, 1) := by decide +kernel
theorem dL_law_1005 : decode cL_law 1005 = .ok (.iaload, 1) := by decide +kernel
theorem dL_law_1006 : decode cL_law 1006 = .ok (.invokevirtual 116, 3) := by decide +kernel
theorem dL_law_1009 : decode cL_law 1009 = .ok (.aload_n 2, 1) := by decide +kernel
theorem dL_law_1010 : decode cL_law 1010 = .ok (.aload_n 0, 1) := by decide +kernel
theorem dL_law_1011 : decode cL_law 1011 = .ok (.iload_n 3, 1) := by decide +kernel
theorem dL_law_1012 : decode cL_law 1012 = .ok (.iconst 1, 1) := by decide +kernel
theorem dL_law_1013 : decode cL_law 1013 = .ok (.iadd, 1) := by decide +kernel
theorem dL_law_1014 : decode cL_law 1014 = .ok (.iaload, 1) := by decide +kernel
theorem dL_law_1015 : decode cL_law 1015 = .ok (.invokevirtual 119, 3) := by decide +kernel
theorem dL_law_1018 : decode cL_law 1018 = .ok (.if_icmp .eq 51, 3) := by decide +kernel
theorem dL_law_1021 : decode cL_law 1021 = .ok (.iconst 0, 1) := by decide +kernel
theorem dL_law_1022 : decode cL_law 1022 = .ok (.ireturn, 1) := by decide +kernel
theorem dL_law_1023 : decode cL_law 1023 = .ok (.aload_n 1, 1) := by decide +kernel
theorem dL_law_1024 : decode cL_law 1024 = .ok (.aload_n 0, 1) := by decide +kernel
theorem dL_law_1025 : decode cL_law 1025 = .ok (.iload_n 3, 1) := by decide +kernel
theorem dL_law_1026 : decode cL_law 1026 = .ok (.iconst 1, 1) := by decide +kernel
theorem dL_law_1027 : decode cL_law 1027 = .ok (.iadd, 1) := by decide +kernel
theorem dL_law_1028 : decode cL_law 1028 = .ok (.iaload, 1) := by decide +kernel
theorem dL_law_1029 : decode cL_law 1029 = .ok (.invokevirtual 120, 3) := by decide +kernel
theorem dL_law_1032 : decode cL_law 1032 = .ok (.aload_n 2, 1) := by decide +kernel
theorem dL_law_1033 : decode cL_law 1033 = .ok (.aload_n 0, 1) := by decide +kernel
theorem dL_law_1034 : decode cL_law 1034 = .ok (.iload_n 3, 1) := by decide +kernel
theorem dL_law_1035 : decode cL_law 1035 = .ok (.iconst 1, 1) := by decide +kernel
theorem dL_law_1036 : decode cL_law 1036 = .ok (.iadd, 1) := by decide +kernel
theorem dL_law_1037 : decode cL_law 1037 = .ok (.iaload, 1) := by decide +kernel
theorem dL_law_1038 : decode cL_law 1038 = .ok (.invokevirtual 123, 3) := by decide +kernel
theorem dL_law_1041 : decode cL_law 1041 = .ok (.if_icmp .eq 28, 3) := by decide +kernel
theorem dL_law_1044 : decode cL_law 1044 = .ok (.iconst 0, 1) := by decide +kernel
theorem dL_law_1045 : decode cL_law 1045 = .ok (.ireturn, 1) := by decide +kernel
theorem dL_law_1046 : decode cL_law 1046 = .ok (.aload_n 1, 1) := by decide +kernel
theorem dL_law_1047 : decode cL_law 1047 = .ok (.aload_n 0, 1) := by decide +kernel
theorem dL_law_1048 : decode cL_law 1048 = .ok (.iload_n 3, 1) := by decide +kernel
theorem dL_law_1049 : decode cL_law 1049 = .ok (.iconst 1, 1) := by decide +kernel
theorem dL_law_1050 : decode cL_law 1050 = .ok (.iadd, 1) := by decide +kernel
theorem dL_law_1051 : decode cL_law 1051 = .ok (.iaload, 1) := by decide +kernel
theorem dL_law_1052 : decode cL_law 1052 = .ok (.invokevirtual 124, 3) := by decide +kernel
theorem dL_law_1055 : decode cL_law 1055 = .ok (.aload_n 2, 1) := by decide +kernel
theorem dL_law_1056 : decode cL_law 1056 = .ok (.aload_n 0, 1) := by decide +kernel
theorem dL_law_1057 : decode cL_law 1057 = .ok (.iload_n 3, 1) := by decide +kernel
theorem dL_law_1058 : decode cL_law 1058 = .ok (.iconst 1, 1) := by decide +kernel
theorem dL_law_1059 : decode cL_law 1059 = .ok (.iadd, 1) := by decide +kernel
theorem dL_law_1060 : decode cL_law 1060 = .ok (.iaload, 1) := by decide +kernel
theorem dL_law_1061 : decode cL_law 1061 = .ok (.invokevirtual 127, 3) := by decide +kernel
theorem dL_law_1064 : decode cL_law 1064 = .ok (.if_icmp .eq 5, 3) := by decide +kernel
theorem dL_law_1067 : decode cL_law 1067 = .ok (.iconst 0, 1) := by decide +kernel
theorem dL_law_1068 : decode cL_law 1068 = .ok (.ireturn, 1) := by decide +kernel
theorem dL_law_1069 : decode cL_law 1069 = .ok (.iinc 3 7, 3) := by decide +kernel
theorem dL_law_1072 : decode cL_law 1072 = .ok (.goto (-1054), 3) := by decide +kernel
theorem dL_law_1075 : decode cL_law 1075 = .ok (.iconst 1, 1) := by decide +kernel
theorem dL_law_1076 : decode cL_law 1076 = .ok (.ireturn, 1) := by decide +kernel
end
section
theorem wt_1 : ∀ w ∈ tables_1_1, w ∈ lw_tbl := fun _ h => List.mem_append_right _ (List.mem_append_left _ h)
theorem wt_2 : ∀ w ∈ tables_1_2, w ∈ lw_tbl := fun _ h => List.mem_append_right _ (List.mem_append_right _ (List.mem_append_left _ h))
theorem wt_3 : ∀ w ∈ tables_1_3, w ∈ lw_tbl := fun _ h => List.mem_append_right _ (List.mem_append_right _ (List.mem_append_right _ (List.mem_append_left _ h)))
theorem wt_4 : ∀ w ∈ tables_1_4, w ∈ lw_tbl := fun _ h => List.mem_append_right _ (List.mem_append_right _ (List.mem_append_right _ (List.mem_append_right _ (List.mem_append_left _ h))))
theorem wt_5 : ∀ w ∈ tables_1_5, w ∈ lw_tbl := fun _ h => List.mem_append_right _ (List.mem_append_right _ (List.mem_append_right _ (List.mem_append_right _ (List.mem_append_right _ h))))
theorem ws_1 : ∀ q ∈ lw_privs_1, Cond.selects q.1.cls q.1 q.1 ∈ lw_tbl := fun _ h => List.mem_append_left _ (List.mem_map_of_mem (f := fun q : MethodName × Nat => Cond.selects q.1.cls q.1 q.1) (List.mem_append_left _ h))
theorem ws_2 : ∀ q ∈ lw_privs_2, Cond.selects q.1.cls q.1 q.1 ∈ lw_tbl := fun _ h => List.mem_append_left _ (List.mem_map_of_mem (f := fun q : MethodName × Nat => Cond.selects q.1.cls q.1 q.1) (List.mem_append_right _ (List.mem_append_left _ h)))
theorem ws_3 : ∀ q ∈ lw_privs_3, Cond.selects q.1.cls q.1 q.1 ∈ lw_tbl := fun _ h => List.mem_append_left _ (List.mem_map_of_mem (f := fun q : MethodName × Nat => Cond.selects q.1.cls q.1 q.1) (List.mem_append_right _ (List.mem_append_right _ h)))
theorem wl_1_0 : Cond.classLink RL 7 RX10 ∈ lw_tbl := wt_1 _ (List.mem_of_getElem? (i := 17) rfl)
theorem wl_1_1 : Cond.instantiable RX10 8 ∈ lw_tbl := wt_1 _ (List.mem_of_getElem? (i := 18) rfl)
theorem wl_1_2 : Cond.initialized RX10 ∈ lw_tbl := wt_1 _ (List.mem_of_getElem? (i := 1) rfl)
theorem wl_1_3 : Cond.classLink RL 10 RX11 ∈ lw_tbl := wt_3 _ (List.mem_of_getElem? (i := 205) rfl)
theorem wl_1_4 : Cond.instantiable RX11 35 ∈ lw_tbl := wt_3 _ (List.mem_of_getElem? (i := 206) rfl)
theorem wl_1_5 : Cond.initialized RX11 ∈ lw_tbl := wt_1 _ (List.mem_of_getElem? (i := 11) rfl)
theorem wl_1_6 : Cond.methodLink RL 9 yX10_init ∈ lw_tbl := wt_1 _ (List.mem_of_getElem? (i := 19) rfl)
theorem wl_1_7 : Cond.instanceMethod yX10_init ∈ lw_tbl := wt_1 _ (List.mem_of_getElem? (i := 20) rfl)
theorem wl_1_8 : Cond.code yX10_init cX10_init 1 none ∈ lw_tbl := wt_1 _ (List.mem_of_getElem? (i := 21) rfl)
theorem wl_1_9 : Cond.methodLink RX10 1 objectInit ∈ lw_tbl := wt_1 _ (List.mem_of_getElem? (i := 22) rfl)
theorem wl_1_10 : Cond.instanceMethod objectInit ∈ lw_tbl := wt_1 _ (List.mem_of_getElem? (i := 23) rfl)
theorem wl_1_11 : Cond.code objectInit ⟨#[0xb1]⟩ 1 none ∈ lw_tbl := wt_1 _ (List.mem_of_getElem? (i := 24) rfl)
theorem wl_1_12 : Cond.classLink RX10 7 RX4 ∈ lw_tbl := wt_1 _ (List.mem_of_getElem? (i := 25) rfl)
theorem wl_1_13 : Cond.instantiable RX4 2 ∈ lw_tbl := wt_1 _ (List.mem_of_getElem? (i := 26) rfl)
theorem wl_1_14 : Cond.initialized RX4 ∈ lw_tbl := wt_1 _ (List.mem_of_getElem? (i := 2) rfl)
theorem wl_1_15 : Cond.fieldLink RX10 10 "RoundThrow" "pad" "LRoundThrow$Pad;" ∈ lw_tbl := wt_1 _ (List.mem_of_getElem? (i := 216) rfl)
theorem wl_1_16 : Cond.classLink RX10 16 RX7 ∈ lw_tbl := wt_1 _ (List.mem_of_getElem? (i := 42) rfl)
theorem wl_1_17 : Cond.instantiable RX7 6 ∈ lw_tbl := wt_1 _ (List.mem_of_getElem? (i := 43) rfl)
theorem wl_1_18 : Cond.initialized RX7 ∈ lw_tbl := wt_1 _ (List.mem_of_getElem? (i := 3) rfl)
theorem wl_1_19 : Cond.fieldLink RX10 19 "RoundThrow" "setup" "LRoundThrow$Setup;" ∈ lw_tbl := wt_1 _ (List.mem_of_getElem? (i := 217) rfl)
theorem wl_1_20 : Cond.fieldLink RX10 23 "RoundThrow" "images" "[LRoundThrow$Setup;" ∈ lw_tbl := wt_1 _ (List.mem_of_getElem? (i := 218) rfl)
theorem wl_1_21 : Cond.classLink RX10 27 RX5 ∈ lw_tbl := wt_1 _ (List.mem_of_getElem? (i := 121) rfl)
theorem wl_1_22 : Cond.instantiable RX5 2 ∈ lw_tbl := wt_1 _ (List.mem_of_getElem? (i := 122) rfl)
theorem wl_1_23 : Cond.initialized RX5 ∈ lw_tbl := wt_1 _ (List.mem_of_getElem? (i := 6) rfl)
theorem wr_1 : ∀ w ∈ wsL_law_r1, w ∈ lw_tbl ∧ goodWord w = true := List.forall_mem_cons.mpr ⟨⟨wl_1_0, rfl⟩, List.forall_mem_cons.mpr ⟨⟨wl_1_1, rfl⟩, List.forall_mem_cons.mpr ⟨⟨wl_1_2, rfl⟩, List.forall_mem_cons.mpr ⟨⟨wl_1_3, rfl⟩, List.forall_mem_cons.mpr ⟨⟨wl_1_4, rfl⟩, List.forall_mem_cons.mpr ⟨⟨wl_1_5, rfl⟩, List.forall_mem_cons.mpr ⟨⟨wl_1_6, rfl⟩, List.forall_mem_cons.mpr ⟨⟨wl_1_7, rfl⟩, List.forall_mem_cons.mpr ⟨⟨wl_1_8, rfl⟩, List.forall_mem_cons.mpr ⟨⟨wl_1_9, rfl⟩, List.forall_mem_cons.mpr ⟨⟨wl_1_10, rfl⟩, List.forall_mem_cons.mpr ⟨⟨wl_1_11, rfl⟩, List.forall_mem_cons.mpr ⟨⟨wl_1_12, rfl⟩, List.forall_mem_cons.mpr ⟨⟨wl_1_13, rfl⟩, List.forall_mem_cons.mpr ⟨⟨wl_1_14, rfl⟩, List.forall_mem_cons.mpr ⟨⟨wl_1_15, rfl⟩, List.forall_mem_cons.mpr ⟨⟨wl_1_16, rfl⟩, List.forall_mem_cons.mpr ⟨⟨wl_1_17, rfl⟩, List.forall_mem_cons.mpr ⟨⟨wl_1_18, rfl⟩, List.forall_mem_cons.mpr ⟨⟨wl_1_19, rfl⟩, List.forall_mem_cons.mpr ⟨⟨wl_1_20, rfl⟩, List.forall_mem_cons.mpr ⟨⟨wl_1_21, rfl⟩, List.forall_mem_cons.mpr ⟨⟨wl_1_22, rfl⟩, List.forall_mem_cons.mpr ⟨⟨wl_1_23, rfl⟩, fun _ h => absurd h List.not_mem_nil⟩⟩⟩⟩⟩⟩⟩⟩⟩⟩⟩⟩⟩⟩⟩⟩⟩⟩⟩⟩⟩⟩⟩⟩
theorem wl_2_0 : Cond.fieldLink RX10 30 "RoundThrow" "platform" "LRoundThrow$Platform;" ∈ lw_tbl := wt_1 _ (List.mem_of_getElem? (i := 219) rfl)
theorem wl_2_1 : Cond.classLink RX10 34 RX0 ∈ lw_tbl := wt_1 _ (List.mem_of_getElem? (i := 136) rfl)
theorem wl_2_2 : Cond.instantiable RX0 6 ∈ lw_tbl := wt_1 _ (List.mem_of_getElem? (i := 137) rfl)
theorem wl_2_3 : Cond.initialized RX0 ∈ lw_tbl := wt_1 _ (List.mem_of_getElem? (i := 7) rfl)
theorem wl_2_4 : Cond.fieldLink RX10 37 "RoundThrow" "thrown" "LRoundThrow$Ball;" ∈ lw_tbl := wt_1 _ (List.mem_of_getElem? (i := 220) rfl)
theorem wl_2_5 : Cond.classLink RX10 41 RX8 ∈ lw_tbl := wt_1 _ (List.mem_of_getElem? (i := 163) rfl)
theorem wl_2_6 : Cond.instantiable RX8 2 ∈ lw_tbl := wt_1 _ (List.mem_of_getElem? (i := 164) rfl)
theorem wl_2_7 : Cond.initialized RX8 ∈ lw_tbl := wt_1 _ (List.mem_of_getElem? (i := 8) rfl)
theorem wl_2_8 : Cond.fieldLink RX10 44 "RoundThrow" "track" "LRoundThrow$Track;" ∈ lw_tbl := wt_1 _ (List.mem_of_getElem? (i := 221) rfl)
theorem wl_2_9 : Cond.classLink RX10 48 RX1 ∈ lw_tbl := wt_1 _ (List.mem_of_getElem? (i := 179) rfl)
theorem wl_2_10 : Cond.instantiable RX1 4 ∈ lw_tbl := wt_1 _ (List.mem_of_getElem? (i := 180) rfl)
theorem wl_2_11 : Cond.initialized RX1 ∈ lw_tbl := wt_1 _ (List.mem_of_getElem? (i := 9) rfl)
theorem wl_2_12 : Cond.fieldLink RX10 51 "RoundThrow" "table" "LRoundThrow$CatchTable;" ∈ lw_tbl := wt_1 _ (List.mem_of_getElem? (i := 222) rfl)
theorem wl_2_13 : Cond.classLink RX10 55 RX3 ∈ lw_tbl := wt_1 _ (List.mem_of_getElem? (i := 201) rfl)
theorem wl_2_14 : Cond.instantiable RX3 2 ∈ lw_tbl := wt_1 _ (List.mem_of_getElem? (i := 202) rfl)
theorem wl_2_15 : Cond.initialized RX3 ∈ lw_tbl := wt_1 _ (List.mem_of_getElem? (i := 10) rfl)
theorem wl_2_16 : Cond.fieldLink RX10 58 "RoundThrow" "learner" "LRoundThrow$Learner;" ∈ lw_tbl := wt_1 _ (List.mem_of_getElem? (i := 223) rfl)
theorem wl_2_17 : Cond.instanceMethod yX4_init ∈ lw_tbl := wt_1 _ (List.mem_of_getElem? (i := 28) rfl)
theorem wl_2_18 : Cond.code yX4_init cX4_init 1 none ∈ lw_tbl := wt_1 _ (List.mem_of_getElem? (i := 29) rfl)
theorem wl_2_19 : Cond.methodLink RX4 3 objectInit ∈ lw_tbl := wt_1 _ (List.mem_of_getElem? (i := 30) rfl)
theorem wl_2_20 : Cond.arrayClass .int ∈ lw_tbl := wt_1 _ (List.mem_of_getElem? (i := 41) rfl)
theorem wl_2_21 : Cond.fieldLink RX4 11 "RoundThrow$Pad" "signs" "[I" ∈ lw_tbl := wt_1 _ (List.mem_of_getElem? (i := 31) rfl)
theorem wl_2_22 : Cond.instanceMethod yX7_init ∈ lw_tbl := wt_1 _ (List.mem_of_getElem? (i := 45) rfl)
theorem wl_2_23 : Cond.code yX7_init cX7_init 1 none ∈ lw_tbl := wt_1 _ (List.mem_of_getElem? (i := 46) rfl)
theorem wr_2 : ∀ w ∈ wsL_law_r2, w ∈ lw_tbl ∧ goodWord w = true := List.forall_mem_cons.mpr ⟨⟨wl_2_0, rfl⟩, List.forall_mem_cons.mpr ⟨⟨wl_2_1, rfl⟩, List.forall_mem_cons.mpr ⟨⟨wl_2_2, rfl⟩, List.forall_mem_cons.mpr ⟨⟨wl_2_3, rfl⟩, List.forall_mem_cons.mpr ⟨⟨wl_2_4, rfl⟩, List.forall_mem_cons.mpr ⟨⟨wl_2_5, rfl⟩, List.forall_mem_cons.mpr ⟨⟨wl_2_6, rfl⟩, List.forall_mem_cons.mpr ⟨⟨wl_2_7, rfl⟩, List.forall_mem_cons.mpr ⟨⟨wl_2_8, rfl⟩, List.forall_mem_cons.mpr ⟨⟨wl_2_9, rfl⟩, List.forall_mem_cons.mpr ⟨⟨wl_2_10, rfl⟩, List.forall_mem_cons.mpr ⟨⟨wl_2_11, rfl⟩, List.forall_mem_cons.mpr ⟨⟨wl_2_12, rfl⟩, List.forall_mem_cons.mpr ⟨⟨wl_2_13, rfl⟩, List.forall_mem_cons.mpr ⟨⟨wl_2_14, rfl⟩, List.forall_mem_cons.mpr ⟨⟨wl_2_15, rfl⟩, List.forall_mem_cons.mpr ⟨⟨wl_2_16, rfl⟩, List.forall_mem_cons.mpr ⟨⟨wl_2_17, rfl⟩, List.forall_mem_cons.mpr ⟨⟨wl_2_18, rfl⟩, List.forall_mem_cons.mpr ⟨⟨wl_2_19, rfl⟩, List.forall_mem_cons.mpr ⟨⟨wl_2_20, rfl⟩, List.forall_mem_cons.mpr ⟨⟨wl_2_21, rfl⟩, List.forall_mem_cons.mpr ⟨⟨wl_2_22, rfl⟩, List.forall_mem_cons.mpr ⟨⟨wl_2_23, rfl⟩, fun _ h => absurd h List.not_mem_nil⟩⟩⟩⟩⟩⟩⟩⟩⟩⟩⟩⟩⟩⟩⟩⟩⟩⟩⟩⟩⟩⟩⟩⟩
theorem wl_3_0 : Cond.methodLink RX7 1 objectInit ∈ lw_tbl := wt_1 _ (List.mem_of_getElem? (i := 47) rfl)
theorem wl_3_1 : Cond.fieldLink RX7 7 "RoundThrow$Setup" "FIRST" "[I" ∈ lw_tbl := wt_1 _ (List.mem_of_getElem? (i := 48) rfl)
theorem wl_3_2 : Cond.methodLink RX7 13 ⟨"[I", "clone", "()Ljava/lang/Object;"⟩ ∈ lw_tbl := wt_1 _ (List.mem_of_getElem? (i := 50) rfl)
theorem wl_3_3 : Cond.sameMethod "[I" "java/lang/Object" "clone" "()Ljava/lang/Object;" ∈ lw_tbl := wt_1 _ (List.mem_of_getElem? (i := 51) rfl)
theorem wl_3_4 : Cond.native ⟨"java/lang/Object", "clone", "()Ljava/lang/Object;"⟩ ∈ lw_tbl := wt_1 _ (List.mem_of_getElem? (i := 52) rfl)
theorem wl_3_5 : Cond.instanceMethod ⟨"java/lang/Object", "clone", "()Ljava/lang/Object;"⟩ ∈ lw_tbl := wt_1 _ (List.mem_of_getElem? (i := 53) rfl)
theorem wl_3_6 : Cond.selects "[I" ⟨"[I", "clone", "()Ljava/lang/Object;"⟩ ⟨"java/lang/Object", "clone", "()Ljava/lang/Object;"⟩ ∈ lw_tbl := wt_1 _ (List.mem_of_getElem? (i := 54) rfl)
theorem wl_3_7 : Cond.classLink RX7 14 "[I" ∈ lw_tbl := wt_1 _ (List.mem_of_getElem? (i := 56) rfl)
theorem wl_3_8 : Cond.fieldLink RX7 18 "RoundThrow$Setup" "settings" "[I" ∈ lw_tbl := wt_1 _ (List.mem_of_getElem? (i := 94) rfl)
theorem wl_3_9 : Cond.classLink RX7 21 RX6 ∈ lw_tbl := wt_1 _ (List.mem_of_getElem? (i := 57) rfl)
theorem wl_3_10 : Cond.instantiable RX6 4 ∈ lw_tbl := wt_1 _ (List.mem_of_getElem? (i := 58) rfl)
theorem wl_3_11 : Cond.initialized RX6 ∈ lw_tbl := wt_1 _ (List.mem_of_getElem? (i := 4) rfl)
theorem wl_3_12 : Cond.fieldLink RX7 24 "RoundThrow$Setup" "pushes" "LRoundThrow$Pushes;" ∈ lw_tbl := wt_1 _ (List.mem_of_getElem? (i := 96) rfl)
theorem wl_3_13 : Cond.classLink RX7 28 RX2 ∈ lw_tbl := wt_1 _ (List.mem_of_getElem? (i := 77) rfl)
theorem wl_3_14 : Cond.instantiable RX2 3 ∈ lw_tbl := wt_1 _ (List.mem_of_getElem? (i := 78) rfl)
theorem wl_3_15 : Cond.initialized RX2 ∈ lw_tbl := wt_1 _ (List.mem_of_getElem? (i := 5) rfl)
theorem wl_3_16 : Cond.fieldLink RX7 31 "RoundThrow$Setup" "film" "LRoundThrow$Film;" ∈ lw_tbl := wt_1 _ (List.mem_of_getElem? (i := 99) rfl)
theorem wl_3_17 : Cond.fieldLink RX7 35 "RoundThrow$Setup" "oneX" "[I" ∈ lw_tbl := wt_1 _ (List.mem_of_getElem? (i := 101) rfl)
theorem wl_3_18 : Cond.fieldLink RX7 38 "RoundThrow$Setup" "oneY" "[I" ∈ lw_tbl := wt_1 _ (List.mem_of_getElem? (i := 103) rfl)
theorem wl_3_19 : Cond.instanceMethod yX6_init ∈ lw_tbl := wt_1 _ (List.mem_of_getElem? (i := 60) rfl)
theorem wl_3_20 : Cond.code yX6_init cX6_init 1 none ∈ lw_tbl := wt_1 _ (List.mem_of_getElem? (i := 61) rfl)
theorem wl_3_21 : Cond.methodLink RX6 5 objectInit ∈ lw_tbl := wt_1 _ (List.mem_of_getElem? (i := 62) rfl)
theorem wl_3_22 : Cond.fieldLink RX6 13 "RoundThrow$Pushes" "ticks" "[I" ∈ lw_tbl := wt_1 _ (List.mem_of_getElem? (i := 63) rfl)
theorem wl_3_23 : Cond.fieldLink RX6 17 "RoundThrow$Pushes" "sizes" "[I" ∈ lw_tbl := wt_1 _ (List.mem_of_getElem? (i := 64) rfl)
theorem wr_3 : ∀ w ∈ wsL_law_r3, w ∈ lw_tbl ∧ goodWord w = true := List.forall_mem_cons.mpr ⟨⟨wl_3_0, rfl⟩, List.forall_mem_cons.mpr ⟨⟨wl_3_1, rfl⟩, List.forall_mem_cons.mpr ⟨⟨wl_3_2, rfl⟩, List.forall_mem_cons.mpr ⟨⟨wl_3_3, rfl⟩, List.forall_mem_cons.mpr ⟨⟨wl_3_4, rfl⟩, List.forall_mem_cons.mpr ⟨⟨wl_3_5, rfl⟩, List.forall_mem_cons.mpr ⟨⟨wl_3_6, rfl⟩, List.forall_mem_cons.mpr ⟨⟨wl_3_7, rfl⟩, List.forall_mem_cons.mpr ⟨⟨wl_3_8, rfl⟩, List.forall_mem_cons.mpr ⟨⟨wl_3_9, rfl⟩, List.forall_mem_cons.mpr ⟨⟨wl_3_10, rfl⟩, List.forall_mem_cons.mpr ⟨⟨wl_3_11, rfl⟩, List.forall_mem_cons.mpr ⟨⟨wl_3_12, rfl⟩, List.forall_mem_cons.mpr ⟨⟨wl_3_13, rfl⟩, List.forall_mem_cons.mpr ⟨⟨wl_3_14, rfl⟩, List.forall_mem_cons.mpr ⟨⟨wl_3_15, rfl⟩, List.forall_mem_cons.mpr ⟨⟨wl_3_16, rfl⟩, List.forall_mem_cons.mpr ⟨⟨wl_3_17, rfl⟩, List.forall_mem_cons.mpr ⟨⟨wl_3_18, rfl⟩, List.forall_mem_cons.mpr ⟨⟨wl_3_19, rfl⟩, List.forall_mem_cons.mpr ⟨⟨wl_3_20, rfl⟩, List.forall_mem_cons.mpr ⟨⟨wl_3_21, rfl⟩, List.forall_mem_cons.mpr ⟨⟨wl_3_22, rfl⟩, List.forall_mem_cons.mpr ⟨⟨wl_3_23, rfl⟩, fun _ h => absurd h List.not_mem_nil⟩⟩⟩⟩⟩⟩⟩⟩⟩⟩⟩⟩⟩⟩⟩⟩⟩⟩⟩⟩⟩⟩⟩⟩
theorem wl_4_0 : Cond.instanceMethod yX2_init ∈ lw_tbl := wt_1 _ (List.mem_of_getElem? (i := 80) rfl)
theorem wl_4_1 : Cond.code yX2_init cX2_init 1 none ∈ lw_tbl := wt_1 _ (List.mem_of_getElem? (i := 81) rfl)
theorem wl_4_2 : Cond.methodLink RX2 1 objectInit ∈ lw_tbl := wt_1 _ (List.mem_of_getElem? (i := 82) rfl)
theorem wl_4_3 : Cond.fieldLink RX2 9 "RoundThrow$Film" "xs" "[I" ∈ lw_tbl := wt_1 _ (List.mem_of_getElem? (i := 83) rfl)
theorem wl_4_4 : Cond.fieldLink RX2 13 "RoundThrow$Film" "ys" "[I" ∈ lw_tbl := wt_1 _ (List.mem_of_getElem? (i := 84) rfl)
theorem wl_4_5 : Cond.instanceMethod yX5_init ∈ lw_tbl := wt_1 _ (List.mem_of_getElem? (i := 124) rfl)
theorem wl_4_6 : Cond.code yX5_init cX5_init 1 none ∈ lw_tbl := wt_1 _ (List.mem_of_getElem? (i := 125) rfl)
theorem wl_4_7 : Cond.methodLink RX5 3 objectInit ∈ lw_tbl := wt_1 _ (List.mem_of_getElem? (i := 126) rfl)
theorem wl_4_8 : Cond.fieldLink RX5 9 "RoundThrow$Platform" "angles" "[I" ∈ lw_tbl := wt_1 _ (List.mem_of_getElem? (i := 127) rfl)
theorem wl_4_9 : Cond.fieldLink RX5 15 "RoundThrow$Platform" "paces" "[I" ∈ lw_tbl := wt_1 _ (List.mem_of_getElem? (i := 129) rfl)
theorem wl_4_10 : Cond.instanceMethod yX0_init ∈ lw_tbl := wt_1 _ (List.mem_of_getElem? (i := 139) rfl)
theorem wl_4_11 : Cond.code yX0_init cX0_init 1 none ∈ lw_tbl := wt_1 _ (List.mem_of_getElem? (i := 140) rfl)
theorem wl_4_12 : Cond.methodLink RX0 3 objectInit ∈ lw_tbl := wt_1 _ (List.mem_of_getElem? (i := 141) rfl)
theorem wl_4_13 : Cond.instanceMethod yX8_init ∈ lw_tbl := wt_1 _ (List.mem_of_getElem? (i := 166) rfl)
theorem wl_4_14 : Cond.code yX8_init cX8_init 1 none ∈ lw_tbl := wt_1 _ (List.mem_of_getElem? (i := 167) rfl)
theorem wl_4_15 : Cond.methodLink RX8 3 objectInit ∈ lw_tbl := wt_1 _ (List.mem_of_getElem? (i := 168) rfl)
theorem wl_4_16 : Cond.arrayClass .long ∈ lw_tbl := wt_1 _ (List.mem_of_getElem? (i := 178) rfl)
theorem wl_4_17 : Cond.fieldLink RX8 9 "RoundThrow$Track" "xs" "[J" ∈ lw_tbl := wt_1 _ (List.mem_of_getElem? (i := 169) rfl)
theorem wl_4_18 : Cond.fieldLink RX8 15 "RoundThrow$Track" "ys" "[J" ∈ lw_tbl := wt_1 _ (List.mem_of_getElem? (i := 171) rfl)
theorem wl_4_19 : Cond.instanceMethod yX1_init ∈ lw_tbl := wt_1 _ (List.mem_of_getElem? (i := 182) rfl)
theorem wl_4_20 : Cond.code yX1_init cX1_init 1 none ∈ lw_tbl := wt_1 _ (List.mem_of_getElem? (i := 183) rfl)
theorem wl_4_21 : Cond.methodLink RX1 3 objectInit ∈ lw_tbl := wt_1 _ (List.mem_of_getElem? (i := 184) rfl)
theorem wl_4_22 : Cond.fieldLink RX1 11 "RoundThrow$CatchTable" "rows" "[I" ∈ lw_tbl := wt_1 _ (List.mem_of_getElem? (i := 185) rfl)
theorem wl_4_23 : Cond.instanceMethod yX3_init ∈ lw_tbl := wt_1 _ (List.mem_of_getElem? (i := 204) rfl)
theorem wr_4 : ∀ w ∈ wsL_law_r4, w ∈ lw_tbl ∧ goodWord w = true := List.forall_mem_cons.mpr ⟨⟨wl_4_0, rfl⟩, List.forall_mem_cons.mpr ⟨⟨wl_4_1, rfl⟩, List.forall_mem_cons.mpr ⟨⟨wl_4_2, rfl⟩, List.forall_mem_cons.mpr ⟨⟨wl_4_3, rfl⟩, List.forall_mem_cons.mpr ⟨⟨wl_4_4, rfl⟩, List.forall_mem_cons.mpr ⟨⟨wl_4_5, rfl⟩, List.forall_mem_cons.mpr ⟨⟨wl_4_6, rfl⟩, List.forall_mem_cons.mpr ⟨⟨wl_4_7, rfl⟩, List.forall_mem_cons.mpr ⟨⟨wl_4_8, rfl⟩, List.forall_mem_cons.mpr ⟨⟨wl_4_9, rfl⟩, List.forall_mem_cons.mpr ⟨⟨wl_4_10, rfl⟩, List.forall_mem_cons.mpr ⟨⟨wl_4_11, rfl⟩, List.forall_mem_cons.mpr ⟨⟨wl_4_12, rfl⟩, List.forall_mem_cons.mpr ⟨⟨wl_4_13, rfl⟩, List.forall_mem_cons.mpr ⟨⟨wl_4_14, rfl⟩, List.forall_mem_cons.mpr ⟨⟨wl_4_15, rfl⟩, List.forall_mem_cons.mpr ⟨⟨wl_4_16, rfl⟩, List.forall_mem_cons.mpr ⟨⟨wl_4_17, rfl⟩, List.forall_mem_cons.mpr ⟨⟨wl_4_18, rfl⟩, List.forall_mem_cons.mpr ⟨⟨wl_4_19, rfl⟩, List.forall_mem_cons.mpr ⟨⟨wl_4_20, rfl⟩, List.forall_mem_cons.mpr ⟨⟨wl_4_21, rfl⟩, List.forall_mem_cons.mpr ⟨⟨wl_4_22, rfl⟩, List.forall_mem_cons.mpr ⟨⟨wl_4_23, rfl⟩, fun _ h => absurd h List.not_mem_nil⟩⟩⟩⟩⟩⟩⟩⟩⟩⟩⟩⟩⟩⟩⟩⟩⟩⟩⟩⟩⟩⟩⟩⟩
theorem wl_5_0 : Cond.code yX3_init cX3_init 1 none ∈ lw_tbl := wt_1 _ (List.mem_of_getElem? (i := 205) rfl)
theorem wl_5_1 : Cond.methodLink RX3 3 objectInit ∈ lw_tbl := wt_1 _ (List.mem_of_getElem? (i := 206) rfl)
theorem wl_5_2 : Cond.methodLink RL 12 yX11_init ∈ lw_tbl := wt_3 _ (List.mem_of_getElem? (i := 207) rfl)
theorem wl_5_3 : Cond.instanceMethod yX11_init ∈ lw_tbl := wt_3 _ (List.mem_of_getElem? (i := 208) rfl)
theorem wl_5_4 : Cond.code yX11_init cX11_init 2 none ∈ lw_tbl := wt_3 _ (List.mem_of_getElem? (i := 209) rfl)
theorem wl_5_5 : Cond.methodLink RX11 1 objectInit ∈ lw_tbl := wt_3 _ (List.mem_of_getElem? (i := 210) rfl)
theorem wl_5_6 : Cond.fieldLink RX11 7 "RoundThrowModel" "sines" "[I" ∈ lw_tbl := wt_3 _ (List.mem_of_getElem? (i := 211) rfl)
theorem wl_5_7 : Cond.fieldLink RX11 13 "RoundThrowModel" "sets" "[I" ∈ lw_tbl := wt_3 _ (List.mem_of_getElem? (i := 214) rfl)
theorem wl_5_8 : Cond.fieldLink RX11 16 "RoundThrowModel" "angles" "[I" ∈ lw_tbl := wt_3 _ (List.mem_of_getElem? (i := 215) rfl)
theorem wl_5_9 : Cond.fieldLink RX11 19 "RoundThrowModel" "paces" "[I" ∈ lw_tbl := wt_3 _ (List.mem_of_getElem? (i := 216) rfl)
theorem wl_5_10 : Cond.fieldLink RX11 22 "RoundThrowModel" "signs" "[I" ∈ lw_tbl := wt_3 _ (List.mem_of_getElem? (i := 217) rfl)
theorem wl_5_11 : Cond.fieldLink RX11 25 "RoundThrowModel" "pushAt" "[I" ∈ lw_tbl := wt_3 _ (List.mem_of_getElem? (i := 219) rfl)
theorem wl_5_12 : Cond.fieldLink RX11 28 "RoundThrowModel" "pushBy" "[I" ∈ lw_tbl := wt_3 _ (List.mem_of_getElem? (i := 220) rfl)
theorem wl_5_13 : Cond.fieldLink RX11 31 "RoundThrowModel" "oneX" "[I" ∈ lw_tbl := wt_3 _ (List.mem_of_getElem? (i := 223) rfl)
theorem wl_5_14 : Cond.fieldLink RX11 34 "RoundThrowModel" "oneY" "[I" ∈ lw_tbl := wt_3 _ (List.mem_of_getElem? (i := 224) rfl)
theorem wl_5_15 : Cond.arrayClass .boolean ∈ lw_tbl := wt_4 _ (List.mem_of_getElem? (i := 77) rfl)
theorem wl_5_16 : Cond.fieldLink RX11 37 "RoundThrowModel" "isCaught" "[Z" ∈ lw_tbl := wt_3 _ (List.mem_of_getElem? (i := 230) rfl)
theorem wl_5_17 : Cond.fieldLink RX11 41 "RoundThrowModel" "seenX" "[I" ∈ lw_tbl := wt_3 _ (List.mem_of_getElem? (i := 231) rfl)
theorem wl_5_18 : Cond.fieldLink RX11 44 "RoundThrowModel" "seenY" "[I" ∈ lw_tbl := wt_3 _ (List.mem_of_getElem? (i := 232) rfl)
theorem wl_5_19 : Cond.fieldLink RX11 47 "RoundThrowModel" "filmX" "[I" ∈ lw_tbl := wt_3 _ (List.mem_of_getElem? (i := 236) rfl)
theorem wl_5_20 : Cond.fieldLink RX11 50 "RoundThrowModel" "filmY" "[I" ∈ lw_tbl := wt_3 _ (List.mem_of_getElem? (i := 237) rfl)
theorem wl_5_21 : Cond.fieldLink RX11 53 "RoundThrowModel" "groundX" "[I" ∈ lw_tbl := wt_3 _ (List.mem_of_getElem? (i := 239) rfl)
theorem wl_5_22 : Cond.fieldLink RX11 56 "RoundThrowModel" "groundY" "[I" ∈ lw_tbl := wt_4 _ (List.mem_of_getElem? (i := 0) rfl)
theorem wl_5_23 : Cond.fieldLink RX11 59 "RoundThrowModel" "kept" "[I" ∈ lw_tbl := wt_4 _ (List.mem_of_getElem? (i := 2) rfl)
theorem wr_5 : ∀ w ∈ wsL_law_r5, w ∈ lw_tbl ∧ goodWord w = true := List.forall_mem_cons.mpr ⟨⟨wl_5_0, rfl⟩, List.forall_mem_cons.mpr ⟨⟨wl_5_1, rfl⟩, List.forall_mem_cons.mpr ⟨⟨wl_5_2, rfl⟩, List.forall_mem_cons.mpr ⟨⟨wl_5_3, rfl⟩, List.forall_mem_cons.mpr ⟨⟨wl_5_4, rfl⟩, List.forall_mem_cons.mpr ⟨⟨wl_5_5, rfl⟩, List.forall_mem_cons.mpr ⟨⟨wl_5_6, rfl⟩, List.forall_mem_cons.mpr ⟨⟨wl_5_7, rfl⟩, List.forall_mem_cons.mpr ⟨⟨wl_5_8, rfl⟩, List.forall_mem_cons.mpr ⟨⟨wl_5_9, rfl⟩, List.forall_mem_cons.mpr ⟨⟨wl_5_10, rfl⟩, List.forall_mem_cons.mpr ⟨⟨wl_5_11, rfl⟩, List.forall_mem_cons.mpr ⟨⟨wl_5_12, rfl⟩, List.forall_mem_cons.mpr ⟨⟨wl_5_13, rfl⟩, List.forall_mem_cons.mpr ⟨⟨wl_5_14, rfl⟩, List.forall_mem_cons.mpr ⟨⟨wl_5_15, rfl⟩, List.forall_mem_cons.mpr ⟨⟨wl_5_16, rfl⟩, List.forall_mem_cons.mpr ⟨⟨wl_5_17, rfl⟩, List.forall_mem_cons.mpr ⟨⟨wl_5_18, rfl⟩, List.forall_mem_cons.mpr ⟨⟨wl_5_19, rfl⟩, List.forall_mem_cons.mpr ⟨⟨wl_5_20, rfl⟩, List.forall_mem_cons.mpr ⟨⟨wl_5_21, rfl⟩, List.forall_mem_cons.mpr ⟨⟨wl_5_22, rfl⟩, List.forall_mem_cons.mpr ⟨⟨wl_5_23, rfl⟩, fun _ h => absurd h List.not_mem_nil⟩⟩⟩⟩⟩⟩⟩⟩⟩⟩⟩⟩⟩⟩⟩⟩⟩⟩⟩⟩⟩⟩⟩⟩
theorem wl_6_0 : Cond.fieldLink RX11 62 "RoundThrowModel" "isKept" "[Z" ∈ lw_tbl := wt_4 _ (List.mem_of_getElem? (i := 3) rfl)
theorem wl_6_1 : Cond.methodLink RL 13 yX10_set ∈ lw_tbl := wt_2 _ (List.mem_of_getElem? (i := 1) rfl)
theorem wl_6_2 : Cond.instanceMethod yX10_set ∈ lw_tbl := wt_2 _ (List.mem_of_getElem? (i := 2) rfl)
theorem wl_6_3 : Cond.selects RX10 yX10_set yX10_set ∈ lw_tbl := wt_2 _ (List.mem_of_getElem? (i := 3) rfl)
theorem wl_6_4 : Cond.code yX10_set cX10_set 4 (some .int) ∈ lw_tbl := wt_2 _ (List.mem_of_getElem? (i := 4) rfl)
theorem wl_6_5 : Cond.fieldLink RX10 66 "RoundThrow$Setup" "settings" "[I" ∈ lw_tbl := wt_1 _ (List.mem_of_getElem? (i := 95) rfl)
theorem wl_6_6 : Cond.methodLink RX10 62 yX7_takes ∈ lw_tbl := wt_2 _ (List.mem_of_getElem? (i := 5) rfl)
theorem wl_6_7 : Cond.static yX7_takes ∈ lw_tbl := wt_2 _ (List.mem_of_getElem? (i := 6) rfl)
theorem wl_6_8 : Cond.code yX7_takes cX7_takes 2 (some .boolean) ∈ lw_tbl := wt_2 _ (List.mem_of_getElem? (i := 7) rfl)
theorem wl_6_9 : Cond.fieldLink RX7 47 "RoundThrow$Setup" "LEAST" "[I" ∈ lw_tbl := wt_2 _ (List.mem_of_getElem? (i := 11) rfl)
theorem wl_6_10 : Cond.fieldLink RX7 50 "RoundThrow$Setup" "MOST" "[I" ∈ lw_tbl := wt_2 _ (List.mem_of_getElem? (i := 13) rfl)
theorem wl_6_11 : Cond.static yX10_within ∈ lw_tbl := wt_2 _ (List.mem_of_getElem? (i := 9) rfl)
theorem wl_6_12 : Cond.code yX10_within cX10_within 3 (some .boolean) ∈ lw_tbl := wt_2 _ (List.mem_of_getElem? (i := 10) rfl)
theorem wl_6_13 : Cond.methodLink RL 17 yX11_set ∈ lw_tbl := wt_4 _ (List.mem_of_getElem? (i := 78) rfl)
theorem wl_6_14 : Cond.instanceMethod yX11_set ∈ lw_tbl := wt_4 _ (List.mem_of_getElem? (i := 79) rfl)
theorem wl_6_15 : Cond.selects RX11 yX11_set yX11_set ∈ lw_tbl := wt_4 _ (List.mem_of_getElem? (i := 80) rfl)
theorem wl_6_16 : Cond.code yX11_set cX11_set 6 (some .int) ∈ lw_tbl := wt_4 _ (List.mem_of_getElem? (i := 81) rfl)
theorem wl_6_17 : Cond.constantLong RX11 82 (4) ∈ lw_tbl := wt_4 _ (List.mem_of_getElem? (i := 82) rfl)
theorem wl_6_18 : Cond.methodLink RX11 67 yX11_in ∈ lw_tbl := wt_4 _ (List.mem_of_getElem? (i := 83) rfl)
theorem wl_6_19 : Cond.static yX11_in ∈ lw_tbl := wt_4 _ (List.mem_of_getElem? (i := 84) rfl)
theorem wl_6_20 : Cond.code yX11_in cX11_in 6 (some .boolean) ∈ lw_tbl := wt_4 _ (List.mem_of_getElem? (i := 85) rfl)
theorem wl_6_21 : Cond.methodLink RX11 84 yX11_setNow ∈ lw_tbl := wt_4 _ (List.mem_of_getElem? (i := 86) rfl)
theorem wl_6_22 : Cond.instanceMethod yX11_setNow ∈ lw_tbl := wt_4 _ (List.mem_of_getElem? (i := 88) rfl)
theorem wl_6_23 : Cond.selects RX11 yX11_setNow yX11_setNow ∈ lw_tbl := ws_1 _ (List.mem_of_getElem? (i := 11) rfl)
theorem wr_6 : ∀ w ∈ wsL_law_r6, w ∈ lw_tbl ∧ goodWord w = true := List.forall_mem_cons.mpr ⟨⟨wl_6_0, rfl⟩, List.forall_mem_cons.mpr ⟨⟨wl_6_1, rfl⟩, List.forall_mem_cons.mpr ⟨⟨wl_6_2, rfl⟩, List.forall_mem_cons.mpr ⟨⟨wl_6_3, rfl⟩, List.forall_mem_cons.mpr ⟨⟨wl_6_4, rfl⟩, List.forall_mem_cons.mpr ⟨⟨wl_6_5, rfl⟩, List.forall_mem_cons.mpr ⟨⟨wl_6_6, rfl⟩, List.forall_mem_cons.mpr ⟨⟨wl_6_7, rfl⟩, List.forall_mem_cons.mpr ⟨⟨wl_6_8, rfl⟩, List.forall_mem_cons.mpr ⟨⟨wl_6_9, rfl⟩, List.forall_mem_cons.mpr ⟨⟨wl_6_10, rfl⟩, List.forall_mem_cons.mpr ⟨⟨wl_6_11, rfl⟩, List.forall_mem_cons.mpr ⟨⟨wl_6_12, rfl⟩, List.forall_mem_cons.mpr ⟨⟨wl_6_13, rfl⟩, List.forall_mem_cons.mpr ⟨⟨wl_6_14, rfl⟩, List.forall_mem_cons.mpr ⟨⟨wl_6_15, rfl⟩, List.forall_mem_cons.mpr ⟨⟨wl_6_16, rfl⟩, List.forall_mem_cons.mpr ⟨⟨wl_6_17, rfl⟩, List.forall_mem_cons.mpr ⟨⟨wl_6_18, rfl⟩, List.forall_mem_cons.mpr ⟨⟨wl_6_19, rfl⟩, List.forall_mem_cons.mpr ⟨⟨wl_6_20, rfl⟩, List.forall_mem_cons.mpr ⟨⟨wl_6_21, rfl⟩, List.forall_mem_cons.mpr ⟨⟨wl_6_22, rfl⟩, List.forall_mem_cons.mpr ⟨⟨wl_6_23, rfl⟩, fun _ h => absurd h List.not_mem_nil⟩⟩⟩⟩⟩⟩⟩⟩⟩⟩⟩⟩⟩⟩⟩⟩⟩⟩⟩⟩⟩⟩⟩⟩
theorem wl_7_0 : Cond.code yX11_setNow cX11_setNow 2 (some .int) ∈ lw_tbl := wt_4 _ (List.mem_of_getElem? (i := 89) rfl)
theorem wl_7_1 : Cond.methodLink RL 18 yX10_say ∈ lw_tbl := wt_2 _ (List.mem_of_getElem? (i := 15) rfl)
theorem wl_7_2 : Cond.instanceMethod yX10_say ∈ lw_tbl := wt_2 _ (List.mem_of_getElem? (i := 16) rfl)
theorem wl_7_3 : Cond.selects RX10 yX10_say yX10_say ∈ lw_tbl := wt_2 _ (List.mem_of_getElem? (i := 17) rfl)
theorem wl_7_4 : Cond.code yX10_say cX10_say 2 (some .int) ∈ lw_tbl := wt_2 _ (List.mem_of_getElem? (i := 18) rfl)
theorem wl_7_5 : Cond.fieldLink RX10 78 "RoundThrow$Pad" "length" "I" ∈ lw_tbl := wt_1 _ (List.mem_of_getElem? (i := 35) rfl)
theorem wl_7_6 : Cond.methodLink RX10 70 yX10_within ∈ lw_tbl := wt_2 _ (List.mem_of_getElem? (i := 19) rfl)
theorem wl_7_7 : Cond.methodLink RX10 74 yX4_add ∈ lw_tbl := wt_2 _ (List.mem_of_getElem? (i := 20) rfl)
theorem wl_7_8 : Cond.instanceMethod yX4_add ∈ lw_tbl := wt_2 _ (List.mem_of_getElem? (i := 21) rfl)
theorem wl_7_9 : Cond.selects RX4 yX4_add yX4_add ∈ lw_tbl := wt_2 _ (List.mem_of_getElem? (i := 22) rfl)
theorem wl_7_10 : Cond.code yX4_add cX4_add 2 (some .boolean) ∈ lw_tbl := wt_2 _ (List.mem_of_getElem? (i := 23) rfl)
theorem wl_7_11 : Cond.fieldLink RX4 15 "RoundThrow$Pad" "length" "I" ∈ lw_tbl := wt_1 _ (List.mem_of_getElem? (i := 33) rfl)
theorem wl_7_12 : Cond.methodLink RL 22 yX11_say ∈ lw_tbl := wt_4 _ (List.mem_of_getElem? (i := 90) rfl)
theorem wl_7_13 : Cond.instanceMethod yX11_say ∈ lw_tbl := wt_4 _ (List.mem_of_getElem? (i := 91) rfl)
theorem wl_7_14 : Cond.selects RX11 yX11_say yX11_say ∈ lw_tbl := wt_4 _ (List.mem_of_getElem? (i := 92) rfl)
theorem wl_7_15 : Cond.code yX11_say cX11_say 2 (some .int) ∈ lw_tbl := wt_4 _ (List.mem_of_getElem? (i := 93) rfl)
theorem wl_7_16 : Cond.constantLong RX11 88 (33) ∈ lw_tbl := wt_4 _ (List.mem_of_getElem? (i := 94) rfl)
theorem wl_7_17 : Cond.constantLong RX11 90 (126) ∈ lw_tbl := wt_4 _ (List.mem_of_getElem? (i := 95) rfl)
theorem wl_7_18 : Cond.fieldLink RX11 92 "RoundThrowModel" "signMany" "I" ∈ lw_tbl := wt_3 _ (List.mem_of_getElem? (i := 218) rfl)
theorem wl_7_19 : Cond.methodLink RL 23 yX10_wipe ∈ lw_tbl := wt_2 _ (List.mem_of_getElem? (i := 24) rfl)
theorem wl_7_20 : Cond.instanceMethod yX10_wipe ∈ lw_tbl := wt_2 _ (List.mem_of_getElem? (i := 25) rfl)
theorem wl_7_21 : Cond.selects RX10 yX10_wipe yX10_wipe ∈ lw_tbl := wt_2 _ (List.mem_of_getElem? (i := 26) rfl)
theorem wl_7_22 : Cond.code yX10_wipe cX10_wipe 2 (some .int) ∈ lw_tbl := wt_2 _ (List.mem_of_getElem? (i := 27) rfl)
theorem wl_7_23 : Cond.methodLink RL 27 yX11_wipe ∈ lw_tbl := wt_4 _ (List.mem_of_getElem? (i := 96) rfl)
theorem wr_7 : ∀ w ∈ wsL_law_r7, w ∈ lw_tbl ∧ goodWord w = true := List.forall_mem_cons.mpr ⟨⟨wl_7_0, rfl⟩, List.forall_mem_cons.mpr ⟨⟨wl_7_1, rfl⟩, List.forall_mem_cons.mpr ⟨⟨wl_7_2, rfl⟩, List.forall_mem_cons.mpr ⟨⟨wl_7_3, rfl⟩, List.forall_mem_cons.mpr ⟨⟨wl_7_4, rfl⟩, List.forall_mem_cons.mpr ⟨⟨wl_7_5, rfl⟩, List.forall_mem_cons.mpr ⟨⟨wl_7_6, rfl⟩, List.forall_mem_cons.mpr ⟨⟨wl_7_7, rfl⟩, List.forall_mem_cons.mpr ⟨⟨wl_7_8, rfl⟩, List.forall_mem_cons.mpr ⟨⟨wl_7_9, rfl⟩, List.forall_mem_cons.mpr ⟨⟨wl_7_10, rfl⟩, List.forall_mem_cons.mpr ⟨⟨wl_7_11, rfl⟩, List.forall_mem_cons.mpr ⟨⟨wl_7_12, rfl⟩, List.forall_mem_cons.mpr ⟨⟨wl_7_13, rfl⟩, List.forall_mem_cons.mpr ⟨⟨wl_7_14, rfl⟩, List.forall_mem_cons.mpr ⟨⟨wl_7_15, rfl⟩, List.forall_mem_cons.mpr ⟨⟨wl_7_16, rfl⟩, List.forall_mem_cons.mpr ⟨⟨wl_7_17, rfl⟩, List.forall_mem_cons.mpr ⟨⟨wl_7_18, rfl⟩, List.forall_mem_cons.mpr ⟨⟨wl_7_19, rfl⟩, List.forall_mem_cons.mpr ⟨⟨wl_7_20, rfl⟩, List.forall_mem_cons.mpr ⟨⟨wl_7_21, rfl⟩, List.forall_mem_cons.mpr ⟨⟨wl_7_22, rfl⟩, List.forall_mem_cons.mpr ⟨⟨wl_7_23, rfl⟩, fun _ h => absurd h List.not_mem_nil⟩⟩⟩⟩⟩⟩⟩⟩⟩⟩⟩⟩⟩⟩⟩⟩⟩⟩⟩⟩⟩⟩⟩⟩
theorem wl_8_0 : Cond.instanceMethod yX11_wipe ∈ lw_tbl := wt_4 _ (List.mem_of_getElem? (i := 97) rfl)
theorem wl_8_1 : Cond.selects RX11 yX11_wipe yX11_wipe ∈ lw_tbl := wt_4 _ (List.mem_of_getElem? (i := 98) rfl)
theorem wl_8_2 : Cond.code yX11_wipe cX11_wipe 2 (some .int) ∈ lw_tbl := wt_4 _ (List.mem_of_getElem? (i := 99) rfl)
theorem wl_8_3 : Cond.methodLink RL 28 yX10_fault ∈ lw_tbl := wt_2 _ (List.mem_of_getElem? (i := 28) rfl)
theorem wl_8_4 : Cond.instanceMethod yX10_fault ∈ lw_tbl := wt_2 _ (List.mem_of_getElem? (i := 29) rfl)
theorem wl_8_5 : Cond.selects RX10 yX10_fault yX10_fault ∈ lw_tbl := wt_2 _ (List.mem_of_getElem? (i := 30) rfl)
theorem wl_8_6 : Cond.code yX10_fault cX10_fault 1 (some .int) ∈ lw_tbl := wt_2 _ (List.mem_of_getElem? (i := 31) rfl)
theorem wl_8_7 : Cond.methodLink RX10 82 yX4_faultPlace ∈ lw_tbl := wt_2 _ (List.mem_of_getElem? (i := 32) rfl)
theorem wl_8_8 : Cond.instanceMethod yX4_faultPlace ∈ lw_tbl := wt_2 _ (List.mem_of_getElem? (i := 33) rfl)
theorem wl_8_9 : Cond.selects RX4 yX4_faultPlace yX4_faultPlace ∈ lw_tbl := wt_2 _ (List.mem_of_getElem? (i := 34) rfl)
theorem wl_8_10 : Cond.code yX4_faultPlace cX4_faultPlace 3 (some .int) ∈ lw_tbl := wt_2 _ (List.mem_of_getElem? (i := 35) rfl)
theorem wl_8_11 : Cond.methodLink RX4 19 yX4_behind ∈ lw_tbl := wt_2 _ (List.mem_of_getElem? (i := 36) rfl)
theorem wl_8_12 : Cond.static yX4_behind ∈ lw_tbl := wt_2 _ (List.mem_of_getElem? (i := 37) rfl)
theorem wl_8_13 : Cond.code yX4_behind cX4_behind 3 (some .int) ∈ lw_tbl := wt_2 _ (List.mem_of_getElem? (i := 38) rfl)
theorem wl_8_14 : Cond.methodLink RX4 23 yX4_isDigit ∈ lw_tbl := wt_2 _ (List.mem_of_getElem? (i := 39) rfl)
theorem wl_8_15 : Cond.static yX4_isDigit ∈ lw_tbl := wt_2 _ (List.mem_of_getElem? (i := 40) rfl)
theorem wl_8_16 : Cond.code yX4_isDigit cX4_isDigit 1 (some .boolean) ∈ lw_tbl := wt_2 _ (List.mem_of_getElem? (i := 41) rfl)
theorem wl_8_17 : Cond.methodLink RL 31 yX11_fault ∈ lw_tbl := wt_4 _ (List.mem_of_getElem? (i := 100) rfl)
theorem wl_8_18 : Cond.instanceMethod yX11_fault ∈ lw_tbl := wt_4 _ (List.mem_of_getElem? (i := 101) rfl)
theorem wl_8_19 : Cond.selects RX11 yX11_fault yX11_fault ∈ lw_tbl := wt_4 _ (List.mem_of_getElem? (i := 102) rfl)
theorem wl_8_20 : Cond.code yX11_fault cX11_fault 4 (some .int) ∈ lw_tbl := wt_4 _ (List.mem_of_getElem? (i := 103) rfl)
theorem wl_8_21 : Cond.constantLong RX11 99 (49) ∈ lw_tbl := wt_4 _ (List.mem_of_getElem? (i := 104) rfl)
theorem wl_8_22 : Cond.constantLong RX11 97 (57) ∈ lw_tbl := wt_4 _ (List.mem_of_getElem? (i := 105) rfl)
theorem wl_8_23 : Cond.methodLink RX11 101 yX11_isDigit ∈ lw_tbl := wt_4 _ (List.mem_of_getElem? (i := 106) rfl)
theorem wr_8 : ∀ w ∈ wsL_law_r8, w ∈ lw_tbl ∧ goodWord w = true := List.forall_mem_cons.mpr ⟨⟨wl_8_0, rfl⟩, List.forall_mem_cons.mpr ⟨⟨wl_8_1, rfl⟩, List.forall_mem_cons.mpr ⟨⟨wl_8_2, rfl⟩, List.forall_mem_cons.mpr ⟨⟨wl_8_3, rfl⟩, List.forall_mem_cons.mpr ⟨⟨wl_8_4, rfl⟩, List.forall_mem_cons.mpr ⟨⟨wl_8_5, rfl⟩, List.forall_mem_cons.mpr ⟨⟨wl_8_6, rfl⟩, List.forall_mem_cons.mpr ⟨⟨wl_8_7, rfl⟩, List.forall_mem_cons.mpr ⟨⟨wl_8_8, rfl⟩, List.forall_mem_cons.mpr ⟨⟨wl_8_9, rfl⟩, List.forall_mem_cons.mpr ⟨⟨wl_8_10, rfl⟩, List.forall_mem_cons.mpr ⟨⟨wl_8_11, rfl⟩, List.forall_mem_cons.mpr ⟨⟨wl_8_12, rfl⟩, List.forall_mem_cons.mpr ⟨⟨wl_8_13, rfl⟩, List.forall_mem_cons.mpr ⟨⟨wl_8_14, rfl⟩, List.forall_mem_cons.mpr ⟨⟨wl_8_15, rfl⟩, List.forall_mem_cons.mpr ⟨⟨wl_8_16, rfl⟩, List.forall_mem_cons.mpr ⟨⟨wl_8_17, rfl⟩, List.forall_mem_cons.mpr ⟨⟨wl_8_18, rfl⟩, List.forall_mem_cons.mpr ⟨⟨wl_8_19, rfl⟩, List.forall_mem_cons.mpr ⟨⟨wl_8_20, rfl⟩, List.forall_mem_cons.mpr ⟨⟨wl_8_21, rfl⟩, List.forall_mem_cons.mpr ⟨⟨wl_8_22, rfl⟩, List.forall_mem_cons.mpr ⟨⟨wl_8_23, rfl⟩, fun _ h => absurd h List.not_mem_nil⟩⟩⟩⟩⟩⟩⟩⟩⟩⟩⟩⟩⟩⟩⟩⟩⟩⟩⟩⟩⟩⟩⟩⟩
theorem wl_9_0 : Cond.static yX11_isDigit ∈ lw_tbl := wt_4 _ (List.mem_of_getElem? (i := 107) rfl)
theorem wl_9_1 : Cond.code yX11_isDigit cX11_isDigit 1 (some .boolean) ∈ lw_tbl := wt_4 _ (List.mem_of_getElem? (i := 108) rfl)
theorem wl_9_2 : Cond.constantLong RX11 95 (48) ∈ lw_tbl := wt_4 _ (List.mem_of_getElem? (i := 109) rfl)
theorem wl_9_3 : Cond.methodLink RL 32 yX10_push ∈ lw_tbl := wt_2 _ (List.mem_of_getElem? (i := 42) rfl)
theorem wl_9_4 : Cond.instanceMethod yX10_push ∈ lw_tbl := wt_2 _ (List.mem_of_getElem? (i := 43) rfl)
theorem wl_9_5 : Cond.selects RX10 yX10_push yX10_push ∈ lw_tbl := wt_2 _ (List.mem_of_getElem? (i := 44) rfl)
theorem wl_9_6 : Cond.code yX10_push cX10_push 1 (some .int) ∈ lw_tbl := wt_2 _ (List.mem_of_getElem? (i := 45) rfl)
theorem wl_9_7 : Cond.fieldLink RX10 86 "RoundThrow$Setup" "pushes" "LRoundThrow$Pushes;" ∈ lw_tbl := wt_1 _ (List.mem_of_getElem? (i := 98) rfl)
theorem wl_9_8 : Cond.fieldLink RX10 96 "RoundThrow$Pushes" "parts" "I" ∈ lw_tbl := wt_1 _ (List.mem_of_getElem? (i := 67) rfl)
theorem wl_9_9 : Cond.methodLink RX10 90 yX6_read ∈ lw_tbl := wt_2 _ (List.mem_of_getElem? (i := 46) rfl)
theorem wl_9_10 : Cond.instanceMethod yX6_read ∈ lw_tbl := wt_2 _ (List.mem_of_getElem? (i := 47) rfl)
theorem wl_9_11 : Cond.selects RX6 yX6_read yX6_read ∈ lw_tbl := wt_2 _ (List.mem_of_getElem? (i := 48) rfl)
theorem wl_9_12 : Cond.code yX6_read cX6_read 6 none ∈ lw_tbl := wt_2 _ (List.mem_of_getElem? (i := 49) rfl)
theorem wl_9_13 : Cond.fieldLink RX6 20 "RoundThrow$Pushes" "count" "I" ∈ lw_tbl := wt_1 _ (List.mem_of_getElem? (i := 65) rfl)
theorem wl_9_14 : Cond.fieldLink RX6 24 "RoundThrow$Pushes" "parts" "I" ∈ lw_tbl := wt_1 _ (List.mem_of_getElem? (i := 66) rfl)
theorem wl_9_15 : Cond.fieldLink RX6 27 "RoundThrow$Pad" "length" "I" ∈ lw_tbl := wt_1 _ (List.mem_of_getElem? (i := 34) rfl)
theorem wl_9_16 : Cond.fieldLink RX6 30 "RoundThrow$Pad" "signs" "[I" ∈ lw_tbl := wt_1 _ (List.mem_of_getElem? (i := 32) rfl)
theorem wl_9_17 : Cond.methodLink RX6 33 yX4_isDigit ∈ lw_tbl := wt_2 _ (List.mem_of_getElem? (i := 50) rfl)
theorem wl_9_18 : Cond.methodLink RX6 37 yX6_numberBehind ∈ lw_tbl := wt_2 _ (List.mem_of_getElem? (i := 51) rfl)
theorem wl_9_19 : Cond.static yX6_numberBehind ∈ lw_tbl := wt_2 _ (List.mem_of_getElem? (i := 52) rfl)
theorem wl_9_20 : Cond.code yX6_numberBehind cX6_numberBehind 4 (some .int) ∈ lw_tbl := wt_2 _ (List.mem_of_getElem? (i := 53) rfl)
theorem wl_9_21 : Cond.methodLink RL 35 yX11_push ∈ lw_tbl := wt_4 _ (List.mem_of_getElem? (i := 110) rfl)
theorem wl_9_22 : Cond.instanceMethod yX11_push ∈ lw_tbl := wt_4 _ (List.mem_of_getElem? (i := 111) rfl)
theorem wl_9_23 : Cond.selects RX11 yX11_push yX11_push ∈ lw_tbl := wt_4 _ (List.mem_of_getElem? (i := 112) rfl)
theorem wr_9 : ∀ w ∈ wsL_law_r9, w ∈ lw_tbl ∧ goodWord w = true := List.forall_mem_cons.mpr ⟨⟨wl_9_0, rfl⟩, List.forall_mem_cons.mpr ⟨⟨wl_9_1, rfl⟩, List.forall_mem_cons.mpr ⟨⟨wl_9_2, rfl⟩, List.forall_mem_cons.mpr ⟨⟨wl_9_3, rfl⟩, List.forall_mem_cons.mpr ⟨⟨wl_9_4, rfl⟩, List.forall_mem_cons.mpr ⟨⟨wl_9_5, rfl⟩, List.forall_mem_cons.mpr ⟨⟨wl_9_6, rfl⟩, List.forall_mem_cons.mpr ⟨⟨wl_9_7, rfl⟩, List.forall_mem_cons.mpr ⟨⟨wl_9_8, rfl⟩, List.forall_mem_cons.mpr ⟨⟨wl_9_9, rfl⟩, List.forall_mem_cons.mpr ⟨⟨wl_9_10, rfl⟩, List.forall_mem_cons.mpr ⟨⟨wl_9_11, rfl⟩, List.forall_mem_cons.mpr ⟨⟨wl_9_12, rfl⟩, List.forall_mem_cons.mpr ⟨⟨wl_9_13, rfl⟩, List.forall_mem_cons.mpr ⟨⟨wl_9_14, rfl⟩, List.forall_mem_cons.mpr ⟨⟨wl_9_15, rfl⟩, List.forall_mem_cons.mpr ⟨⟨wl_9_16, rfl⟩, List.forall_mem_cons.mpr ⟨⟨wl_9_17, rfl⟩, List.forall_mem_cons.mpr ⟨⟨wl_9_18, rfl⟩, List.forall_mem_cons.mpr ⟨⟨wl_9_19, rfl⟩, List.forall_mem_cons.mpr ⟨⟨wl_9_20, rfl⟩, List.forall_mem_cons.mpr ⟨⟨wl_9_21, rfl⟩, List.forall_mem_cons.mpr ⟨⟨wl_9_22, rfl⟩, List.forall_mem_cons.mpr ⟨⟨wl_9_23, rfl⟩, fun _ h => absurd h List.not_mem_nil⟩⟩⟩⟩⟩⟩⟩⟩⟩⟩⟩⟩⟩⟩⟩⟩⟩⟩⟩⟩⟩⟩⟩⟩
theorem wl_10_0 : Cond.code yX11_push cX11_push 5 (some .int) ∈ lw_tbl := wt_4 _ (List.mem_of_getElem? (i := 113) rfl)
theorem wl_10_1 : Cond.fieldLink RX11 109 "RoundThrowModel" "pushMany" "I" ∈ lw_tbl := wt_3 _ (List.mem_of_getElem? (i := 221) rfl)
theorem wl_10_2 : Cond.fieldLink RX11 112 "RoundThrowModel" "partMany" "I" ∈ lw_tbl := wt_3 _ (List.mem_of_getElem? (i := 222) rfl)
theorem wl_10_3 : Cond.methodLink RX11 105 yX11_fault ∈ lw_tbl := wt_4 _ (List.mem_of_getElem? (i := 114) rfl)
theorem wl_10_4 : Cond.methodLink RL 36 yX10_turn ∈ lw_tbl := wt_2 _ (List.mem_of_getElem? (i := 54) rfl)
theorem wl_10_5 : Cond.instanceMethod yX10_turn ∈ lw_tbl := wt_2 _ (List.mem_of_getElem? (i := 55) rfl)
theorem wl_10_6 : Cond.selects RX10 yX10_turn yX10_turn ∈ lw_tbl := wt_2 _ (List.mem_of_getElem? (i := 56) rfl)
theorem wl_10_7 : Cond.code yX10_turn cX10_turn 3 (some .int) ∈ lw_tbl := wt_2 _ (List.mem_of_getElem? (i := 57) rfl)
theorem wl_10_8 : Cond.fieldLink RX10 109 "RoundThrow$Platform" "angles" "[I" ∈ lw_tbl := wt_1 _ (List.mem_of_getElem? (i := 128) rfl)
theorem wl_10_9 : Cond.fieldLink RX10 112 "RoundThrow$Platform" "paces" "[I" ∈ lw_tbl := wt_1 _ (List.mem_of_getElem? (i := 130) rfl)
theorem wl_10_10 : Cond.methodLink RX10 99 yX10_isTick ∈ lw_tbl := wt_2 _ (List.mem_of_getElem? (i := 58) rfl)
theorem wl_10_11 : Cond.static yX10_isTick ∈ lw_tbl := wt_2 _ (List.mem_of_getElem? (i := 59) rfl)
theorem wl_10_12 : Cond.code yX10_isTick cX10_isTick 1 (some .boolean) ∈ lw_tbl := wt_2 _ (List.mem_of_getElem? (i := 60) rfl)
theorem wl_10_13 : Cond.methodLink RX10 102 yX7_pace ∈ lw_tbl := wt_2 _ (List.mem_of_getElem? (i := 61) rfl)
theorem wl_10_14 : Cond.instanceMethod yX7_pace ∈ lw_tbl := wt_2 _ (List.mem_of_getElem? (i := 62) rfl)
theorem wl_10_15 : Cond.selects RX7 yX7_pace yX7_pace ∈ lw_tbl := wt_2 _ (List.mem_of_getElem? (i := 63) rfl)
theorem wl_10_16 : Cond.code yX7_pace cX7_pace 1 (some .int) ∈ lw_tbl := wt_2 _ (List.mem_of_getElem? (i := 64) rfl)
theorem wl_10_17 : Cond.methodLink RX10 105 yX5_run ∈ lw_tbl := wt_2 _ (List.mem_of_getElem? (i := 65) rfl)
theorem wl_10_18 : Cond.instanceMethod yX5_run ∈ lw_tbl := wt_2 _ (List.mem_of_getElem? (i := 66) rfl)
theorem wl_10_19 : Cond.selects RX5 yX5_run yX5_run ∈ lw_tbl := wt_2 _ (List.mem_of_getElem? (i := 67) rfl)
theorem wl_10_20 : Cond.code yX5_run cX5_run 5 none ∈ lw_tbl := wt_2 _ (List.mem_of_getElem? (i := 68) rfl)
theorem wl_10_21 : Cond.fieldLink RX5 18 "RoundThrow$Setup" "pushes" "LRoundThrow$Pushes;" ∈ lw_tbl := wt_1 _ (List.mem_of_getElem? (i := 97) rfl)
theorem wl_10_22 : Cond.methodLink RX5 24 yX6_paceAt ∈ lw_tbl := wt_2 _ (List.mem_of_getElem? (i := 69) rfl)
theorem wl_10_23 : Cond.instanceMethod yX6_paceAt ∈ lw_tbl := wt_2 _ (List.mem_of_getElem? (i := 70) rfl)
theorem wr_10 : ∀ w ∈ wsL_law_r10, w ∈ lw_tbl ∧ goodWord w = true := List.forall_mem_cons.mpr ⟨⟨wl_10_0, rfl⟩, List.forall_mem_cons.mpr ⟨⟨wl_10_1, rfl⟩, List.forall_mem_cons.mpr ⟨⟨wl_10_2, rfl⟩, List.forall_mem_cons.mpr ⟨⟨wl_10_3, rfl⟩, List.forall_mem_cons.mpr ⟨⟨wl_10_4, rfl⟩, List.forall_mem_cons.mpr ⟨⟨wl_10_5, rfl⟩, List.forall_mem_cons.mpr ⟨⟨wl_10_6, rfl⟩, List.forall_mem_cons.mpr ⟨⟨wl_10_7, rfl⟩, List.forall_mem_cons.mpr ⟨⟨wl_10_8, rfl⟩, List.forall_mem_cons.mpr ⟨⟨wl_10_9, rfl⟩, List.forall_mem_cons.mpr ⟨⟨wl_10_10, rfl⟩, List.forall_mem_cons.mpr ⟨⟨wl_10_11, rfl⟩, List.forall_mem_cons.mpr ⟨⟨wl_10_12, rfl⟩, List.forall_mem_cons.mpr ⟨⟨wl_10_13, rfl⟩, List.forall_mem_cons.mpr ⟨⟨wl_10_14, rfl⟩, List.forall_mem_cons.mpr ⟨⟨wl_10_15, rfl⟩, List.forall_mem_cons.mpr ⟨⟨wl_10_16, rfl⟩, List.forall_mem_cons.mpr ⟨⟨wl_10_17, rfl⟩, List.forall_mem_cons.mpr ⟨⟨wl_10_18, rfl⟩, List.forall_mem_cons.mpr ⟨⟨wl_10_19, rfl⟩, List.forall_mem_cons.mpr ⟨⟨wl_10_20, rfl⟩, List.forall_mem_cons.mpr ⟨⟨wl_10_21, rfl⟩, List.forall_mem_cons.mpr ⟨⟨wl_10_22, rfl⟩, List.forall_mem_cons.mpr ⟨⟨wl_10_23, rfl⟩, fun _ h => absurd h List.not_mem_nil⟩⟩⟩⟩⟩⟩⟩⟩⟩⟩⟩⟩⟩⟩⟩⟩⟩⟩⟩⟩⟩⟩⟩⟩
theorem wl_11_0 : Cond.selects RX6 yX6_paceAt yX6_paceAt ∈ lw_tbl := wt_2 _ (List.mem_of_getElem? (i := 71) rfl)
theorem wl_11_1 : Cond.code yX6_paceAt cX6_paceAt 5 (some .int) ∈ lw_tbl := wt_2 _ (List.mem_of_getElem? (i := 72) rfl)
theorem wl_11_2 : Cond.methodLink RX6 41 Lib.Math.min.name ∈ lw_tbl := wt_2 _ (List.mem_of_getElem? (i := 73) rfl)
theorem wl_11_3 : Cond.static Lib.Math.min.name ∈ lw_tbl := wt_2 _ (List.mem_of_getElem? (i := 74) rfl)
theorem wl_11_4 : Cond.initialized "java/lang/Math" ∈ lw_tbl := wt_1 _ (List.mem_of_getElem? (i := 12) rfl)
theorem wl_11_5 : Cond.code Lib.Math.min.name Lib.Math.min.code 2 (some .int) ∈ lw_tbl := wt_2 _ (List.mem_of_getElem? (i := 75) rfl)
theorem wl_11_6 : Cond.methodLink RX6 47 Lib.Math.max.name ∈ lw_tbl := wt_2 _ (List.mem_of_getElem? (i := 76) rfl)
theorem wl_11_7 : Cond.static Lib.Math.max.name ∈ lw_tbl := wt_2 _ (List.mem_of_getElem? (i := 77) rfl)
theorem wl_11_8 : Cond.code Lib.Math.max.name Lib.Math.max.code 2 (some .int) ∈ lw_tbl := wt_2 _ (List.mem_of_getElem? (i := 78) rfl)
theorem wl_11_9 : Cond.methodLink RX5 30 yJ9_floorMod_7cf53 ∈ lw_tbl := wt_2 _ (List.mem_of_getElem? (i := 79) rfl)
theorem wl_11_10 : Cond.static yJ9_floorMod_7cf53 ∈ lw_tbl := wt_2 _ (List.mem_of_getElem? (i := 80) rfl)
theorem wl_11_11 : Cond.initialized RJ9 ∈ lw_tbl := wt_1 _ (List.mem_of_getElem? (i := 12) rfl)
theorem wl_11_12 : Cond.code yJ9_floorMod_7cf53 cJ9_floorMod_7cf53 3 (some .int) ∈ lw_tbl := wt_2 _ (List.mem_of_getElem? (i := 81) rfl)
theorem wl_11_13 : Cond.methodLink RX5 35 yX7_slows ∈ lw_tbl := wt_2 _ (List.mem_of_getElem? (i := 82) rfl)
theorem wl_11_14 : Cond.instanceMethod yX7_slows ∈ lw_tbl := wt_2 _ (List.mem_of_getElem? (i := 83) rfl)
theorem wl_11_15 : Cond.selects RX7 yX7_slows yX7_slows ∈ lw_tbl := wt_2 _ (List.mem_of_getElem? (i := 84) rfl)
theorem wl_11_16 : Cond.code yX7_slows cX7_slows 1 (some .int) ∈ lw_tbl := wt_2 _ (List.mem_of_getElem? (i := 85) rfl)
theorem wl_11_17 : Cond.methodLink RX5 39 yX5_nearerToZero ∈ lw_tbl := wt_2 _ (List.mem_of_getElem? (i := 86) rfl)
theorem wl_11_18 : Cond.static yX5_nearerToZero ∈ lw_tbl := wt_2 _ (List.mem_of_getElem? (i := 87) rfl)
theorem wl_11_19 : Cond.code yX5_nearerToZero cX5_nearerToZero 2 (some .int) ∈ lw_tbl := wt_2 _ (List.mem_of_getElem? (i := 88) rfl)
theorem wl_11_20 : Cond.methodLink RX5 42 Lib.Math.max.name ∈ lw_tbl := wt_2 _ (List.mem_of_getElem? (i := 89) rfl)
theorem wl_11_21 : Cond.methodLink RX5 45 Lib.Math.min.name ∈ lw_tbl := wt_2 _ (List.mem_of_getElem? (i := 90) rfl)
theorem wl_11_22 : Cond.methodLink RL 39 yX11_turn ∈ lw_tbl := wt_4 _ (List.mem_of_getElem? (i := 115) rfl)
theorem wl_11_23 : Cond.instanceMethod yX11_turn ∈ lw_tbl := wt_4 _ (List.mem_of_getElem? (i := 116) rfl)
theorem wr_11 : ∀ w ∈ wsL_law_r11, w ∈ lw_tbl ∧ goodWord w = true := List.forall_mem_cons.mpr ⟨⟨wl_11_0, rfl⟩, List.forall_mem_cons.mpr ⟨⟨wl_11_1, rfl⟩, List.forall_mem_cons.mpr ⟨⟨wl_11_2, rfl⟩, List.forall_mem_cons.mpr ⟨⟨wl_11_3, rfl⟩, List.forall_mem_cons.mpr ⟨⟨wl_11_4, rfl⟩, List.forall_mem_cons.mpr ⟨⟨wl_11_5, rfl⟩, List.forall_mem_cons.mpr ⟨⟨wl_11_6, rfl⟩, List.forall_mem_cons.mpr ⟨⟨wl_11_7, rfl⟩, List.forall_mem_cons.mpr ⟨⟨wl_11_8, rfl⟩, List.forall_mem_cons.mpr ⟨⟨wl_11_9, rfl⟩, List.forall_mem_cons.mpr ⟨⟨wl_11_10, rfl⟩, List.forall_mem_cons.mpr ⟨⟨wl_11_11, rfl⟩, List.forall_mem_cons.mpr ⟨⟨wl_11_12, rfl⟩, List.forall_mem_cons.mpr ⟨⟨wl_11_13, rfl⟩, List.forall_mem_cons.mpr ⟨⟨wl_11_14, rfl⟩, List.forall_mem_cons.mpr ⟨⟨wl_11_15, rfl⟩, List.forall_mem_cons.mpr ⟨⟨wl_11_16, rfl⟩, List.forall_mem_cons.mpr ⟨⟨wl_11_17, rfl⟩, List.forall_mem_cons.mpr ⟨⟨wl_11_18, rfl⟩, List.forall_mem_cons.mpr ⟨⟨wl_11_19, rfl⟩, List.forall_mem_cons.mpr ⟨⟨wl_11_20, rfl⟩, List.forall_mem_cons.mpr ⟨⟨wl_11_21, rfl⟩, List.forall_mem_cons.mpr ⟨⟨wl_11_22, rfl⟩, List.forall_mem_cons.mpr ⟨⟨wl_11_23, rfl⟩, fun _ h => absurd h List.not_mem_nil⟩⟩⟩⟩⟩⟩⟩⟩⟩⟩⟩⟩⟩⟩⟩⟩⟩⟩⟩⟩⟩⟩⟩⟩
theorem wl_12_0 : Cond.selects RX11 yX11_turn yX11_turn ∈ lw_tbl := wt_4 _ (List.mem_of_getElem? (i := 117) rfl)
theorem wl_12_1 : Cond.code yX11_turn cX11_turn 3 (some .int) ∈ lw_tbl := wt_4 _ (List.mem_of_getElem? (i := 118) rfl)
theorem wl_12_2 : Cond.methodLink RX11 118 yX11_isTick ∈ lw_tbl := wt_4 _ (List.mem_of_getElem? (i := 119) rfl)
theorem wl_12_3 : Cond.static yX11_isTick ∈ lw_tbl := wt_4 _ (List.mem_of_getElem? (i := 120) rfl)
theorem wl_12_4 : Cond.code yX11_isTick cX11_isTick 1 (some .boolean) ∈ lw_tbl := wt_4 _ (List.mem_of_getElem? (i := 121) rfl)
theorem wl_12_5 : Cond.constantLong RX11 71 (60) ∈ lw_tbl := wt_4 _ (List.mem_of_getElem? (i := 122) rfl)
theorem wl_12_6 : Cond.methodLink RX11 121 yX11_isEnd ∈ lw_tbl := wt_4 _ (List.mem_of_getElem? (i := 123) rfl)
theorem wl_12_7 : Cond.static yX11_isEnd ∈ lw_tbl := wt_4 _ (List.mem_of_getElem? (i := 124) rfl)
theorem wl_12_8 : Cond.code yX11_isEnd cX11_isEnd 1 (some .boolean) ∈ lw_tbl := wt_4 _ (List.mem_of_getElem? (i := 125) rfl)
theorem wl_12_9 : Cond.methodLink RX11 124 yX11_layTurns ∈ lw_tbl := wt_4 _ (List.mem_of_getElem? (i := 126) rfl)
theorem wl_12_10 : Cond.instanceMethod yX11_layTurns ∈ lw_tbl := wt_4 _ (List.mem_of_getElem? (i := 128) rfl)
theorem wl_12_11 : Cond.selects RX11 yX11_layTurns yX11_layTurns ∈ lw_tbl := ws_1 _ (List.mem_of_getElem? (i := 12) rfl)
theorem wl_12_12 : Cond.code yX11_layTurns cX11_layTurns 5 none ∈ lw_tbl := wt_4 _ (List.mem_of_getElem? (i := 129) rfl)
theorem wl_12_13 : Cond.methodLink RX11 115 yX11_held ∈ lw_tbl := wt_4 _ (List.mem_of_getElem? (i := 130) rfl)
theorem wl_12_14 : Cond.static yX11_held ∈ lw_tbl := wt_4 _ (List.mem_of_getElem? (i := 131) rfl)
theorem wl_12_15 : Cond.code yX11_held cX11_held 1 (some .int) ∈ lw_tbl := wt_4 _ (List.mem_of_getElem? (i := 132) rfl)
theorem wl_12_16 : Cond.methodLink RL 40 yX10_sit ∈ lw_tbl := wt_2 _ (List.mem_of_getElem? (i := 91) rfl)
theorem wl_12_17 : Cond.instanceMethod yX10_sit ∈ lw_tbl := wt_2 _ (List.mem_of_getElem? (i := 92) rfl)
theorem wl_12_18 : Cond.selects RX10 yX10_sit yX10_sit ∈ lw_tbl := wt_2 _ (List.mem_of_getElem? (i := 93) rfl)
theorem wl_12_19 : Cond.code yX10_sit cX10_sit 3 (some .int) ∈ lw_tbl := wt_2 _ (List.mem_of_getElem? (i := 94) rfl)
theorem wl_12_20 : Cond.fieldLink RX10 118 "RoundThrow$Setup" "ones" "I" ∈ lw_tbl := wt_1 _ (List.mem_of_getElem? (i := 106) rfl)
theorem wl_12_21 : Cond.methodLink RX10 115 yX10_isWay ∈ lw_tbl := wt_2 _ (List.mem_of_getElem? (i := 95) rfl)
theorem wl_12_22 : Cond.static yX10_isWay ∈ lw_tbl := wt_2 _ (List.mem_of_getElem? (i := 96) rfl)
theorem wl_12_23 : Cond.code yX10_isWay cX10_isWay 1 (some .boolean) ∈ lw_tbl := wt_2 _ (List.mem_of_getElem? (i := 97) rfl)
theorem wr_12 : ∀ w ∈ wsL_law_r12, w ∈ lw_tbl ∧ goodWord w = true := List.forall_mem_cons.mpr ⟨⟨wl_12_0, rfl⟩, List.forall_mem_cons.mpr ⟨⟨wl_12_1, rfl⟩, List.forall_mem_cons.mpr ⟨⟨wl_12_2, rfl⟩, List.forall_mem_cons.mpr ⟨⟨wl_12_3, rfl⟩, List.forall_mem_cons.mpr ⟨⟨wl_12_4, rfl⟩, List.forall_mem_cons.mpr ⟨⟨wl_12_5, rfl⟩, List.forall_mem_cons.mpr ⟨⟨wl_12_6, rfl⟩, List.forall_mem_cons.mpr ⟨⟨wl_12_7, rfl⟩, List.forall_mem_cons.mpr ⟨⟨wl_12_8, rfl⟩, List.forall_mem_cons.mpr ⟨⟨wl_12_9, rfl⟩, List.forall_mem_cons.mpr ⟨⟨wl_12_10, rfl⟩, List.forall_mem_cons.mpr ⟨⟨wl_12_11, rfl⟩, List.forall_mem_cons.mpr ⟨⟨wl_12_12, rfl⟩, List.forall_mem_cons.mpr ⟨⟨wl_12_13, rfl⟩, List.forall_mem_cons.mpr ⟨⟨wl_12_14, rfl⟩, List.forall_mem_cons.mpr ⟨⟨wl_12_15, rfl⟩, List.forall_mem_cons.mpr ⟨⟨wl_12_16, rfl⟩, List.forall_mem_cons.mpr ⟨⟨wl_12_17, rfl⟩, List.forall_mem_cons.mpr ⟨⟨wl_12_18, rfl⟩, List.forall_mem_cons.mpr ⟨⟨wl_12_19, rfl⟩, List.forall_mem_cons.mpr ⟨⟨wl_12_20, rfl⟩, List.forall_mem_cons.mpr ⟨⟨wl_12_21, rfl⟩, List.forall_mem_cons.mpr ⟨⟨wl_12_22, rfl⟩, List.forall_mem_cons.mpr ⟨⟨wl_12_23, rfl⟩, fun _ h => absurd h List.not_mem_nil⟩⟩⟩⟩⟩⟩⟩⟩⟩⟩⟩⟩⟩⟩⟩⟩⟩⟩⟩⟩⟩⟩⟩⟩
theorem wl_13_0 : Cond.methodLink RX10 121 yX7_seat ∈ lw_tbl := wt_2 _ (List.mem_of_getElem? (i := 98) rfl)
theorem wl_13_1 : Cond.instanceMethod yX7_seat ∈ lw_tbl := wt_2 _ (List.mem_of_getElem? (i := 99) rfl)
theorem wl_13_2 : Cond.selects RX7 yX7_seat yX7_seat ∈ lw_tbl := wt_2 _ (List.mem_of_getElem? (i := 100) rfl)
theorem wl_13_3 : Cond.code yX7_seat cX7_seat 4 (some .int) ∈ lw_tbl := wt_2 _ (List.mem_of_getElem? (i := 101) rfl)
theorem wl_13_4 : Cond.fieldLink RX7 53 "RoundThrow$Setup" "ones" "I" ∈ lw_tbl := wt_1 _ (List.mem_of_getElem? (i := 105) rfl)
theorem wl_13_5 : Cond.methodLink RX7 57 yX9_turnX ∈ lw_tbl := wt_2 _ (List.mem_of_getElem? (i := 102) rfl)
theorem wl_13_6 : Cond.static yX9_turnX ∈ lw_tbl := wt_2 _ (List.mem_of_getElem? (i := 103) rfl)
theorem wl_13_7 : Cond.initialized RX9 ∈ lw_tbl := wt_1 _ (List.mem_of_getElem? (i := 13) rfl)
theorem wl_13_8 : Cond.code yX9_turnX cX9_turnX 5 (some .long) ∈ lw_tbl := wt_2 _ (List.mem_of_getElem? (i := 104) rfl)
theorem wl_13_9 : Cond.constantLong RX9 28 (10000) ∈ lw_tbl := wt_2 _ (List.mem_of_getElem? (i := 114) rfl)
theorem wl_13_10 : Cond.methodLink RX9 21 yX9_cosine ∈ lw_tbl := wt_2 _ (List.mem_of_getElem? (i := 105) rfl)
theorem wl_13_11 : Cond.static yX9_cosine ∈ lw_tbl := wt_2 _ (List.mem_of_getElem? (i := 106) rfl)
theorem wl_13_12 : Cond.code yX9_cosine cX9_cosine 1 (some .long) ∈ lw_tbl := wt_2 _ (List.mem_of_getElem? (i := 107) rfl)
theorem wl_13_13 : Cond.fieldLink RX9 9 "RoundThrow$Ways" "SINES" "[I" ∈ lw_tbl := wt_2 _ (List.mem_of_getElem? (i := 108) rfl)
theorem wl_13_14 : Cond.methodLink RX9 15 yJ9_floorMod_7cf53 ∈ lw_tbl := wt_2 _ (List.mem_of_getElem? (i := 110) rfl)
theorem wl_13_15 : Cond.methodLink RX9 25 yX9_sine ∈ lw_tbl := wt_2 _ (List.mem_of_getElem? (i := 111) rfl)
theorem wl_13_16 : Cond.static yX9_sine ∈ lw_tbl := wt_2 _ (List.mem_of_getElem? (i := 112) rfl)
theorem wl_13_17 : Cond.code yX9_sine cX9_sine 1 (some .long) ∈ lw_tbl := wt_2 _ (List.mem_of_getElem? (i := 113) rfl)
theorem wl_13_18 : Cond.methodLink RX7 63 yX9_turnY ∈ lw_tbl := wt_2 _ (List.mem_of_getElem? (i := 115) rfl)
theorem wl_13_19 : Cond.static yX9_turnY ∈ lw_tbl := wt_2 _ (List.mem_of_getElem? (i := 116) rfl)
theorem wl_13_20 : Cond.code yX9_turnY cX9_turnY 5 (some .long) ∈ lw_tbl := wt_2 _ (List.mem_of_getElem? (i := 117) rfl)
theorem wl_13_21 : Cond.methodLink RL 43 yX11_sit ∈ lw_tbl := wt_4 _ (List.mem_of_getElem? (i := 133) rfl)
theorem wl_13_22 : Cond.instanceMethod yX11_sit ∈ lw_tbl := wt_4 _ (List.mem_of_getElem? (i := 134) rfl)
theorem wl_13_23 : Cond.selects RX11 yX11_sit yX11_sit ∈ lw_tbl := wt_4 _ (List.mem_of_getElem? (i := 135) rfl)
theorem wr_13 : ∀ w ∈ wsL_law_r13, w ∈ lw_tbl ∧ goodWord w = true := List.forall_mem_cons.mpr ⟨⟨wl_13_0, rfl⟩, List.forall_mem_cons.mpr ⟨⟨wl_13_1, rfl⟩, List.forall_mem_cons.mpr ⟨⟨wl_13_2, rfl⟩, List.forall_mem_cons.mpr ⟨⟨wl_13_3, rfl⟩, List.forall_mem_cons.mpr ⟨⟨wl_13_4, rfl⟩, List.forall_mem_cons.mpr ⟨⟨wl_13_5, rfl⟩, List.forall_mem_cons.mpr ⟨⟨wl_13_6, rfl⟩, List.forall_mem_cons.mpr ⟨⟨wl_13_7, rfl⟩, List.forall_mem_cons.mpr ⟨⟨wl_13_8, rfl⟩, List.forall_mem_cons.mpr ⟨⟨wl_13_9, rfl⟩, List.forall_mem_cons.mpr ⟨⟨wl_13_10, rfl⟩, List.forall_mem_cons.mpr ⟨⟨wl_13_11, rfl⟩, List.forall_mem_cons.mpr ⟨⟨wl_13_12, rfl⟩, List.forall_mem_cons.mpr ⟨⟨wl_13_13, rfl⟩, List.forall_mem_cons.mpr ⟨⟨wl_13_14, rfl⟩, List.forall_mem_cons.mpr ⟨⟨wl_13_15, rfl⟩, List.forall_mem_cons.mpr ⟨⟨wl_13_16, rfl⟩, List.forall_mem_cons.mpr ⟨⟨wl_13_17, rfl⟩, List.forall_mem_cons.mpr ⟨⟨wl_13_18, rfl⟩, List.forall_mem_cons.mpr ⟨⟨wl_13_19, rfl⟩, List.forall_mem_cons.mpr ⟨⟨wl_13_20, rfl⟩, List.forall_mem_cons.mpr ⟨⟨wl_13_21, rfl⟩, List.forall_mem_cons.mpr ⟨⟨wl_13_22, rfl⟩, List.forall_mem_cons.mpr ⟨⟨wl_13_23, rfl⟩, fun _ h => absurd h List.not_mem_nil⟩⟩⟩⟩⟩⟩⟩⟩⟩⟩⟩⟩⟩⟩⟩⟩⟩⟩⟩⟩⟩⟩⟩⟩
theorem wl_14_0 : Cond.code yX11_sit cX11_sit 3 (some .int) ∈ lw_tbl := wt_4 _ (List.mem_of_getElem? (i := 136) rfl)
theorem wl_14_1 : Cond.constantLong RX11 127 (1000) ∈ lw_tbl := wt_4 _ (List.mem_of_getElem? (i := 137) rfl)
theorem wl_14_2 : Cond.fieldLink RX11 132 "RoundThrowModel" "ones" "I" ∈ lw_tbl := wt_3 _ (List.mem_of_getElem? (i := 225) rfl)
theorem wl_14_3 : Cond.fieldLink RX11 75 "RoundThrowModel" "turnedX" "I" ∈ lw_tbl := wt_3 _ (List.mem_of_getElem? (i := 212) rfl)
theorem wl_14_4 : Cond.fieldLink RX11 79 "RoundThrowModel" "turnedY" "I" ∈ lw_tbl := wt_3 _ (List.mem_of_getElem? (i := 213) rfl)
theorem wl_14_5 : Cond.methodLink RX11 129 yX11_isWay ∈ lw_tbl := wt_4 _ (List.mem_of_getElem? (i := 138) rfl)
theorem wl_14_6 : Cond.static yX11_isWay ∈ lw_tbl := wt_4 _ (List.mem_of_getElem? (i := 139) rfl)
theorem wl_14_7 : Cond.code yX11_isWay cX11_isWay 1 (some .boolean) ∈ lw_tbl := wt_4 _ (List.mem_of_getElem? (i := 140) rfl)
theorem wl_14_8 : Cond.constantLong RX11 65 (23) ∈ lw_tbl := wt_4 _ (List.mem_of_getElem? (i := 141) rfl)
theorem wl_14_9 : Cond.methodLink RX11 135 yX11_turnPoint ∈ lw_tbl := wt_4 _ (List.mem_of_getElem? (i := 142) rfl)
theorem wl_14_10 : Cond.instanceMethod yX11_turnPoint ∈ lw_tbl := wt_4 _ (List.mem_of_getElem? (i := 144) rfl)
theorem wl_14_11 : Cond.selects RX11 yX11_turnPoint yX11_turnPoint ∈ lw_tbl := ws_1 _ (List.mem_of_getElem? (i := 13) rfl)
theorem wl_14_12 : Cond.code yX11_turnPoint cX11_turnPoint 8 none ∈ lw_tbl := wt_4 _ (List.mem_of_getElem? (i := 145) rfl)
theorem wl_14_13 : Cond.constantLong RX11 73 (10000) ∈ lw_tbl := wt_4 _ (List.mem_of_getElem? (i := 146) rfl)
theorem wl_14_14 : Cond.methodLink RL 44 yX10_point ∈ lw_tbl := wt_2 _ (List.mem_of_getElem? (i := 118) rfl)
theorem wl_14_15 : Cond.instanceMethod yX10_point ∈ lw_tbl := wt_2 _ (List.mem_of_getElem? (i := 119) rfl)
theorem wl_14_16 : Cond.selects RX10 yX10_point yX10_point ∈ lw_tbl := wt_2 _ (List.mem_of_getElem? (i := 120) rfl)
theorem wl_14_17 : Cond.code yX10_point cX10_point 7 (some .int) ∈ lw_tbl := wt_2 _ (List.mem_of_getElem? (i := 121) rfl)
theorem wl_14_18 : Cond.constant RX10 128 (-100000001) ∈ lw_tbl := wt_2 _ (List.mem_of_getElem? (i := 126) rfl)
theorem wl_14_19 : Cond.constant RX10 129 (-100000002) ∈ lw_tbl := wt_2 _ (List.mem_of_getElem? (i := 127) rfl)
theorem wl_14_20 : Cond.fieldLink RX10 130 "RoundThrow$Setup" "oneX" "[I" ∈ lw_tbl := wt_1 _ (List.mem_of_getElem? (i := 102) rfl)
theorem wl_14_21 : Cond.fieldLink RX10 133 "RoundThrow$Setup" "oneY" "[I" ∈ lw_tbl := wt_1 _ (List.mem_of_getElem? (i := 104) rfl)
theorem wl_14_22 : Cond.methodLink RX10 125 yX7_hasOne ∈ lw_tbl := wt_2 _ (List.mem_of_getElem? (i := 122) rfl)
theorem wl_14_23 : Cond.instanceMethod yX7_hasOne ∈ lw_tbl := wt_2 _ (List.mem_of_getElem? (i := 123) rfl)
theorem wr_14 : ∀ w ∈ wsL_law_r14, w ∈ lw_tbl ∧ goodWord w = true := List.forall_mem_cons.mpr ⟨⟨wl_14_0, rfl⟩, List.forall_mem_cons.mpr ⟨⟨wl_14_1, rfl⟩, List.forall_mem_cons.mpr ⟨⟨wl_14_2, rfl⟩, List.forall_mem_cons.mpr ⟨⟨wl_14_3, rfl⟩, List.forall_mem_cons.mpr ⟨⟨wl_14_4, rfl⟩, List.forall_mem_cons.mpr ⟨⟨wl_14_5, rfl⟩, List.forall_mem_cons.mpr ⟨⟨wl_14_6, rfl⟩, List.forall_mem_cons.mpr ⟨⟨wl_14_7, rfl⟩, List.forall_mem_cons.mpr ⟨⟨wl_14_8, rfl⟩, List.forall_mem_cons.mpr ⟨⟨wl_14_9, rfl⟩, List.forall_mem_cons.mpr ⟨⟨wl_14_10, rfl⟩, List.forall_mem_cons.mpr ⟨⟨wl_14_11, rfl⟩, List.forall_mem_cons.mpr ⟨⟨wl_14_12, rfl⟩, List.forall_mem_cons.mpr ⟨⟨wl_14_13, rfl⟩, List.forall_mem_cons.mpr ⟨⟨wl_14_14, rfl⟩, List.forall_mem_cons.mpr ⟨⟨wl_14_15, rfl⟩, List.forall_mem_cons.mpr ⟨⟨wl_14_16, rfl⟩, List.forall_mem_cons.mpr ⟨⟨wl_14_17, rfl⟩, List.forall_mem_cons.mpr ⟨⟨wl_14_18, rfl⟩, List.forall_mem_cons.mpr ⟨⟨wl_14_19, rfl⟩, List.forall_mem_cons.mpr ⟨⟨wl_14_20, rfl⟩, List.forall_mem_cons.mpr ⟨⟨wl_14_21, rfl⟩, List.forall_mem_cons.mpr ⟨⟨wl_14_22, rfl⟩, List.forall_mem_cons.mpr ⟨⟨wl_14_23, rfl⟩, fun _ h => absurd h List.not_mem_nil⟩⟩⟩⟩⟩⟩⟩⟩⟩⟩⟩⟩⟩⟩⟩⟩⟩⟩⟩⟩⟩⟩⟩⟩
theorem wl_15_0 : Cond.selects RX7 yX7_hasOne yX7_hasOne ∈ lw_tbl := wt_2 _ (List.mem_of_getElem? (i := 124) rfl)
theorem wl_15_1 : Cond.code yX7_hasOne cX7_hasOne 2 (some .boolean) ∈ lw_tbl := wt_2 _ (List.mem_of_getElem? (i := 125) rfl)
theorem wl_15_2 : Cond.methodLink RX10 136 yX5_wayBehind ∈ lw_tbl := wt_2 _ (List.mem_of_getElem? (i := 128) rfl)
theorem wl_15_3 : Cond.instanceMethod yX5_wayBehind ∈ lw_tbl := wt_2 _ (List.mem_of_getElem? (i := 129) rfl)
theorem wl_15_4 : Cond.selects RX5 yX5_wayBehind yX5_wayBehind ∈ lw_tbl := wt_2 _ (List.mem_of_getElem? (i := 130) rfl)
theorem wl_15_5 : Cond.code yX5_wayBehind cX5_wayBehind 2 (some .int) ∈ lw_tbl := wt_2 _ (List.mem_of_getElem? (i := 131) rfl)
theorem wl_15_6 : Cond.methodLink RX5 48 yX5_wayOf ∈ lw_tbl := wt_2 _ (List.mem_of_getElem? (i := 132) rfl)
theorem wl_15_7 : Cond.static yX5_wayOf ∈ lw_tbl := wt_2 _ (List.mem_of_getElem? (i := 133) rfl)
theorem wl_15_8 : Cond.code yX5_wayOf cX5_wayOf 1 (some .int) ∈ lw_tbl := wt_2 _ (List.mem_of_getElem? (i := 134) rfl)
theorem wl_15_9 : Cond.methodLink RX10 140 yX9_turnX ∈ lw_tbl := wt_2 _ (List.mem_of_getElem? (i := 135) rfl)
theorem wl_15_10 : Cond.methodLink RX10 146 yX9_turnY ∈ lw_tbl := wt_2 _ (List.mem_of_getElem? (i := 136) rfl)
theorem wl_15_11 : Cond.methodLink RL 48 yX11_point ∈ lw_tbl := wt_4 _ (List.mem_of_getElem? (i := 147) rfl)
theorem wl_15_12 : Cond.instanceMethod yX11_point ∈ lw_tbl := wt_4 _ (List.mem_of_getElem? (i := 148) rfl)
theorem wl_15_13 : Cond.selects RX11 yX11_point yX11_point ∈ lw_tbl := wt_4 _ (List.mem_of_getElem? (i := 149) rfl)
theorem wl_15_14 : Cond.code yX11_point cX11_point 4 (some .int) ∈ lw_tbl := wt_4 _ (List.mem_of_getElem? (i := 150) rfl)
theorem wl_15_15 : Cond.constant RX11 145 (-100000001) ∈ lw_tbl := wt_4 _ (List.mem_of_getElem? (i := 155) rfl)
theorem wl_15_16 : Cond.constantLong RX11 146 (3) ∈ lw_tbl := wt_4 _ (List.mem_of_getElem? (i := 156) rfl)
theorem wl_15_17 : Cond.constant RX11 148 (-100000002) ∈ lw_tbl := wt_4 _ (List.mem_of_getElem? (i := 157) rfl)
theorem wl_15_18 : Cond.methodLink RX11 142 yX11_isOne ∈ lw_tbl := wt_4 _ (List.mem_of_getElem? (i := 151) rfl)
theorem wl_15_19 : Cond.instanceMethod yX11_isOne ∈ lw_tbl := wt_4 _ (List.mem_of_getElem? (i := 153) rfl)
theorem wl_15_20 : Cond.selects RX11 yX11_isOne yX11_isOne ∈ lw_tbl := ws_1 _ (List.mem_of_getElem? (i := 14) rfl)
theorem wl_15_21 : Cond.code yX11_isOne cX11_isOne 2 (some .boolean) ∈ lw_tbl := wt_4 _ (List.mem_of_getElem? (i := 154) rfl)
theorem wl_15_22 : Cond.methodLink RX11 149 yX11_layOne ∈ lw_tbl := wt_4 _ (List.mem_of_getElem? (i := 158) rfl)
theorem wl_15_23 : Cond.instanceMethod yX11_layOne ∈ lw_tbl := wt_4 _ (List.mem_of_getElem? (i := 160) rfl)
theorem wr_15 : ∀ w ∈ wsL_law_r15, w ∈ lw_tbl ∧ goodWord w = true := List.forall_mem_cons.mpr ⟨⟨wl_15_0, rfl⟩, List.forall_mem_cons.mpr ⟨⟨wl_15_1, rfl⟩, List.forall_mem_cons.mpr ⟨⟨wl_15_2, rfl⟩, List.forall_mem_cons.mpr ⟨⟨wl_15_3, rfl⟩, List.forall_mem_cons.mpr ⟨⟨wl_15_4, rfl⟩, List.forall_mem_cons.mpr ⟨⟨wl_15_5, rfl⟩, List.forall_mem_cons.mpr ⟨⟨wl_15_6, rfl⟩, List.forall_mem_cons.mpr ⟨⟨wl_15_7, rfl⟩, List.forall_mem_cons.mpr ⟨⟨wl_15_8, rfl⟩, List.forall_mem_cons.mpr ⟨⟨wl_15_9, rfl⟩, List.forall_mem_cons.mpr ⟨⟨wl_15_10, rfl⟩, List.forall_mem_cons.mpr ⟨⟨wl_15_11, rfl⟩, List.forall_mem_cons.mpr ⟨⟨wl_15_12, rfl⟩, List.forall_mem_cons.mpr ⟨⟨wl_15_13, rfl⟩, List.forall_mem_cons.mpr ⟨⟨wl_15_14, rfl⟩, List.forall_mem_cons.mpr ⟨⟨wl_15_15, rfl⟩, List.forall_mem_cons.mpr ⟨⟨wl_15_16, rfl⟩, List.forall_mem_cons.mpr ⟨⟨wl_15_17, rfl⟩, List.forall_mem_cons.mpr ⟨⟨wl_15_18, rfl⟩, List.forall_mem_cons.mpr ⟨⟨wl_15_19, rfl⟩, List.forall_mem_cons.mpr ⟨⟨wl_15_20, rfl⟩, List.forall_mem_cons.mpr ⟨⟨wl_15_21, rfl⟩, List.forall_mem_cons.mpr ⟨⟨wl_15_22, rfl⟩, List.forall_mem_cons.mpr ⟨⟨wl_15_23, rfl⟩, fun _ h => absurd h List.not_mem_nil⟩⟩⟩⟩⟩⟩⟩⟩⟩⟩⟩⟩⟩⟩⟩⟩⟩⟩⟩⟩⟩⟩⟩⟩
theorem wl_16_0 : Cond.selects RX11 yX11_layOne yX11_layOne ∈ lw_tbl := ws_1 _ (List.mem_of_getElem? (i := 15) rfl)
theorem wl_16_1 : Cond.code yX11_layOne cX11_layOne 3 none ∈ lw_tbl := wt_4 _ (List.mem_of_getElem? (i := 161) rfl)
theorem wl_16_2 : Cond.methodLink RX11 139 yX11_wayAt ∈ lw_tbl := wt_4 _ (List.mem_of_getElem? (i := 162) rfl)
theorem wl_16_3 : Cond.instanceMethod yX11_wayAt ∈ lw_tbl := wt_4 _ (List.mem_of_getElem? (i := 164) rfl)
theorem wl_16_4 : Cond.selects RX11 yX11_wayAt yX11_wayAt ∈ lw_tbl := ws_2 _ (List.mem_of_getElem? (i := 0) rfl)
theorem wl_16_5 : Cond.code yX11_wayAt cX11_wayAt 2 (some .int) ∈ lw_tbl := wt_4 _ (List.mem_of_getElem? (i := 165) rfl)
theorem wl_16_6 : Cond.methodLink RL 49 yX10_ball ∈ lw_tbl := wt_2 _ (List.mem_of_getElem? (i := 137) rfl)
theorem wl_16_7 : Cond.instanceMethod yX10_ball ∈ lw_tbl := wt_2 _ (List.mem_of_getElem? (i := 138) rfl)
theorem wl_16_8 : Cond.selects RX10 yX10_ball yX10_ball ∈ lw_tbl := wt_2 _ (List.mem_of_getElem? (i := 139) rfl)
theorem wl_16_9 : Cond.code yX10_ball cX10_ball 11 (some .int) ∈ lw_tbl := wt_2 _ (List.mem_of_getElem? (i := 140) rfl)
theorem wl_16_10 : Cond.methodLink RX10 149 yX10_isThrow ∈ lw_tbl := wt_2 _ (List.mem_of_getElem? (i := 141) rfl)
theorem wl_16_11 : Cond.static yX10_isThrow ∈ lw_tbl := wt_2 _ (List.mem_of_getElem? (i := 142) rfl)
theorem wl_16_12 : Cond.code yX10_isThrow cX10_isThrow 2 (some .boolean) ∈ lw_tbl := wt_2 _ (List.mem_of_getElem? (i := 143) rfl)
theorem wl_16_13 : Cond.methodLink RX10 152 yX0_launch ∈ lw_tbl := wt_2 _ (List.mem_of_getElem? (i := 144) rfl)
theorem wl_16_14 : Cond.instanceMethod yX0_launch ∈ lw_tbl := wt_2 _ (List.mem_of_getElem? (i := 145) rfl)
theorem wl_16_15 : Cond.selects RX0 yX0_launch yX0_launch ∈ lw_tbl := wt_2 _ (List.mem_of_getElem? (i := 146) rfl)
theorem wl_16_16 : Cond.code yX0_launch cX0_launch 7 none ∈ lw_tbl := wt_2 _ (List.mem_of_getElem? (i := 147) rfl)
theorem wl_16_17 : Cond.fieldLink RX0 15 "RoundThrow$Ball" "x" "J" ∈ lw_tbl := wt_1 _ (List.mem_of_getElem? (i := 142) rfl)
theorem wl_16_18 : Cond.fieldLink RX0 21 "RoundThrow$Ball" "y" "J" ∈ lw_tbl := wt_1 _ (List.mem_of_getElem? (i := 144) rfl)
theorem wl_16_19 : Cond.fieldLink RX0 30 "RoundThrow$Ball" "besidesX" "J" ∈ lw_tbl := wt_1 _ (List.mem_of_getElem? (i := 148) rfl)
theorem wl_16_20 : Cond.fieldLink RX0 36 "RoundThrow$Ball" "besidesY" "J" ∈ lw_tbl := wt_1 _ (List.mem_of_getElem? (i := 149) rfl)
theorem wl_16_21 : Cond.methodLink RX0 9 yX5_wayBehind ∈ lw_tbl := wt_2 _ (List.mem_of_getElem? (i := 148) rfl)
theorem wl_16_22 : Cond.methodLink RX0 24 yX9_turnX ∈ lw_tbl := wt_2 _ (List.mem_of_getElem? (i := 149) rfl)
theorem wl_16_23 : Cond.methodLink RX0 33 yX9_turnY ∈ lw_tbl := wt_2 _ (List.mem_of_getElem? (i := 150) rfl)
theorem wr_16 : ∀ w ∈ wsL_law_r16, w ∈ lw_tbl ∧ goodWord w = true := List.forall_mem_cons.mpr ⟨⟨wl_16_0, rfl⟩, List.forall_mem_cons.mpr ⟨⟨wl_16_1, rfl⟩, List.forall_mem_cons.mpr ⟨⟨wl_16_2, rfl⟩, List.forall_mem_cons.mpr ⟨⟨wl_16_3, rfl⟩, List.forall_mem_cons.mpr ⟨⟨wl_16_4, rfl⟩, List.forall_mem_cons.mpr ⟨⟨wl_16_5, rfl⟩, List.forall_mem_cons.mpr ⟨⟨wl_16_6, rfl⟩, List.forall_mem_cons.mpr ⟨⟨wl_16_7, rfl⟩, List.forall_mem_cons.mpr ⟨⟨wl_16_8, rfl⟩, List.forall_mem_cons.mpr ⟨⟨wl_16_9, rfl⟩, List.forall_mem_cons.mpr ⟨⟨wl_16_10, rfl⟩, List.forall_mem_cons.mpr ⟨⟨wl_16_11, rfl⟩, List.forall_mem_cons.mpr ⟨⟨wl_16_12, rfl⟩, List.forall_mem_cons.mpr ⟨⟨wl_16_13, rfl⟩, List.forall_mem_cons.mpr ⟨⟨wl_16_14, rfl⟩, List.forall_mem_cons.mpr ⟨⟨wl_16_15, rfl⟩, List.forall_mem_cons.mpr ⟨⟨wl_16_16, rfl⟩, List.forall_mem_cons.mpr ⟨⟨wl_16_17, rfl⟩, List.forall_mem_cons.mpr ⟨⟨wl_16_18, rfl⟩, List.forall_mem_cons.mpr ⟨⟨wl_16_19, rfl⟩, List.forall_mem_cons.mpr ⟨⟨wl_16_20, rfl⟩, List.forall_mem_cons.mpr ⟨⟨wl_16_21, rfl⟩, List.forall_mem_cons.mpr ⟨⟨wl_16_22, rfl⟩, List.forall_mem_cons.mpr ⟨⟨wl_16_23, rfl⟩, fun _ h => absurd h List.not_mem_nil⟩⟩⟩⟩⟩⟩⟩⟩⟩⟩⟩⟩⟩⟩⟩⟩⟩⟩⟩⟩⟩⟩⟩⟩
theorem wl_17_0 : Cond.methodLink RX0 39 yX0_throwAnew ∈ lw_tbl := wt_2 _ (List.mem_of_getElem? (i := 151) rfl)
theorem wl_17_1 : Cond.instanceMethod yX0_throwAnew ∈ lw_tbl := wt_2 _ (List.mem_of_getElem? (i := 152) rfl)
theorem wl_17_2 : Cond.selects RX0 yX0_throwAnew yX0_throwAnew ∈ lw_tbl := wt_2 _ (List.mem_of_getElem? (i := 153) rfl)
theorem wl_17_3 : Cond.code yX0_throwAnew cX0_throwAnew 3 none ∈ lw_tbl := wt_2 _ (List.mem_of_getElem? (i := 154) rfl)
theorem wl_17_4 : Cond.fieldLink RX0 43 "RoundThrow$Ball" "stepX" "J" ∈ lw_tbl := wt_1 _ (List.mem_of_getElem? (i := 146) rfl)
theorem wl_17_5 : Cond.fieldLink RX0 46 "RoundThrow$Ball" "stepY" "J" ∈ lw_tbl := wt_1 _ (List.mem_of_getElem? (i := 147) rfl)
theorem wl_17_6 : Cond.methodLink RX10 156 yX0_xBehind ∈ lw_tbl := wt_2 _ (List.mem_of_getElem? (i := 155) rfl)
theorem wl_17_7 : Cond.instanceMethod yX0_xBehind ∈ lw_tbl := wt_2 _ (List.mem_of_getElem? (i := 156) rfl)
theorem wl_17_8 : Cond.selects RX0 yX0_xBehind yX0_xBehind ∈ lw_tbl := wt_2 _ (List.mem_of_getElem? (i := 157) rfl)
theorem wl_17_9 : Cond.code yX0_xBehind cX0_xBehind 2 (some .long) ∈ lw_tbl := wt_2 _ (List.mem_of_getElem? (i := 158) rfl)
theorem wl_17_10 : Cond.methodLink RX10 160 yX0_yBehind ∈ lw_tbl := wt_2 _ (List.mem_of_getElem? (i := 159) rfl)
theorem wl_17_11 : Cond.instanceMethod yX0_yBehind ∈ lw_tbl := wt_2 _ (List.mem_of_getElem? (i := 160) rfl)
theorem wl_17_12 : Cond.selects RX0 yX0_yBehind yX0_yBehind ∈ lw_tbl := wt_2 _ (List.mem_of_getElem? (i := 161) rfl)
theorem wl_17_13 : Cond.code yX0_yBehind cX0_yBehind 2 (some .long) ∈ lw_tbl := wt_2 _ (List.mem_of_getElem? (i := 162) rfl)
theorem wl_17_14 : Cond.methodLink RX10 163 yX5_wayBack ∈ lw_tbl := wt_2 _ (List.mem_of_getElem? (i := 163) rfl)
theorem wl_17_15 : Cond.instanceMethod yX5_wayBack ∈ lw_tbl := wt_2 _ (List.mem_of_getElem? (i := 164) rfl)
theorem wl_17_16 : Cond.selects RX5 yX5_wayBack yX5_wayBack ∈ lw_tbl := wt_2 _ (List.mem_of_getElem? (i := 165) rfl)
theorem wl_17_17 : Cond.code yX5_wayBack cX5_wayBack 2 (some .int) ∈ lw_tbl := wt_2 _ (List.mem_of_getElem? (i := 166) rfl)
theorem wl_17_18 : Cond.methodLink RX5 52 yX5_wayBehind ∈ lw_tbl := wt_2 _ (List.mem_of_getElem? (i := 167) rfl)
theorem wl_17_19 : Cond.methodLink RL 53 yX11_ball ∈ lw_tbl := wt_4 _ (List.mem_of_getElem? (i := 166) rfl)
theorem wl_17_20 : Cond.instanceMethod yX11_ball ∈ lw_tbl := wt_4 _ (List.mem_of_getElem? (i := 167) rfl)
theorem wl_17_21 : Cond.selects RX11 yX11_ball yX11_ball ∈ lw_tbl := wt_4 _ (List.mem_of_getElem? (i := 168) rfl)
theorem wl_17_22 : Cond.code yX11_ball cX11_ball 6 (some .int) ∈ lw_tbl := wt_4 _ (List.mem_of_getElem? (i := 169) rfl)
theorem wl_17_23 : Cond.methodLink RX11 173 yX11_isThrow ∈ lw_tbl := wt_4 _ (List.mem_of_getElem? (i := 170) rfl)
theorem wr_17 : ∀ w ∈ wsL_law_r17, w ∈ lw_tbl ∧ goodWord w = true := List.forall_mem_cons.mpr ⟨⟨wl_17_0, rfl⟩, List.forall_mem_cons.mpr ⟨⟨wl_17_1, rfl⟩, List.forall_mem_cons.mpr ⟨⟨wl_17_2, rfl⟩, List.forall_mem_cons.mpr ⟨⟨wl_17_3, rfl⟩, List.forall_mem_cons.mpr ⟨⟨wl_17_4, rfl⟩, List.forall_mem_cons.mpr ⟨⟨wl_17_5, rfl⟩, List.forall_mem_cons.mpr ⟨⟨wl_17_6, rfl⟩, List.forall_mem_cons.mpr ⟨⟨wl_17_7, rfl⟩, List.forall_mem_cons.mpr ⟨⟨wl_17_8, rfl⟩, List.forall_mem_cons.mpr ⟨⟨wl_17_9, rfl⟩, List.forall_mem_cons.mpr ⟨⟨wl_17_10, rfl⟩, List.forall_mem_cons.mpr ⟨⟨wl_17_11, rfl⟩, List.forall_mem_cons.mpr ⟨⟨wl_17_12, rfl⟩, List.forall_mem_cons.mpr ⟨⟨wl_17_13, rfl⟩, List.forall_mem_cons.mpr ⟨⟨wl_17_14, rfl⟩, List.forall_mem_cons.mpr ⟨⟨wl_17_15, rfl⟩, List.forall_mem_cons.mpr ⟨⟨wl_17_16, rfl⟩, List.forall_mem_cons.mpr ⟨⟨wl_17_17, rfl⟩, List.forall_mem_cons.mpr ⟨⟨wl_17_18, rfl⟩, List.forall_mem_cons.mpr ⟨⟨wl_17_19, rfl⟩, List.forall_mem_cons.mpr ⟨⟨wl_17_20, rfl⟩, List.forall_mem_cons.mpr ⟨⟨wl_17_21, rfl⟩, List.forall_mem_cons.mpr ⟨⟨wl_17_22, rfl⟩, List.forall_mem_cons.mpr ⟨⟨wl_17_23, rfl⟩, fun _ h => absurd h List.not_mem_nil⟩⟩⟩⟩⟩⟩⟩⟩⟩⟩⟩⟩⟩⟩⟩⟩⟩⟩⟩⟩⟩⟩⟩⟩
theorem wl_18_0 : Cond.static yX11_isThrow ∈ lw_tbl := wt_4 _ (List.mem_of_getElem? (i := 171) rfl)
theorem wl_18_1 : Cond.code yX11_isThrow cX11_isThrow 2 (some .boolean) ∈ lw_tbl := wt_4 _ (List.mem_of_getElem? (i := 172) rfl)
theorem wl_18_2 : Cond.constantLong RX11 171 (200) ∈ lw_tbl := wt_4 _ (List.mem_of_getElem? (i := 173) rfl)
theorem wl_18_3 : Cond.methodLink RX11 177 yX11_layThrow ∈ lw_tbl := wt_4 _ (List.mem_of_getElem? (i := 174) rfl)
theorem wl_18_4 : Cond.instanceMethod yX11_layThrow ∈ lw_tbl := wt_4 _ (List.mem_of_getElem? (i := 176) rfl)
theorem wl_18_5 : Cond.selects RX11 yX11_layThrow yX11_layThrow ∈ lw_tbl := ws_2 _ (List.mem_of_getElem? (i := 1) rfl)
theorem wl_18_6 : Cond.code yX11_layThrow cX11_layThrow 4 none ∈ lw_tbl := wt_4 _ (List.mem_of_getElem? (i := 177) rfl)
theorem wl_18_7 : Cond.fieldLink RX11 153 "RoundThrowModel" "fromX" "I" ∈ lw_tbl := wt_3 _ (List.mem_of_getElem? (i := 226) rfl)
theorem wl_18_8 : Cond.fieldLink RX11 156 "RoundThrowModel" "fromY" "I" ∈ lw_tbl := wt_3 _ (List.mem_of_getElem? (i := 227) rfl)
theorem wl_18_9 : Cond.fieldLink RX11 159 "RoundThrowModel" "goX" "I" ∈ lw_tbl := wt_3 _ (List.mem_of_getElem? (i := 228) rfl)
theorem wl_18_10 : Cond.fieldLink RX11 162 "RoundThrowModel" "goY" "I" ∈ lw_tbl := wt_3 _ (List.mem_of_getElem? (i := 229) rfl)
theorem wl_18_11 : Cond.methodLink RX11 165 yX11_ballX ∈ lw_tbl := wt_4 _ (List.mem_of_getElem? (i := 178) rfl)
theorem wl_18_12 : Cond.instanceMethod yX11_ballX ∈ lw_tbl := wt_4 _ (List.mem_of_getElem? (i := 180) rfl)
theorem wl_18_13 : Cond.selects RX11 yX11_ballX yX11_ballX ∈ lw_tbl := ws_2 _ (List.mem_of_getElem? (i := 2) rfl)
theorem wl_18_14 : Cond.code yX11_ballX cX11_ballX 2 (some .int) ∈ lw_tbl := wt_4 _ (List.mem_of_getElem? (i := 181) rfl)
theorem wl_18_15 : Cond.methodLink RX11 168 yX11_ballY ∈ lw_tbl := wt_4 _ (List.mem_of_getElem? (i := 182) rfl)
theorem wl_18_16 : Cond.instanceMethod yX11_ballY ∈ lw_tbl := wt_4 _ (List.mem_of_getElem? (i := 184) rfl)
theorem wl_18_17 : Cond.selects RX11 yX11_ballY yX11_ballY ∈ lw_tbl := ws_2 _ (List.mem_of_getElem? (i := 3) rfl)
theorem wl_18_18 : Cond.code yX11_ballY cX11_ballY 2 (some .int) ∈ lw_tbl := wt_4 _ (List.mem_of_getElem? (i := 185) rfl)
theorem wl_18_19 : Cond.methodLink RX11 180 yX11_seeBall ∈ lw_tbl := wt_4 _ (List.mem_of_getElem? (i := 186) rfl)
theorem wl_18_20 : Cond.instanceMethod yX11_seeBall ∈ lw_tbl := wt_4 _ (List.mem_of_getElem? (i := 188) rfl)
theorem wl_18_21 : Cond.selects RX11 yX11_seeBall yX11_seeBall ∈ lw_tbl := ws_2 _ (List.mem_of_getElem? (i := 4) rfl)
theorem wl_18_22 : Cond.code yX11_seeBall cX11_seeBall 2 none ∈ lw_tbl := wt_4 _ (List.mem_of_getElem? (i := 189) rfl)
theorem wl_18_23 : Cond.methodLink RL 54 yX10_caught ∈ lw_tbl := wt_2 _ (List.mem_of_getElem? (i := 168) rfl)
theorem wr_18 : ∀ w ∈ wsL_law_r18, w ∈ lw_tbl ∧ goodWord w = true := List.forall_mem_cons.mpr ⟨⟨wl_18_0, rfl⟩, List.forall_mem_cons.mpr ⟨⟨wl_18_1, rfl⟩, List.forall_mem_cons.mpr ⟨⟨wl_18_2, rfl⟩, List.forall_mem_cons.mpr ⟨⟨wl_18_3, rfl⟩, List.forall_mem_cons.mpr ⟨⟨wl_18_4, rfl⟩, List.forall_mem_cons.mpr ⟨⟨wl_18_5, rfl⟩, List.forall_mem_cons.mpr ⟨⟨wl_18_6, rfl⟩, List.forall_mem_cons.mpr ⟨⟨wl_18_7, rfl⟩, List.forall_mem_cons.mpr ⟨⟨wl_18_8, rfl⟩, List.forall_mem_cons.mpr ⟨⟨wl_18_9, rfl⟩, List.forall_mem_cons.mpr ⟨⟨wl_18_10, rfl⟩, List.forall_mem_cons.mpr ⟨⟨wl_18_11, rfl⟩, List.forall_mem_cons.mpr ⟨⟨wl_18_12, rfl⟩, List.forall_mem_cons.mpr ⟨⟨wl_18_13, rfl⟩, List.forall_mem_cons.mpr ⟨⟨wl_18_14, rfl⟩, List.forall_mem_cons.mpr ⟨⟨wl_18_15, rfl⟩, List.forall_mem_cons.mpr ⟨⟨wl_18_16, rfl⟩, List.forall_mem_cons.mpr ⟨⟨wl_18_17, rfl⟩, List.forall_mem_cons.mpr ⟨⟨wl_18_18, rfl⟩, List.forall_mem_cons.mpr ⟨⟨wl_18_19, rfl⟩, List.forall_mem_cons.mpr ⟨⟨wl_18_20, rfl⟩, List.forall_mem_cons.mpr ⟨⟨wl_18_21, rfl⟩, List.forall_mem_cons.mpr ⟨⟨wl_18_22, rfl⟩, List.forall_mem_cons.mpr ⟨⟨wl_18_23, rfl⟩, fun _ h => absurd h List.not_mem_nil⟩⟩⟩⟩⟩⟩⟩⟩⟩⟩⟩⟩⟩⟩⟩⟩⟩⟩⟩⟩⟩⟩⟩⟩
theorem wl_19_0 : Cond.instanceMethod yX10_caught ∈ lw_tbl := wt_2 _ (List.mem_of_getElem? (i := 169) rfl)
theorem wl_19_1 : Cond.selects RX10 yX10_caught yX10_caught ∈ lw_tbl := wt_2 _ (List.mem_of_getElem? (i := 170) rfl)
theorem wl_19_2 : Cond.code yX10_caught cX10_caught 5 (some .int) ∈ lw_tbl := wt_2 _ (List.mem_of_getElem? (i := 171) rfl)
theorem wl_19_3 : Cond.methodLink RX10 166 yX8_followSeat ∈ lw_tbl := wt_2 _ (List.mem_of_getElem? (i := 172) rfl)
theorem wl_19_4 : Cond.instanceMethod yX8_followSeat ∈ lw_tbl := wt_2 _ (List.mem_of_getElem? (i := 173) rfl)
theorem wl_19_5 : Cond.selects RX8 yX8_followSeat yX8_followSeat ∈ lw_tbl := wt_2 _ (List.mem_of_getElem? (i := 174) rfl)
theorem wl_19_6 : Cond.code yX8_followSeat cX8_followSeat 6 none ∈ lw_tbl := wt_2 _ (List.mem_of_getElem? (i := 175) rfl)
theorem wl_19_7 : Cond.methodLink RX8 18 yX5_wayBehind ∈ lw_tbl := wt_2 _ (List.mem_of_getElem? (i := 176) rfl)
theorem wl_19_8 : Cond.methodLink RX8 24 yX9_turnX ∈ lw_tbl := wt_2 _ (List.mem_of_getElem? (i := 177) rfl)
theorem wl_19_9 : Cond.methodLink RX8 30 yX9_turnY ∈ lw_tbl := wt_2 _ (List.mem_of_getElem? (i := 178) rfl)
theorem wl_19_10 : Cond.methodLink RX10 170 yX7_reach ∈ lw_tbl := wt_2 _ (List.mem_of_getElem? (i := 179) rfl)
theorem wl_19_11 : Cond.instanceMethod yX7_reach ∈ lw_tbl := wt_2 _ (List.mem_of_getElem? (i := 180) rfl)
theorem wl_19_12 : Cond.selects RX7 yX7_reach yX7_reach ∈ lw_tbl := wt_2 _ (List.mem_of_getElem? (i := 181) rfl)
theorem wl_19_13 : Cond.code yX7_reach cX7_reach 1 (some .int) ∈ lw_tbl := wt_2 _ (List.mem_of_getElem? (i := 182) rfl)
theorem wl_19_14 : Cond.methodLink RX10 173 yX0_tickCaught ∈ lw_tbl := wt_2 _ (List.mem_of_getElem? (i := 183) rfl)
theorem wl_19_15 : Cond.instanceMethod yX0_tickCaught ∈ lw_tbl := wt_2 _ (List.mem_of_getElem? (i := 184) rfl)
theorem wl_19_16 : Cond.selects RX0 yX0_tickCaught yX0_tickCaught ∈ lw_tbl := wt_2 _ (List.mem_of_getElem? (i := 185) rfl)
theorem wl_19_17 : Cond.code yX0_tickCaught cX0_tickCaught 4 (some .int) ∈ lw_tbl := wt_2 _ (List.mem_of_getElem? (i := 186) rfl)
theorem wl_19_18 : Cond.methodLink RX0 75 yX0_gap ∈ lw_tbl := wt_2 _ (List.mem_of_getElem? (i := 187) rfl)
theorem wl_19_19 : Cond.instanceMethod yX0_gap ∈ lw_tbl := wt_2 _ (List.mem_of_getElem? (i := 189) rfl)
theorem wl_19_20 : Cond.selects RX0 yX0_gap yX0_gap ∈ lw_tbl := ws_1 _ (List.mem_of_getElem? (i := 0) rfl)
theorem wl_19_21 : Cond.code yX0_gap cX0_gap 3 (some .long) ∈ lw_tbl := wt_2 _ (List.mem_of_getElem? (i := 190) rfl)
theorem wl_19_22 : Cond.fieldLink RX0 53 "RoundThrow$Track" "xs" "[J" ∈ lw_tbl := wt_1 _ (List.mem_of_getElem? (i := 170) rfl)
theorem wl_19_23 : Cond.methodLink RX0 59 Lib.MathLoose.abs_long.x ∈ lw_tbl := wt_2 _ (List.mem_of_getElem? (i := 192) rfl)
theorem wr_19 : ∀ w ∈ wsL_law_r19, w ∈ lw_tbl ∧ goodWord w = true := List.forall_mem_cons.mpr ⟨⟨wl_19_0, rfl⟩, List.forall_mem_cons.mpr ⟨⟨wl_19_1, rfl⟩, List.forall_mem_cons.mpr ⟨⟨wl_19_2, rfl⟩, List.forall_mem_cons.mpr ⟨⟨wl_19_3, rfl⟩, List.forall_mem_cons.mpr ⟨⟨wl_19_4, rfl⟩, List.forall_mem_cons.mpr ⟨⟨wl_19_5, rfl⟩, List.forall_mem_cons.mpr ⟨⟨wl_19_6, rfl⟩, List.forall_mem_cons.mpr ⟨⟨wl_19_7, rfl⟩, List.forall_mem_cons.mpr ⟨⟨wl_19_8, rfl⟩, List.forall_mem_cons.mpr ⟨⟨wl_19_9, rfl⟩, List.forall_mem_cons.mpr ⟨⟨wl_19_10, rfl⟩, List.forall_mem_cons.mpr ⟨⟨wl_19_11, rfl⟩, List.forall_mem_cons.mpr ⟨⟨wl_19_12, rfl⟩, List.forall_mem_cons.mpr ⟨⟨wl_19_13, rfl⟩, List.forall_mem_cons.mpr ⟨⟨wl_19_14, rfl⟩, List.forall_mem_cons.mpr ⟨⟨wl_19_15, rfl⟩, List.forall_mem_cons.mpr ⟨⟨wl_19_16, rfl⟩, List.forall_mem_cons.mpr ⟨⟨wl_19_17, rfl⟩, List.forall_mem_cons.mpr ⟨⟨wl_19_18, rfl⟩, List.forall_mem_cons.mpr ⟨⟨wl_19_19, rfl⟩, List.forall_mem_cons.mpr ⟨⟨wl_19_20, rfl⟩, List.forall_mem_cons.mpr ⟨⟨wl_19_21, rfl⟩, List.forall_mem_cons.mpr ⟨⟨wl_19_22, rfl⟩, List.forall_mem_cons.mpr ⟨⟨wl_19_23, rfl⟩, fun _ h => absurd h List.not_mem_nil⟩⟩⟩⟩⟩⟩⟩⟩⟩⟩⟩⟩⟩⟩⟩⟩⟩⟩⟩⟩⟩⟩⟩⟩
theorem wl_20_0 : Cond.static Lib.MathLoose.abs_long.x ∈ lw_tbl := wt_2 _ (List.mem_of_getElem? (i := 193) rfl)
theorem wl_20_1 : Cond.code Lib.MathLoose.abs_long.x Lib.MathLoose.abs_long.code 2 (some .long) ∈ lw_tbl := wt_2 _ (List.mem_of_getElem? (i := 194) rfl)
theorem wl_20_2 : Cond.fieldLink RX0 68 "RoundThrow$Track" "ys" "[J" ∈ lw_tbl := wt_1 _ (List.mem_of_getElem? (i := 172) rfl)
theorem wl_20_3 : Cond.methodLink RX0 71 Lib.MathLoose.max_long.x ∈ lw_tbl := wt_2 _ (List.mem_of_getElem? (i := 196) rfl)
theorem wl_20_4 : Cond.static Lib.MathLoose.max_long.x ∈ lw_tbl := wt_2 _ (List.mem_of_getElem? (i := 197) rfl)
theorem wl_20_5 : Cond.code Lib.MathLoose.max_long.x Lib.MathLoose.max_long.code 4 (some .long) ∈ lw_tbl := wt_2 _ (List.mem_of_getElem? (i := 198) rfl)
theorem wl_20_6 : Cond.methodLink RX0 49 yX0_xBehind ∈ lw_tbl := wt_2 _ (List.mem_of_getElem? (i := 191) rfl)
theorem wl_20_7 : Cond.methodLink RX0 65 yX0_yBehind ∈ lw_tbl := wt_2 _ (List.mem_of_getElem? (i := 195) rfl)
theorem wl_20_8 : Cond.methodLink RL 58 yX11_caught ∈ lw_tbl := wt_4 _ (List.mem_of_getElem? (i := 190) rfl)
theorem wl_20_9 : Cond.instanceMethod yX11_caught ∈ lw_tbl := wt_4 _ (List.mem_of_getElem? (i := 191) rfl)
theorem wl_20_10 : Cond.selects RX11 yX11_caught yX11_caught ∈ lw_tbl := wt_4 _ (List.mem_of_getElem? (i := 192) rfl)
theorem wl_20_11 : Cond.code yX11_caught cX11_caught 5 (some .int) ∈ lw_tbl := wt_4 _ (List.mem_of_getElem? (i := 193) rfl)
theorem wl_20_12 : Cond.methodLink RX11 191 yX11_caughtOf ∈ lw_tbl := wt_4 _ (List.mem_of_getElem? (i := 194) rfl)
theorem wl_20_13 : Cond.instanceMethod yX11_caughtOf ∈ lw_tbl := wt_4 _ (List.mem_of_getElem? (i := 196) rfl)
theorem wl_20_14 : Cond.selects RX11 yX11_caughtOf yX11_caughtOf ∈ lw_tbl := ws_2 _ (List.mem_of_getElem? (i := 5) rfl)
theorem wl_20_15 : Cond.code yX11_caughtOf cX11_caughtOf 6 (some .int) ∈ lw_tbl := wt_4 _ (List.mem_of_getElem? (i := 197) rfl)
theorem wl_20_16 : Cond.methodLink RX11 187 yX11_farFrom ∈ lw_tbl := wt_4 _ (List.mem_of_getElem? (i := 198) rfl)
theorem wl_20_17 : Cond.instanceMethod yX11_farFrom ∈ lw_tbl := wt_4 _ (List.mem_of_getElem? (i := 200) rfl)
theorem wl_20_18 : Cond.selects RX11 yX11_farFrom yX11_farFrom ∈ lw_tbl := ws_2 _ (List.mem_of_getElem? (i := 6) rfl)
theorem wl_20_19 : Cond.code yX11_farFrom cX11_farFrom 5 (some .int) ∈ lw_tbl := wt_4 _ (List.mem_of_getElem? (i := 201) rfl)
theorem wl_20_20 : Cond.methodLink RX11 184 yX11_size ∈ lw_tbl := wt_4 _ (List.mem_of_getElem? (i := 202) rfl)
theorem wl_20_21 : Cond.static yX11_size ∈ lw_tbl := wt_4 _ (List.mem_of_getElem? (i := 203) rfl)
theorem wl_20_22 : Cond.code yX11_size cX11_size 1 (some .int) ∈ lw_tbl := wt_4 _ (List.mem_of_getElem? (i := 204) rfl)
theorem wl_20_23 : Cond.methodLink RL 59 yX10_all ∈ lw_tbl := wt_2 _ (List.mem_of_getElem? (i := 199) rfl)
theorem wr_20 : ∀ w ∈ wsL_law_r20, w ∈ lw_tbl ∧ goodWord w = true := List.forall_mem_cons.mpr ⟨⟨wl_20_0, rfl⟩, List.forall_mem_cons.mpr ⟨⟨wl_20_1, rfl⟩, List.forall_mem_cons.mpr ⟨⟨wl_20_2, rfl⟩, List.forall_mem_cons.mpr ⟨⟨wl_20_3, rfl⟩, List.forall_mem_cons.mpr ⟨⟨wl_20_4, rfl⟩, List.forall_mem_cons.mpr ⟨⟨wl_20_5, rfl⟩, List.forall_mem_cons.mpr ⟨⟨wl_20_6, rfl⟩, List.forall_mem_cons.mpr ⟨⟨wl_20_7, rfl⟩, List.forall_mem_cons.mpr ⟨⟨wl_20_8, rfl⟩, List.forall_mem_cons.mpr ⟨⟨wl_20_9, rfl⟩, List.forall_mem_cons.mpr ⟨⟨wl_20_10, rfl⟩, List.forall_mem_cons.mpr ⟨⟨wl_20_11, rfl⟩, List.forall_mem_cons.mpr ⟨⟨wl_20_12, rfl⟩, List.forall_mem_cons.mpr ⟨⟨wl_20_13, rfl⟩, List.forall_mem_cons.mpr ⟨⟨wl_20_14, rfl⟩, List.forall_mem_cons.mpr ⟨⟨wl_20_15, rfl⟩, List.forall_mem_cons.mpr ⟨⟨wl_20_16, rfl⟩, List.forall_mem_cons.mpr ⟨⟨wl_20_17, rfl⟩, List.forall_mem_cons.mpr ⟨⟨wl_20_18, rfl⟩, List.forall_mem_cons.mpr ⟨⟨wl_20_19, rfl⟩, List.forall_mem_cons.mpr ⟨⟨wl_20_20, rfl⟩, List.forall_mem_cons.mpr ⟨⟨wl_20_21, rfl⟩, List.forall_mem_cons.mpr ⟨⟨wl_20_22, rfl⟩, List.forall_mem_cons.mpr ⟨⟨wl_20_23, rfl⟩, fun _ h => absurd h List.not_mem_nil⟩⟩⟩⟩⟩⟩⟩⟩⟩⟩⟩⟩⟩⟩⟩⟩⟩⟩⟩⟩⟩⟩⟩⟩
theorem wl_21_0 : Cond.instanceMethod yX10_all ∈ lw_tbl := wt_2 _ (List.mem_of_getElem? (i := 200) rfl)
theorem wl_21_1 : Cond.selects RX10 yX10_all yX10_all ∈ lw_tbl := wt_2 _ (List.mem_of_getElem? (i := 201) rfl)
theorem wl_21_2 : Cond.code yX10_all cX10_all 4 (some .int) ∈ lw_tbl := wt_2 _ (List.mem_of_getElem? (i := 202) rfl)
theorem wl_21_3 : Cond.fieldLink RX10 187 "RoundThrow$CatchTable" "safeSpeed" "I" ∈ lw_tbl := wt_1 _ (List.mem_of_getElem? (i := 187) rfl)
theorem wl_21_4 : Cond.fieldLink RX10 190 "RoundThrow$CatchTable" "safeWay" "I" ∈ lw_tbl := wt_1 _ (List.mem_of_getElem? (i := 189) rfl)
theorem wl_21_5 : Cond.fieldLink RX10 193 "RoundThrow$CatchTable" "safeNeighbours" "I" ∈ lw_tbl := wt_1 _ (List.mem_of_getElem? (i := 191) rfl)
theorem wl_21_6 : Cond.methodLink RX10 177 yX1_fill ∈ lw_tbl := wt_2 _ (List.mem_of_getElem? (i := 203) rfl)
theorem wl_21_7 : Cond.instanceMethod yX1_fill ∈ lw_tbl := wt_2 _ (List.mem_of_getElem? (i := 204) rfl)
theorem wl_21_8 : Cond.selects RX1 yX1_fill yX1_fill ∈ lw_tbl := wt_2 _ (List.mem_of_getElem? (i := 205) rfl)
theorem wl_21_9 : Cond.code yX1_fill cX1_fill 7 none ∈ lw_tbl := wt_2 _ (List.mem_of_getElem? (i := 206) rfl)
theorem wl_21_10 : Cond.methodLink RX1 15 yX0_throwAnew ∈ lw_tbl := wt_2 _ (List.mem_of_getElem? (i := 207) rfl)
theorem wl_21_11 : Cond.methodLink RX1 21 yX0_tickCaught ∈ lw_tbl := wt_2 _ (List.mem_of_getElem? (i := 208) rfl)
theorem wl_21_12 : Cond.methodLink RX10 181 yX1_howMany ∈ lw_tbl := wt_2 _ (List.mem_of_getElem? (i := 209) rfl)
theorem wl_21_13 : Cond.instanceMethod yX1_howMany ∈ lw_tbl := wt_2 _ (List.mem_of_getElem? (i := 210) rfl)
theorem wl_21_14 : Cond.selects RX1 yX1_howMany yX1_howMany ∈ lw_tbl := wt_2 _ (List.mem_of_getElem? (i := 211) rfl)
theorem wl_21_15 : Cond.code yX1_howMany cX1_howMany 3 (some .int) ∈ lw_tbl := wt_2 _ (List.mem_of_getElem? (i := 212) rfl)
theorem wl_21_16 : Cond.methodLink RX1 25 yJ6_bitCount_0f7a4 ∈ lw_tbl := wt_2 _ (List.mem_of_getElem? (i := 213) rfl)
theorem wl_21_17 : Cond.static yJ6_bitCount_0f7a4 ∈ lw_tbl := wt_2 _ (List.mem_of_getElem? (i := 214) rfl)
theorem wl_21_18 : Cond.initialized RJ6 ∈ lw_tbl := wt_1 _ (List.mem_of_getElem? (i := 14) rfl)
theorem wl_21_19 : Cond.code yJ6_bitCount_0f7a4 cJ6_bitCount_0f7a4 1 (some .int) ∈ lw_tbl := wt_2 _ (List.mem_of_getElem? (i := 215) rfl)
theorem wl_21_20 : Cond.constant RJ6 265 (1431655765) ∈ lw_tbl := wt_2 _ (List.mem_of_getElem? (i := 216) rfl)
theorem wl_21_21 : Cond.constant RJ6 266 (858993459) ∈ lw_tbl := wt_2 _ (List.mem_of_getElem? (i := 217) rfl)
theorem wl_21_22 : Cond.constant RJ6 267 (252645135) ∈ lw_tbl := wt_2 _ (List.mem_of_getElem? (i := 218) rfl)
theorem wl_21_23 : Cond.methodLink RX10 184 yX1_findSafe ∈ lw_tbl := wt_2 _ (List.mem_of_getElem? (i := 219) rfl)
theorem wr_21 : ∀ w ∈ wsL_law_r21, w ∈ lw_tbl ∧ goodWord w = true := List.forall_mem_cons.mpr ⟨⟨wl_21_0, rfl⟩, List.forall_mem_cons.mpr ⟨⟨wl_21_1, rfl⟩, List.forall_mem_cons.mpr ⟨⟨wl_21_2, rfl⟩, List.forall_mem_cons.mpr ⟨⟨wl_21_3, rfl⟩, List.forall_mem_cons.mpr ⟨⟨wl_21_4, rfl⟩, List.forall_mem_cons.mpr ⟨⟨wl_21_5, rfl⟩, List.forall_mem_cons.mpr ⟨⟨wl_21_6, rfl⟩, List.forall_mem_cons.mpr ⟨⟨wl_21_7, rfl⟩, List.forall_mem_cons.mpr ⟨⟨wl_21_8, rfl⟩, List.forall_mem_cons.mpr ⟨⟨wl_21_9, rfl⟩, List.forall_mem_cons.mpr ⟨⟨wl_21_10, rfl⟩, List.forall_mem_cons.mpr ⟨⟨wl_21_11, rfl⟩, List.forall_mem_cons.mpr ⟨⟨wl_21_12, rfl⟩, List.forall_mem_cons.mpr ⟨⟨wl_21_13, rfl⟩, List.forall_mem_cons.mpr ⟨⟨wl_21_14, rfl⟩, List.forall_mem_cons.mpr ⟨⟨wl_21_15, rfl⟩, List.forall_mem_cons.mpr ⟨⟨wl_21_16, rfl⟩, List.forall_mem_cons.mpr ⟨⟨wl_21_17, rfl⟩, List.forall_mem_cons.mpr ⟨⟨wl_21_18, rfl⟩, List.forall_mem_cons.mpr ⟨⟨wl_21_19, rfl⟩, List.forall_mem_cons.mpr ⟨⟨wl_21_20, rfl⟩, List.forall_mem_cons.mpr ⟨⟨wl_21_21, rfl⟩, List.forall_mem_cons.mpr ⟨⟨wl_21_22, rfl⟩, List.forall_mem_cons.mpr ⟨⟨wl_21_23, rfl⟩, fun _ h => absurd h List.not_mem_nil⟩⟩⟩⟩⟩⟩⟩⟩⟩⟩⟩⟩⟩⟩⟩⟩⟩⟩⟩⟩⟩⟩⟩⟩
theorem wl_22_0 : Cond.instanceMethod yX1_findSafe ∈ lw_tbl := wt_2 _ (List.mem_of_getElem? (i := 220) rfl)
theorem wl_22_1 : Cond.selects RX1 yX1_findSafe yX1_findSafe ∈ lw_tbl := wt_2 _ (List.mem_of_getElem? (i := 221) rfl)
theorem wl_22_2 : Cond.code yX1_findSafe cX1_findSafe 3 none ∈ lw_tbl := wt_2 _ (List.mem_of_getElem? (i := 222) rfl)
theorem wl_22_3 : Cond.fieldLink RX1 31 "RoundThrow$CatchTable" "safeSpeed" "I" ∈ lw_tbl := wt_1 _ (List.mem_of_getElem? (i := 186) rfl)
theorem wl_22_4 : Cond.fieldLink RX1 35 "RoundThrow$CatchTable" "safeWay" "I" ∈ lw_tbl := wt_1 _ (List.mem_of_getElem? (i := 188) rfl)
theorem wl_22_5 : Cond.fieldLink RX1 38 "RoundThrow$CatchTable" "safeNeighbours" "I" ∈ lw_tbl := wt_1 _ (List.mem_of_getElem? (i := 190) rfl)
theorem wl_22_6 : Cond.methodLink RX1 41 yX1_bit ∈ lw_tbl := wt_2 _ (List.mem_of_getElem? (i := 223) rfl)
theorem wl_22_7 : Cond.instanceMethod yX1_bit ∈ lw_tbl := wt_2 _ (List.mem_of_getElem? (i := 225) rfl)
theorem wl_22_8 : Cond.selects RX1 yX1_bit yX1_bit ∈ lw_tbl := ws_1 _ (List.mem_of_getElem? (i := 1) rfl)
theorem wl_22_9 : Cond.code yX1_bit cX1_bit 3 (some .int) ∈ lw_tbl := wt_2 _ (List.mem_of_getElem? (i := 226) rfl)
theorem wl_22_10 : Cond.methodLink RX1 48 yJ9_floorMod_7cf53 ∈ lw_tbl := wt_2 _ (List.mem_of_getElem? (i := 227) rfl)
theorem wl_22_11 : Cond.methodLink RX1 45 yX1_neighbours ∈ lw_tbl := wt_2 _ (List.mem_of_getElem? (i := 228) rfl)
theorem wl_22_12 : Cond.instanceMethod yX1_neighbours ∈ lw_tbl := wt_2 _ (List.mem_of_getElem? (i := 230) rfl)
theorem wl_22_13 : Cond.selects RX1 yX1_neighbours yX1_neighbours ∈ lw_tbl := ws_1 _ (List.mem_of_getElem? (i := 2) rfl)
theorem wl_22_14 : Cond.code yX1_neighbours cX1_neighbours 5 (some .int) ∈ lw_tbl := wt_2 _ (List.mem_of_getElem? (i := 231) rfl)
theorem wl_22_15 : Cond.methodLink RL 62 yX11_all ∈ lw_tbl := wt_4 _ (List.mem_of_getElem? (i := 205) rfl)
theorem wl_22_16 : Cond.instanceMethod yX11_all ∈ lw_tbl := wt_4 _ (List.mem_of_getElem? (i := 206) rfl)
theorem wl_22_17 : Cond.selects RX11 yX11_all yX11_all ∈ lw_tbl := wt_4 _ (List.mem_of_getElem? (i := 207) rfl)
theorem wl_22_18 : Cond.code yX11_all cX11_all 9 (some .int) ∈ lw_tbl := wt_4 _ (List.mem_of_getElem? (i := 208) rfl)
theorem wl_22_19 : Cond.methodLink RX11 195 yX11_neighbours ∈ lw_tbl := wt_4 _ (List.mem_of_getElem? (i := 209) rfl)
theorem wl_22_20 : Cond.instanceMethod yX11_neighbours ∈ lw_tbl := wt_4 _ (List.mem_of_getElem? (i := 211) rfl)
theorem wl_22_21 : Cond.selects RX11 yX11_neighbours yX11_neighbours ∈ lw_tbl := ws_2 _ (List.mem_of_getElem? (i := 7) rfl)
theorem wl_22_22 : Cond.code yX11_neighbours cX11_neighbours 7 (some .int) ∈ lw_tbl := wt_4 _ (List.mem_of_getElem? (i := 212) rfl)
theorem wl_22_23 : Cond.methodLink RL 63 yX10_loops ∈ lw_tbl := wt_2 _ (List.mem_of_getElem? (i := 232) rfl)
theorem wr_22 : ∀ w ∈ wsL_law_r22, w ∈ lw_tbl ∧ goodWord w = true := List.forall_mem_cons.mpr ⟨⟨wl_22_0, rfl⟩, List.forall_mem_cons.mpr ⟨⟨wl_22_1, rfl⟩, List.forall_mem_cons.mpr ⟨⟨wl_22_2, rfl⟩, List.forall_mem_cons.mpr ⟨⟨wl_22_3, rfl⟩, List.forall_mem_cons.mpr ⟨⟨wl_22_4, rfl⟩, List.forall_mem_cons.mpr ⟨⟨wl_22_5, rfl⟩, List.forall_mem_cons.mpr ⟨⟨wl_22_6, rfl⟩, List.forall_mem_cons.mpr ⟨⟨wl_22_7, rfl⟩, List.forall_mem_cons.mpr ⟨⟨wl_22_8, rfl⟩, List.forall_mem_cons.mpr ⟨⟨wl_22_9, rfl⟩, List.forall_mem_cons.mpr ⟨⟨wl_22_10, rfl⟩, List.forall_mem_cons.mpr ⟨⟨wl_22_11, rfl⟩, List.forall_mem_cons.mpr ⟨⟨wl_22_12, rfl⟩, List.forall_mem_cons.mpr ⟨⟨wl_22_13, rfl⟩, List.forall_mem_cons.mpr ⟨⟨wl_22_14, rfl⟩, List.forall_mem_cons.mpr ⟨⟨wl_22_15, rfl⟩, List.forall_mem_cons.mpr ⟨⟨wl_22_16, rfl⟩, List.forall_mem_cons.mpr ⟨⟨wl_22_17, rfl⟩, List.forall_mem_cons.mpr ⟨⟨wl_22_18, rfl⟩, List.forall_mem_cons.mpr ⟨⟨wl_22_19, rfl⟩, List.forall_mem_cons.mpr ⟨⟨wl_22_20, rfl⟩, List.forall_mem_cons.mpr ⟨⟨wl_22_21, rfl⟩, List.forall_mem_cons.mpr ⟨⟨wl_22_22, rfl⟩, List.forall_mem_cons.mpr ⟨⟨wl_22_23, rfl⟩, fun _ h => absurd h List.not_mem_nil⟩⟩⟩⟩⟩⟩⟩⟩⟩⟩⟩⟩⟩⟩⟩⟩⟩⟩⟩⟩⟩⟩⟩⟩
theorem wl_23_0 : Cond.instanceMethod yX10_loops ∈ lw_tbl := wt_2 _ (List.mem_of_getElem? (i := 233) rfl)
theorem wl_23_1 : Cond.selects RX10 yX10_loops yX10_loops ∈ lw_tbl := wt_2 _ (List.mem_of_getElem? (i := 234) rfl)
theorem wl_23_2 : Cond.code yX10_loops cX10_loops 4 (some .int) ∈ lw_tbl := wt_2 _ (List.mem_of_getElem? (i := 235) rfl)
theorem wl_23_3 : Cond.methodLink RX10 196 yX8_followSeen ∈ lw_tbl := wt_2 _ (List.mem_of_getElem? (i := 236) rfl)
theorem wl_23_4 : Cond.instanceMethod yX8_followSeen ∈ lw_tbl := wt_2 _ (List.mem_of_getElem? (i := 237) rfl)
theorem wl_23_5 : Cond.selects RX8 yX8_followSeen yX8_followSeen ∈ lw_tbl := wt_2 _ (List.mem_of_getElem? (i := 238) rfl)
theorem wl_23_6 : Cond.code yX8_followSeen cX8_followSeen 5 none ∈ lw_tbl := wt_2 _ (List.mem_of_getElem? (i := 239) rfl)
theorem wl_23_7 : Cond.methodLink RX8 33 yX5_wayBack ∈ lw_tbl := wt_3 _ (List.mem_of_getElem? (i := 0) rfl)
theorem wl_23_8 : Cond.methodLink RX8 36 yX0_xBehind ∈ lw_tbl := wt_3 _ (List.mem_of_getElem? (i := 1) rfl)
theorem wl_23_9 : Cond.methodLink RX8 42 yX0_yBehind ∈ lw_tbl := wt_3 _ (List.mem_of_getElem? (i := 2) rfl)
theorem wl_23_10 : Cond.methodLink RX10 200 yX8_crossesItself ∈ lw_tbl := wt_3 _ (List.mem_of_getElem? (i := 3) rfl)
theorem wl_23_11 : Cond.instanceMethod yX8_crossesItself ∈ lw_tbl := wt_3 _ (List.mem_of_getElem? (i := 4) rfl)
theorem wl_23_12 : Cond.selects RX8 yX8_crossesItself yX8_crossesItself ∈ lw_tbl := wt_3 _ (List.mem_of_getElem? (i := 5) rfl)
theorem wl_23_13 : Cond.code yX8_crossesItself cX8_crossesItself 3 (some .boolean) ∈ lw_tbl := wt_3 _ (List.mem_of_getElem? (i := 6) rfl)
theorem wl_23_14 : Cond.methodLink RX8 45 yX8_linesMeet ∈ lw_tbl := wt_3 _ (List.mem_of_getElem? (i := 7) rfl)
theorem wl_23_15 : Cond.instanceMethod yX8_linesMeet ∈ lw_tbl := wt_3 _ (List.mem_of_getElem? (i := 9) rfl)
theorem wl_23_16 : Cond.selects RX8 yX8_linesMeet yX8_linesMeet ∈ lw_tbl := ws_1 _ (List.mem_of_getElem? (i := 3) rfl)
theorem wl_23_17 : Cond.code yX8_linesMeet cX8_linesMeet 3 (some .boolean) ∈ lw_tbl := wt_3 _ (List.mem_of_getElem? (i := 10) rfl)
theorem wl_23_18 : Cond.methodLink RX8 49 yX8_spansMeet ∈ lw_tbl := wt_3 _ (List.mem_of_getElem? (i := 11) rfl)
theorem wl_23_19 : Cond.static yX8_spansMeet ∈ lw_tbl := wt_3 _ (List.mem_of_getElem? (i := 12) rfl)
theorem wl_23_20 : Cond.code yX8_spansMeet cX8_spansMeet 3 (some .boolean) ∈ lw_tbl := wt_3 _ (List.mem_of_getElem? (i := 13) rfl)
theorem wl_23_21 : Cond.methodLink RX8 56 Lib.MathLoose.min_long.x ∈ lw_tbl := wt_3 _ (List.mem_of_getElem? (i := 14) rfl)
theorem wl_23_22 : Cond.static Lib.MathLoose.min_long.x ∈ lw_tbl := wt_3 _ (List.mem_of_getElem? (i := 15) rfl)
theorem wl_23_23 : Cond.code Lib.MathLoose.min_long.x Lib.MathLoose.min_long.code 4 (some .long) ∈ lw_tbl := wt_3 _ (List.mem_of_getElem? (i := 16) rfl)
theorem wr_23 : ∀ w ∈ wsL_law_r23, w ∈ lw_tbl ∧ goodWord w = true := List.forall_mem_cons.mpr ⟨⟨wl_23_0, rfl⟩, List.forall_mem_cons.mpr ⟨⟨wl_23_1, rfl⟩, List.forall_mem_cons.mpr ⟨⟨wl_23_2, rfl⟩, List.forall_mem_cons.mpr ⟨⟨wl_23_3, rfl⟩, List.forall_mem_cons.mpr ⟨⟨wl_23_4, rfl⟩, List.forall_mem_cons.mpr ⟨⟨wl_23_5, rfl⟩, List.forall_mem_cons.mpr ⟨⟨wl_23_6, rfl⟩, List.forall_mem_cons.mpr ⟨⟨wl_23_7, rfl⟩, List.forall_mem_cons.mpr ⟨⟨wl_23_8, rfl⟩, List.forall_mem_cons.mpr ⟨⟨wl_23_9, rfl⟩, List.forall_mem_cons.mpr ⟨⟨wl_23_10, rfl⟩, List.forall_mem_cons.mpr ⟨⟨wl_23_11, rfl⟩, List.forall_mem_cons.mpr ⟨⟨wl_23_12, rfl⟩, List.forall_mem_cons.mpr ⟨⟨wl_23_13, rfl⟩, List.forall_mem_cons.mpr ⟨⟨wl_23_14, rfl⟩, List.forall_mem_cons.mpr ⟨⟨wl_23_15, rfl⟩, List.forall_mem_cons.mpr ⟨⟨wl_23_16, rfl⟩, List.forall_mem_cons.mpr ⟨⟨wl_23_17, rfl⟩, List.forall_mem_cons.mpr ⟨⟨wl_23_18, rfl⟩, List.forall_mem_cons.mpr ⟨⟨wl_23_19, rfl⟩, List.forall_mem_cons.mpr ⟨⟨wl_23_20, rfl⟩, List.forall_mem_cons.mpr ⟨⟨wl_23_21, rfl⟩, List.forall_mem_cons.mpr ⟨⟨wl_23_22, rfl⟩, List.forall_mem_cons.mpr ⟨⟨wl_23_23, rfl⟩, fun _ h => absurd h List.not_mem_nil⟩⟩⟩⟩⟩⟩⟩⟩⟩⟩⟩⟩⟩⟩⟩⟩⟩⟩⟩⟩⟩⟩⟩⟩
theorem wl_24_0 : Cond.methodLink RX8 62 Lib.MathLoose.max_long.x ∈ lw_tbl := wt_3 _ (List.mem_of_getElem? (i := 17) rfl)
theorem wl_24_1 : Cond.methodLink RX8 53 yX8_isAcross ∈ lw_tbl := wt_3 _ (List.mem_of_getElem? (i := 18) rfl)
theorem wl_24_2 : Cond.instanceMethod yX8_isAcross ∈ lw_tbl := wt_3 _ (List.mem_of_getElem? (i := 20) rfl)
theorem wl_24_3 : Cond.selects RX8 yX8_isAcross yX8_isAcross ∈ lw_tbl := ws_1 _ (List.mem_of_getElem? (i := 4) rfl)
theorem wl_24_4 : Cond.code yX8_isAcross cX8_isAcross 3 (some .boolean) ∈ lw_tbl := wt_3 _ (List.mem_of_getElem? (i := 21) rfl)
theorem wl_24_5 : Cond.methodLink RX8 65 yX8_side ∈ lw_tbl := wt_3 _ (List.mem_of_getElem? (i := 22) rfl)
theorem wl_24_6 : Cond.instanceMethod yX8_side ∈ lw_tbl := wt_3 _ (List.mem_of_getElem? (i := 24) rfl)
theorem wl_24_7 : Cond.selects RX8 yX8_side yX8_side ∈ lw_tbl := ws_1 _ (List.mem_of_getElem? (i := 5) rfl)
theorem wl_24_8 : Cond.code yX8_side cX8_side 3 (some .long) ∈ lw_tbl := wt_3 _ (List.mem_of_getElem? (i := 25) rfl)
theorem wl_24_9 : Cond.methodLink RX8 69 yJ13_signum_95d88 ∈ lw_tbl := wt_3 _ (List.mem_of_getElem? (i := 26) rfl)
theorem wl_24_10 : Cond.static yJ13_signum_95d88 ∈ lw_tbl := wt_3 _ (List.mem_of_getElem? (i := 27) rfl)
theorem wl_24_11 : Cond.initialized RJ13 ∈ lw_tbl := wt_1 _ (List.mem_of_getElem? (i := 15) rfl)
theorem wl_24_12 : Cond.code yJ13_signum_95d88 cJ13_signum_95d88 2 (some .int) ∈ lw_tbl := wt_3 _ (List.mem_of_getElem? (i := 28) rfl)
theorem wl_24_13 : Cond.methodLink RL 66 yX11_loops ∈ lw_tbl := wt_4 _ (List.mem_of_getElem? (i := 213) rfl)
theorem wl_24_14 : Cond.instanceMethod yX11_loops ∈ lw_tbl := wt_4 _ (List.mem_of_getElem? (i := 214) rfl)
theorem wl_24_15 : Cond.selects RX11 yX11_loops yX11_loops ∈ lw_tbl := wt_4 _ (List.mem_of_getElem? (i := 215) rfl)
theorem wl_24_16 : Cond.code yX11_loops cX11_loops 7 (some .int) ∈ lw_tbl := wt_4 _ (List.mem_of_getElem? (i := 216) rfl)
theorem wl_24_17 : Cond.methodLink RX11 209 yX11_meet ∈ lw_tbl := wt_4 _ (List.mem_of_getElem? (i := 217) rfl)
theorem wl_24_18 : Cond.instanceMethod yX11_meet ∈ lw_tbl := wt_4 _ (List.mem_of_getElem? (i := 219) rfl)
theorem wl_24_19 : Cond.selects RX11 yX11_meet yX11_meet ∈ lw_tbl := ws_2 _ (List.mem_of_getElem? (i := 8) rfl)
theorem wl_24_20 : Cond.code yX11_meet cX11_meet 9 (some .boolean) ∈ lw_tbl := wt_4 _ (List.mem_of_getElem? (i := 220) rfl)
theorem wl_24_21 : Cond.methodLink RX11 202 yX11_side ∈ lw_tbl := wt_4 _ (List.mem_of_getElem? (i := 221) rfl)
theorem wl_24_22 : Cond.instanceMethod yX11_side ∈ lw_tbl := wt_4 _ (List.mem_of_getElem? (i := 223) rfl)
theorem wl_24_23 : Cond.selects RX11 yX11_side yX11_side ∈ lw_tbl := ws_2 _ (List.mem_of_getElem? (i := 9) rfl)
theorem wr_24 : ∀ w ∈ wsL_law_r24, w ∈ lw_tbl ∧ goodWord w = true := List.forall_mem_cons.mpr ⟨⟨wl_24_0, rfl⟩, List.forall_mem_cons.mpr ⟨⟨wl_24_1, rfl⟩, List.forall_mem_cons.mpr ⟨⟨wl_24_2, rfl⟩, List.forall_mem_cons.mpr ⟨⟨wl_24_3, rfl⟩, List.forall_mem_cons.mpr ⟨⟨wl_24_4, rfl⟩, List.forall_mem_cons.mpr ⟨⟨wl_24_5, rfl⟩, List.forall_mem_cons.mpr ⟨⟨wl_24_6, rfl⟩, List.forall_mem_cons.mpr ⟨⟨wl_24_7, rfl⟩, List.forall_mem_cons.mpr ⟨⟨wl_24_8, rfl⟩, List.forall_mem_cons.mpr ⟨⟨wl_24_9, rfl⟩, List.forall_mem_cons.mpr ⟨⟨wl_24_10, rfl⟩, List.forall_mem_cons.mpr ⟨⟨wl_24_11, rfl⟩, List.forall_mem_cons.mpr ⟨⟨wl_24_12, rfl⟩, List.forall_mem_cons.mpr ⟨⟨wl_24_13, rfl⟩, List.forall_mem_cons.mpr ⟨⟨wl_24_14, rfl⟩, List.forall_mem_cons.mpr ⟨⟨wl_24_15, rfl⟩, List.forall_mem_cons.mpr ⟨⟨wl_24_16, rfl⟩, List.forall_mem_cons.mpr ⟨⟨wl_24_17, rfl⟩, List.forall_mem_cons.mpr ⟨⟨wl_24_18, rfl⟩, List.forall_mem_cons.mpr ⟨⟨wl_24_19, rfl⟩, List.forall_mem_cons.mpr ⟨⟨wl_24_20, rfl⟩, List.forall_mem_cons.mpr ⟨⟨wl_24_21, rfl⟩, List.forall_mem_cons.mpr ⟨⟨wl_24_22, rfl⟩, List.forall_mem_cons.mpr ⟨⟨wl_24_23, rfl⟩, fun _ h => absurd h List.not_mem_nil⟩⟩⟩⟩⟩⟩⟩⟩⟩⟩⟩⟩⟩⟩⟩⟩⟩⟩⟩⟩⟩⟩⟩⟩
theorem wl_25_0 : Cond.code yX11_side cX11_side 6 (some .int) ∈ lw_tbl := wt_4 _ (List.mem_of_getElem? (i := 224) rfl)
theorem wl_25_1 : Cond.methodLink RX11 206 yX11_lies ∈ lw_tbl := wt_4 _ (List.mem_of_getElem? (i := 225) rfl)
theorem wl_25_2 : Cond.instanceMethod yX11_lies ∈ lw_tbl := wt_4 _ (List.mem_of_getElem? (i := 227) rfl)
theorem wl_25_3 : Cond.selects RX11 yX11_lies yX11_lies ∈ lw_tbl := ws_2 _ (List.mem_of_getElem? (i := 10) rfl)
theorem wl_25_4 : Cond.code yX11_lies cX11_lies 4 (some .boolean) ∈ lw_tbl := wt_4 _ (List.mem_of_getElem? (i := 228) rfl)
theorem wl_25_5 : Cond.methodLink RX11 198 yX11_isBetween ∈ lw_tbl := wt_4 _ (List.mem_of_getElem? (i := 229) rfl)
theorem wl_25_6 : Cond.static yX11_isBetween ∈ lw_tbl := wt_4 _ (List.mem_of_getElem? (i := 230) rfl)
theorem wl_25_7 : Cond.code yX11_isBetween cX11_isBetween 3 (some .boolean) ∈ lw_tbl := wt_4 _ (List.mem_of_getElem? (i := 231) rfl)
theorem wl_25_8 : Cond.methodLink RL 67 yX10_rolled ∈ lw_tbl := wt_3 _ (List.mem_of_getElem? (i := 29) rfl)
theorem wl_25_9 : Cond.instanceMethod yX10_rolled ∈ lw_tbl := wt_3 _ (List.mem_of_getElem? (i := 30) rfl)
theorem wl_25_10 : Cond.selects RX10 yX10_rolled yX10_rolled ∈ lw_tbl := wt_3 _ (List.mem_of_getElem? (i := 31) rfl)
theorem wl_25_11 : Cond.code yX10_rolled cX10_rolled 8 (some .int) ∈ lw_tbl := wt_3 _ (List.mem_of_getElem? (i := 32) rfl)
theorem wl_25_12 : Cond.fieldLink RX10 213 "RoundThrow$Ball" "x" "J" ∈ lw_tbl := wt_1 _ (List.mem_of_getElem? (i := 143) rfl)
theorem wl_25_13 : Cond.fieldLink RX10 217 "RoundThrow$Ball" "y" "J" ∈ lw_tbl := wt_1 _ (List.mem_of_getElem? (i := 145) rfl)
theorem wl_25_14 : Cond.methodLink RX10 204 yX10_isPlace ∈ lw_tbl := wt_3 _ (List.mem_of_getElem? (i := 33) rfl)
theorem wl_25_15 : Cond.static yX10_isPlace ∈ lw_tbl := wt_3 _ (List.mem_of_getElem? (i := 34) rfl)
theorem wl_25_16 : Cond.code yX10_isPlace cX10_isPlace 2 (some .boolean) ∈ lw_tbl := wt_3 _ (List.mem_of_getElem? (i := 35) rfl)
theorem wl_25_17 : Cond.methodLink RX10 207 yX7_rub ∈ lw_tbl := wt_3 _ (List.mem_of_getElem? (i := 36) rfl)
theorem wl_25_18 : Cond.instanceMethod yX7_rub ∈ lw_tbl := wt_3 _ (List.mem_of_getElem? (i := 37) rfl)
theorem wl_25_19 : Cond.selects RX7 yX7_rub yX7_rub ∈ lw_tbl := wt_3 _ (List.mem_of_getElem? (i := 38) rfl)
theorem wl_25_20 : Cond.code yX7_rub cX7_rub 1 (some .int) ∈ lw_tbl := wt_3 _ (List.mem_of_getElem? (i := 39) rfl)
theorem wl_25_21 : Cond.methodLink RX10 210 yX0_rollOn ∈ lw_tbl := wt_3 _ (List.mem_of_getElem? (i := 40) rfl)
theorem wl_25_22 : Cond.instanceMethod yX0_rollOn ∈ lw_tbl := wt_3 _ (List.mem_of_getElem? (i := 41) rfl)
theorem wl_25_23 : Cond.selects RX0 yX0_rollOn yX0_rollOn ∈ lw_tbl := wt_3 _ (List.mem_of_getElem? (i := 42) rfl)
theorem wr_25 : ∀ w ∈ wsL_law_r25, w ∈ lw_tbl ∧ goodWord w = true := List.forall_mem_cons.mpr ⟨⟨wl_25_0, rfl⟩, List.forall_mem_cons.mpr ⟨⟨wl_25_1, rfl⟩, List.forall_mem_cons.mpr ⟨⟨wl_25_2, rfl⟩, List.forall_mem_cons.mpr ⟨⟨wl_25_3, rfl⟩, List.forall_mem_cons.mpr ⟨⟨wl_25_4, rfl⟩, List.forall_mem_cons.mpr ⟨⟨wl_25_5, rfl⟩, List.forall_mem_cons.mpr ⟨⟨wl_25_6, rfl⟩, List.forall_mem_cons.mpr ⟨⟨wl_25_7, rfl⟩, List.forall_mem_cons.mpr ⟨⟨wl_25_8, rfl⟩, List.forall_mem_cons.mpr ⟨⟨wl_25_9, rfl⟩, List.forall_mem_cons.mpr ⟨⟨wl_25_10, rfl⟩, List.forall_mem_cons.mpr ⟨⟨wl_25_11, rfl⟩, List.forall_mem_cons.mpr ⟨⟨wl_25_12, rfl⟩, List.forall_mem_cons.mpr ⟨⟨wl_25_13, rfl⟩, List.forall_mem_cons.mpr ⟨⟨wl_25_14, rfl⟩, List.forall_mem_cons.mpr ⟨⟨wl_25_15, rfl⟩, List.forall_mem_cons.mpr ⟨⟨wl_25_16, rfl⟩, List.forall_mem_cons.mpr ⟨⟨wl_25_17, rfl⟩, List.forall_mem_cons.mpr ⟨⟨wl_25_18, rfl⟩, List.forall_mem_cons.mpr ⟨⟨wl_25_19, rfl⟩, List.forall_mem_cons.mpr ⟨⟨wl_25_20, rfl⟩, List.forall_mem_cons.mpr ⟨⟨wl_25_21, rfl⟩, List.forall_mem_cons.mpr ⟨⟨wl_25_22, rfl⟩, List.forall_mem_cons.mpr ⟨⟨wl_25_23, rfl⟩, fun _ h => absurd h List.not_mem_nil⟩⟩⟩⟩⟩⟩⟩⟩⟩⟩⟩⟩⟩⟩⟩⟩⟩⟩⟩⟩⟩⟩⟩⟩
theorem wl_26_0 : Cond.code yX0_rollOn cX0_rollOn 15 none ∈ lw_tbl := wt_3 _ (List.mem_of_getElem? (i := 43) rfl)
theorem wl_26_1 : Cond.constantLong RX0 82 (100) ∈ lw_tbl := wt_3 _ (List.mem_of_getElem? (i := 45) rfl)
theorem wl_26_2 : Cond.methodLink RX0 79 yX5_wayBack ∈ lw_tbl := wt_3 _ (List.mem_of_getElem? (i := 44) rfl)
theorem wl_26_3 : Cond.methodLink RL 71 yX11_rolled ∈ lw_tbl := wt_4 _ (List.mem_of_getElem? (i := 232) rfl)
theorem wl_26_4 : Cond.instanceMethod yX11_rolled ∈ lw_tbl := wt_4 _ (List.mem_of_getElem? (i := 233) rfl)
theorem wl_26_5 : Cond.selects RX11 yX11_rolled yX11_rolled ∈ lw_tbl := wt_4 _ (List.mem_of_getElem? (i := 234) rfl)
theorem wl_26_6 : Cond.code yX11_rolled cX11_rolled 7 (some .int) ∈ lw_tbl := wt_4 _ (List.mem_of_getElem? (i := 235) rfl)
theorem wl_26_7 : Cond.fieldLink RX11 218 "RoundThrowModel" "rollTick" "I" ∈ lw_tbl := wt_3 _ (List.mem_of_getElem? (i := 235) rfl)
theorem wl_26_8 : Cond.fieldLink RX11 212 "RoundThrowModel" "rollX" "I" ∈ lw_tbl := wt_3 _ (List.mem_of_getElem? (i := 233) rfl)
theorem wl_26_9 : Cond.fieldLink RX11 215 "RoundThrowModel" "rollY" "I" ∈ lw_tbl := wt_3 _ (List.mem_of_getElem? (i := 234) rfl)
theorem wl_26_10 : Cond.methodLink RX11 221 yX11_isPlace ∈ lw_tbl := wt_4 _ (List.mem_of_getElem? (i := 236) rfl)
theorem wl_26_11 : Cond.static yX11_isPlace ∈ lw_tbl := wt_4 _ (List.mem_of_getElem? (i := 237) rfl)
theorem wl_26_12 : Cond.code yX11_isPlace cX11_isPlace 3 (some .boolean) ∈ lw_tbl := wt_4 _ (List.mem_of_getElem? (i := 238) rfl)
theorem wl_26_13 : Cond.methodLink RX11 224 yX11_beginRoll ∈ lw_tbl := wt_4 _ (List.mem_of_getElem? (i := 239) rfl)
theorem wl_26_14 : Cond.instanceMethod yX11_beginRoll ∈ lw_tbl := wt_5 _ (List.mem_of_getElem? (i := 1) rfl)
theorem wl_26_15 : Cond.selects RX11 yX11_beginRoll yX11_beginRoll ∈ lw_tbl := ws_2 _ (List.mem_of_getElem? (i := 11) rfl)
theorem wl_26_16 : Cond.code yX11_beginRoll cX11_beginRoll 5 none ∈ lw_tbl := wt_5 _ (List.mem_of_getElem? (i := 2) rfl)
theorem wl_26_17 : Cond.methodLink RX11 228 yX11_roll ∈ lw_tbl := wt_5 _ (List.mem_of_getElem? (i := 3) rfl)
theorem wl_26_18 : Cond.instanceMethod yX11_roll ∈ lw_tbl := wt_5 _ (List.mem_of_getElem? (i := 5) rfl)
theorem wl_26_19 : Cond.selects RX11 yX11_roll yX11_roll ∈ lw_tbl := ws_2 _ (List.mem_of_getElem? (i := 12) rfl)
theorem wl_26_20 : Cond.code yX11_roll cX11_roll 5 none ∈ lw_tbl := wt_5 _ (List.mem_of_getElem? (i := 6) rfl)
theorem wl_26_21 : Cond.methodLink RL 72 yX10_off ∈ lw_tbl := wt_3 _ (List.mem_of_getElem? (i := 46) rfl)
theorem wl_26_22 : Cond.instanceMethod yX10_off ∈ lw_tbl := wt_3 _ (List.mem_of_getElem? (i := 47) rfl)
theorem wl_26_23 : Cond.selects RX10 yX10_off yX10_off ∈ lw_tbl := wt_3 _ (List.mem_of_getElem? (i := 48) rfl)
theorem wr_26 : ∀ w ∈ wsL_law_r26, w ∈ lw_tbl ∧ goodWord w = true := List.forall_mem_cons.mpr ⟨⟨wl_26_0, rfl⟩, List.forall_mem_cons.mpr ⟨⟨wl_26_1, rfl⟩, List.forall_mem_cons.mpr ⟨⟨wl_26_2, rfl⟩, List.forall_mem_cons.mpr ⟨⟨wl_26_3, rfl⟩, List.forall_mem_cons.mpr ⟨⟨wl_26_4, rfl⟩, List.forall_mem_cons.mpr ⟨⟨wl_26_5, rfl⟩, List.forall_mem_cons.mpr ⟨⟨wl_26_6, rfl⟩, List.forall_mem_cons.mpr ⟨⟨wl_26_7, rfl⟩, List.forall_mem_cons.mpr ⟨⟨wl_26_8, rfl⟩, List.forall_mem_cons.mpr ⟨⟨wl_26_9, rfl⟩, List.forall_mem_cons.mpr ⟨⟨wl_26_10, rfl⟩, List.forall_mem_cons.mpr ⟨⟨wl_26_11, rfl⟩, List.forall_mem_cons.mpr ⟨⟨wl_26_12, rfl⟩, List.forall_mem_cons.mpr ⟨⟨wl_26_13, rfl⟩, List.forall_mem_cons.mpr ⟨⟨wl_26_14, rfl⟩, List.forall_mem_cons.mpr ⟨⟨wl_26_15, rfl⟩, List.forall_mem_cons.mpr ⟨⟨wl_26_16, rfl⟩, List.forall_mem_cons.mpr ⟨⟨wl_26_17, rfl⟩, List.forall_mem_cons.mpr ⟨⟨wl_26_18, rfl⟩, List.forall_mem_cons.mpr ⟨⟨wl_26_19, rfl⟩, List.forall_mem_cons.mpr ⟨⟨wl_26_20, rfl⟩, List.forall_mem_cons.mpr ⟨⟨wl_26_21, rfl⟩, List.forall_mem_cons.mpr ⟨⟨wl_26_22, rfl⟩, List.forall_mem_cons.mpr ⟨⟨wl_26_23, rfl⟩, fun _ h => absurd h List.not_mem_nil⟩⟩⟩⟩⟩⟩⟩⟩⟩⟩⟩⟩⟩⟩⟩⟩⟩⟩⟩⟩⟩⟩⟩⟩
theorem wl_27_0 : Cond.code yX10_off cX10_off 6 (some .int) ∈ lw_tbl := wt_3 _ (List.mem_of_getElem? (i := 49) rfl)
theorem wl_27_1 : Cond.methodLink RX10 220 yX7_rim ∈ lw_tbl := wt_3 _ (List.mem_of_getElem? (i := 50) rfl)
theorem wl_27_2 : Cond.instanceMethod yX7_rim ∈ lw_tbl := wt_3 _ (List.mem_of_getElem? (i := 51) rfl)
theorem wl_27_3 : Cond.selects RX7 yX7_rim yX7_rim ∈ lw_tbl := wt_3 _ (List.mem_of_getElem? (i := 52) rfl)
theorem wl_27_4 : Cond.code yX7_rim cX7_rim 1 (some .int) ∈ lw_tbl := wt_3 _ (List.mem_of_getElem? (i := 53) rfl)
theorem wl_27_5 : Cond.methodLink RX10 223 yX0_isBeyond ∈ lw_tbl := wt_3 _ (List.mem_of_getElem? (i := 54) rfl)
theorem wl_27_6 : Cond.instanceMethod yX0_isBeyond ∈ lw_tbl := wt_3 _ (List.mem_of_getElem? (i := 55) rfl)
theorem wl_27_7 : Cond.selects RX0 yX0_isBeyond yX0_isBeyond ∈ lw_tbl := wt_3 _ (List.mem_of_getElem? (i := 56) rfl)
theorem wl_27_8 : Cond.code yX0_isBeyond cX0_isBeyond 3 (some .boolean) ∈ lw_tbl := wt_3 _ (List.mem_of_getElem? (i := 57) rfl)
theorem wl_27_9 : Cond.methodLink RL 75 yX11_off ∈ lw_tbl := wt_5 _ (List.mem_of_getElem? (i := 7) rfl)
theorem wl_27_10 : Cond.instanceMethod yX11_off ∈ lw_tbl := wt_5 _ (List.mem_of_getElem? (i := 8) rfl)
theorem wl_27_11 : Cond.selects RX11 yX11_off yX11_off ∈ lw_tbl := wt_5 _ (List.mem_of_getElem? (i := 9) rfl)
theorem wl_27_12 : Cond.code yX11_off cX11_off 5 (some .int) ∈ lw_tbl := wt_5 _ (List.mem_of_getElem? (i := 10) rfl)
theorem wl_27_13 : Cond.methodLink RX11 231 yX11_isOff ∈ lw_tbl := wt_5 _ (List.mem_of_getElem? (i := 11) rfl)
theorem wl_27_14 : Cond.instanceMethod yX11_isOff ∈ lw_tbl := wt_5 _ (List.mem_of_getElem? (i := 13) rfl)
theorem wl_27_15 : Cond.selects RX11 yX11_isOff yX11_isOff ∈ lw_tbl := ws_2 _ (List.mem_of_getElem? (i := 13) rfl)
theorem wl_27_16 : Cond.code yX11_isOff cX11_isOff 1 (some .boolean) ∈ lw_tbl := wt_5 _ (List.mem_of_getElem? (i := 14) rfl)
theorem wl_27_17 : Cond.methodLink RL 76 yX10_leans ∈ lw_tbl := wt_3 _ (List.mem_of_getElem? (i := 58) rfl)
theorem wl_27_18 : Cond.instanceMethod yX10_leans ∈ lw_tbl := wt_3 _ (List.mem_of_getElem? (i := 59) rfl)
theorem wl_27_19 : Cond.selects RX10 yX10_leans yX10_leans ∈ lw_tbl := wt_3 _ (List.mem_of_getElem? (i := 60) rfl)
theorem wl_27_20 : Cond.code yX10_leans cX10_leans 2 (some .int) ∈ lw_tbl := wt_3 _ (List.mem_of_getElem? (i := 61) rfl)
theorem wl_27_21 : Cond.methodLink RX10 227 yX10_lean ∈ lw_tbl := wt_3 _ (List.mem_of_getElem? (i := 62) rfl)
theorem wl_27_22 : Cond.static yX10_lean ∈ lw_tbl := wt_3 _ (List.mem_of_getElem? (i := 63) rfl)
theorem wl_27_23 : Cond.code yX10_lean cX10_lean 2 (some .int) ∈ lw_tbl := wt_3 _ (List.mem_of_getElem? (i := 64) rfl)
theorem wr_27 : ∀ w ∈ wsL_law_r27, w ∈ lw_tbl ∧ goodWord w = true := List.forall_mem_cons.mpr ⟨⟨wl_27_0, rfl⟩, List.forall_mem_cons.mpr ⟨⟨wl_27_1, rfl⟩, List.forall_mem_cons.mpr ⟨⟨wl_27_2, rfl⟩, List.forall_mem_cons.mpr ⟨⟨wl_27_3, rfl⟩, List.forall_mem_cons.mpr ⟨⟨wl_27_4, rfl⟩, List.forall_mem_cons.mpr ⟨⟨wl_27_5, rfl⟩, List.forall_mem_cons.mpr ⟨⟨wl_27_6, rfl⟩, List.forall_mem_cons.mpr ⟨⟨wl_27_7, rfl⟩, List.forall_mem_cons.mpr ⟨⟨wl_27_8, rfl⟩, List.forall_mem_cons.mpr ⟨⟨wl_27_9, rfl⟩, List.forall_mem_cons.mpr ⟨⟨wl_27_10, rfl⟩, List.forall_mem_cons.mpr ⟨⟨wl_27_11, rfl⟩, List.forall_mem_cons.mpr ⟨⟨wl_27_12, rfl⟩, List.forall_mem_cons.mpr ⟨⟨wl_27_13, rfl⟩, List.forall_mem_cons.mpr ⟨⟨wl_27_14, rfl⟩, List.forall_mem_cons.mpr ⟨⟨wl_27_15, rfl⟩, List.forall_mem_cons.mpr ⟨⟨wl_27_16, rfl⟩, List.forall_mem_cons.mpr ⟨⟨wl_27_17, rfl⟩, List.forall_mem_cons.mpr ⟨⟨wl_27_18, rfl⟩, List.forall_mem_cons.mpr ⟨⟨wl_27_19, rfl⟩, List.forall_mem_cons.mpr ⟨⟨wl_27_20, rfl⟩, List.forall_mem_cons.mpr ⟨⟨wl_27_21, rfl⟩, List.forall_mem_cons.mpr ⟨⟨wl_27_22, rfl⟩, List.forall_mem_cons.mpr ⟨⟨wl_27_23, rfl⟩, fun _ h => absurd h List.not_mem_nil⟩⟩⟩⟩⟩⟩⟩⟩⟩⟩⟩⟩⟩⟩⟩⟩⟩⟩⟩⟩⟩⟩⟩⟩
theorem wl_28_0 : Cond.methodLink RL 79 yX11_leans ∈ lw_tbl := wt_5 _ (List.mem_of_getElem? (i := 15) rfl)
theorem wl_28_1 : Cond.instanceMethod yX11_leans ∈ lw_tbl := wt_5 _ (List.mem_of_getElem? (i := 16) rfl)
theorem wl_28_2 : Cond.selects RX11 yX11_leans yX11_leans ∈ lw_tbl := wt_5 _ (List.mem_of_getElem? (i := 17) rfl)
theorem wl_28_3 : Cond.code yX11_leans cX11_leans 2 (some .int) ∈ lw_tbl := wt_5 _ (List.mem_of_getElem? (i := 18) rfl)
theorem wl_28_4 : Cond.methodLink RX11 235 yX11_leansOf ∈ lw_tbl := wt_5 _ (List.mem_of_getElem? (i := 19) rfl)
theorem wl_28_5 : Cond.instanceMethod yX11_leansOf ∈ lw_tbl := wt_5 _ (List.mem_of_getElem? (i := 21) rfl)
theorem wl_28_6 : Cond.selects RX11 yX11_leansOf yX11_leansOf ∈ lw_tbl := ws_2 _ (List.mem_of_getElem? (i := 14) rfl)
theorem wl_28_7 : Cond.code yX11_leansOf cX11_leansOf 2 (some .int) ∈ lw_tbl := wt_5 _ (List.mem_of_getElem? (i := 22) rfl)
theorem wl_28_8 : Cond.methodLink RL 80 yX10_stays ∈ lw_tbl := wt_3 _ (List.mem_of_getElem? (i := 65) rfl)
theorem wl_28_9 : Cond.instanceMethod yX10_stays ∈ lw_tbl := wt_3 _ (List.mem_of_getElem? (i := 66) rfl)
theorem wl_28_10 : Cond.selects RX10 yX10_stays yX10_stays ∈ lw_tbl := wt_3 _ (List.mem_of_getElem? (i := 67) rfl)
theorem wl_28_11 : Cond.code yX10_stays cX10_stays 3 (some .int) ∈ lw_tbl := wt_3 _ (List.mem_of_getElem? (i := 68) rfl)
theorem wl_28_12 : Cond.methodLink RL 83 yX11_stays ∈ lw_tbl := wt_5 _ (List.mem_of_getElem? (i := 23) rfl)
theorem wl_28_13 : Cond.instanceMethod yX11_stays ∈ lw_tbl := wt_5 _ (List.mem_of_getElem? (i := 24) rfl)
theorem wl_28_14 : Cond.selects RX11 yX11_stays yX11_stays ∈ lw_tbl := wt_5 _ (List.mem_of_getElem? (i := 25) rfl)
theorem wl_28_15 : Cond.code yX11_stays cX11_stays 3 (some .int) ∈ lw_tbl := wt_5 _ (List.mem_of_getElem? (i := 26) rfl)
theorem wl_28_16 : Cond.constantLong RX11 238 (9999) ∈ lw_tbl := wt_5 _ (List.mem_of_getElem? (i := 27) rfl)
theorem wl_28_17 : Cond.methodLink RL 84 yX10_hut ∈ lw_tbl := wt_3 _ (List.mem_of_getElem? (i := 69) rfl)
theorem wl_28_18 : Cond.instanceMethod yX10_hut ∈ lw_tbl := wt_3 _ (List.mem_of_getElem? (i := 70) rfl)
theorem wl_28_19 : Cond.selects RX10 yX10_hut yX10_hut ∈ lw_tbl := wt_3 _ (List.mem_of_getElem? (i := 71) rfl)
theorem wl_28_20 : Cond.code yX10_hut cX10_hut 6 (some .int) ∈ lw_tbl := wt_3 _ (List.mem_of_getElem? (i := 72) rfl)
theorem wl_28_21 : Cond.methodLink RL 87 yX11_hut ∈ lw_tbl := wt_5 _ (List.mem_of_getElem? (i := 28) rfl)
theorem wl_28_22 : Cond.instanceMethod yX11_hut ∈ lw_tbl := wt_5 _ (List.mem_of_getElem? (i := 29) rfl)
theorem wl_28_23 : Cond.selects RX11 yX11_hut yX11_hut ∈ lw_tbl := wt_5 _ (List.mem_of_getElem? (i := 30) rfl)
theorem wr_28 : ∀ w ∈ wsL_law_r28, w ∈ lw_tbl ∧ goodWord w = true := List.forall_mem_cons.mpr ⟨⟨wl_28_0, rfl⟩, List.forall_mem_cons.mpr ⟨⟨wl_28_1, rfl⟩, List.forall_mem_cons.mpr ⟨⟨wl_28_2, rfl⟩, List.forall_mem_cons.mpr ⟨⟨wl_28_3, rfl⟩, List.forall_mem_cons.mpr ⟨⟨wl_28_4, rfl⟩, List.forall_mem_cons.mpr ⟨⟨wl_28_5, rfl⟩, List.forall_mem_cons.mpr ⟨⟨wl_28_6, rfl⟩, List.forall_mem_cons.mpr ⟨⟨wl_28_7, rfl⟩, List.forall_mem_cons.mpr ⟨⟨wl_28_8, rfl⟩, List.forall_mem_cons.mpr ⟨⟨wl_28_9, rfl⟩, List.forall_mem_cons.mpr ⟨⟨wl_28_10, rfl⟩, List.forall_mem_cons.mpr ⟨⟨wl_28_11, rfl⟩, List.forall_mem_cons.mpr ⟨⟨wl_28_12, rfl⟩, List.forall_mem_cons.mpr ⟨⟨wl_28_13, rfl⟩, List.forall_mem_cons.mpr ⟨⟨wl_28_14, rfl⟩, List.forall_mem_cons.mpr ⟨⟨wl_28_15, rfl⟩, List.forall_mem_cons.mpr ⟨⟨wl_28_16, rfl⟩, List.forall_mem_cons.mpr ⟨⟨wl_28_17, rfl⟩, List.forall_mem_cons.mpr ⟨⟨wl_28_18, rfl⟩, List.forall_mem_cons.mpr ⟨⟨wl_28_19, rfl⟩, List.forall_mem_cons.mpr ⟨⟨wl_28_20, rfl⟩, List.forall_mem_cons.mpr ⟨⟨wl_28_21, rfl⟩, List.forall_mem_cons.mpr ⟨⟨wl_28_22, rfl⟩, List.forall_mem_cons.mpr ⟨⟨wl_28_23, rfl⟩, fun _ h => absurd h List.not_mem_nil⟩⟩⟩⟩⟩⟩⟩⟩⟩⟩⟩⟩⟩⟩⟩⟩⟩⟩⟩⟩⟩⟩⟩⟩
theorem wl_29_0 : Cond.code yX11_hut cX11_hut 6 (some .int) ∈ lw_tbl := wt_5 _ (List.mem_of_getElem? (i := 31) rfl)
theorem wl_29_1 : Cond.methodLink RL 88 yX10_film ∈ lw_tbl := wt_3 _ (List.mem_of_getElem? (i := 73) rfl)
theorem wl_29_2 : Cond.instanceMethod yX10_film ∈ lw_tbl := wt_3 _ (List.mem_of_getElem? (i := 74) rfl)
theorem wl_29_3 : Cond.selects RX10 yX10_film yX10_film ∈ lw_tbl := wt_3 _ (List.mem_of_getElem? (i := 75) rfl)
theorem wl_29_4 : Cond.code yX10_film cX10_film 3 (some .int) ∈ lw_tbl := wt_3 _ (List.mem_of_getElem? (i := 76) rfl)
theorem wl_29_5 : Cond.fieldLink RX10 232 "RoundThrow$Setup" "film" "LRoundThrow$Film;" ∈ lw_tbl := wt_1 _ (List.mem_of_getElem? (i := 100) rfl)
theorem wl_29_6 : Cond.fieldLink RX10 238 "RoundThrow$Film" "points" "I" ∈ lw_tbl := wt_1 _ (List.mem_of_getElem? (i := 86) rfl)
theorem wl_29_7 : Cond.methodLink RX10 236 yX2_add ∈ lw_tbl := wt_3 _ (List.mem_of_getElem? (i := 77) rfl)
theorem wl_29_8 : Cond.instanceMethod yX2_add ∈ lw_tbl := wt_3 _ (List.mem_of_getElem? (i := 78) rfl)
theorem wl_29_9 : Cond.selects RX2 yX2_add yX2_add ∈ lw_tbl := wt_3 _ (List.mem_of_getElem? (i := 79) rfl)
theorem wl_29_10 : Cond.code yX2_add cX2_add 3 (some .boolean) ∈ lw_tbl := wt_3 _ (List.mem_of_getElem? (i := 80) rfl)
theorem wl_29_11 : Cond.fieldLink RX2 16 "RoundThrow$Film" "points" "I" ∈ lw_tbl := wt_1 _ (List.mem_of_getElem? (i := 85) rfl)
theorem wl_29_12 : Cond.methodLink RL 91 yX11_film ∈ lw_tbl := wt_5 _ (List.mem_of_getElem? (i := 32) rfl)
theorem wl_29_13 : Cond.instanceMethod yX11_film ∈ lw_tbl := wt_5 _ (List.mem_of_getElem? (i := 33) rfl)
theorem wl_29_14 : Cond.selects RX11 yX11_film yX11_film ∈ lw_tbl := wt_5 _ (List.mem_of_getElem? (i := 34) rfl)
theorem wl_29_15 : Cond.code yX11_film cX11_film 3 (some .int) ∈ lw_tbl := wt_5 _ (List.mem_of_getElem? (i := 35) rfl)
theorem wl_29_16 : Cond.fieldLink RX11 240 "RoundThrowModel" "filmMany" "I" ∈ lw_tbl := wt_3 _ (List.mem_of_getElem? (i := 238) rfl)
theorem wl_29_17 : Cond.methodLink RL 92 yX10_clear ∈ lw_tbl := wt_3 _ (List.mem_of_getElem? (i := 81) rfl)
theorem wl_29_18 : Cond.instanceMethod yX10_clear ∈ lw_tbl := wt_3 _ (List.mem_of_getElem? (i := 82) rfl)
theorem wl_29_19 : Cond.selects RX10 yX10_clear yX10_clear ∈ lw_tbl := wt_3 _ (List.mem_of_getElem? (i := 83) rfl)
theorem wl_29_20 : Cond.code yX10_clear cX10_clear 2 (some .int) ∈ lw_tbl := wt_3 _ (List.mem_of_getElem? (i := 84) rfl)
theorem wl_29_21 : Cond.methodLink RL 95 yX11_clear ∈ lw_tbl := wt_5 _ (List.mem_of_getElem? (i := 36) rfl)
theorem wl_29_22 : Cond.instanceMethod yX11_clear ∈ lw_tbl := wt_5 _ (List.mem_of_getElem? (i := 37) rfl)
theorem wl_29_23 : Cond.selects RX11 yX11_clear yX11_clear ∈ lw_tbl := wt_5 _ (List.mem_of_getElem? (i := 38) rfl)
theorem wr_29 : ∀ w ∈ wsL_law_r29, w ∈ lw_tbl ∧ goodWord w = true := List.forall_mem_cons.mpr ⟨⟨wl_29_0, rfl⟩, List.forall_mem_cons.mpr ⟨⟨wl_29_1, rfl⟩, List.forall_mem_cons.mpr ⟨⟨wl_29_2, rfl⟩, List.forall_mem_cons.mpr ⟨⟨wl_29_3, rfl⟩, List.forall_mem_cons.mpr ⟨⟨wl_29_4, rfl⟩, List.forall_mem_cons.mpr ⟨⟨wl_29_5, rfl⟩, List.forall_mem_cons.mpr ⟨⟨wl_29_6, rfl⟩, List.forall_mem_cons.mpr ⟨⟨wl_29_7, rfl⟩, List.forall_mem_cons.mpr ⟨⟨wl_29_8, rfl⟩, List.forall_mem_cons.mpr ⟨⟨wl_29_9, rfl⟩, List.forall_mem_cons.mpr ⟨⟨wl_29_10, rfl⟩, List.forall_mem_cons.mpr ⟨⟨wl_29_11, rfl⟩, List.forall_mem_cons.mpr ⟨⟨wl_29_12, rfl⟩, List.forall_mem_cons.mpr ⟨⟨wl_29_13, rfl⟩, List.forall_mem_cons.mpr ⟨⟨wl_29_14, rfl⟩, List.forall_mem_cons.mpr ⟨⟨wl_29_15, rfl⟩, List.forall_mem_cons.mpr ⟨⟨wl_29_16, rfl⟩, List.forall_mem_cons.mpr ⟨⟨wl_29_17, rfl⟩, List.forall_mem_cons.mpr ⟨⟨wl_29_18, rfl⟩, List.forall_mem_cons.mpr ⟨⟨wl_29_19, rfl⟩, List.forall_mem_cons.mpr ⟨⟨wl_29_20, rfl⟩, List.forall_mem_cons.mpr ⟨⟨wl_29_21, rfl⟩, List.forall_mem_cons.mpr ⟨⟨wl_29_22, rfl⟩, List.forall_mem_cons.mpr ⟨⟨wl_29_23, rfl⟩, fun _ h => absurd h List.not_mem_nil⟩⟩⟩⟩⟩⟩⟩⟩⟩⟩⟩⟩⟩⟩⟩⟩⟩⟩⟩⟩⟩⟩⟩⟩
theorem wl_30_0 : Cond.code yX11_clear cX11_clear 2 (some .int) ∈ lw_tbl := wt_5 _ (List.mem_of_getElem? (i := 39) rfl)
theorem wl_30_1 : Cond.methodLink RL 96 yX10_bent ∈ lw_tbl := wt_3 _ (List.mem_of_getElem? (i := 85) rfl)
theorem wl_30_2 : Cond.instanceMethod yX10_bent ∈ lw_tbl := wt_3 _ (List.mem_of_getElem? (i := 86) rfl)
theorem wl_30_3 : Cond.selects RX10 yX10_bent yX10_bent ∈ lw_tbl := wt_3 _ (List.mem_of_getElem? (i := 87) rfl)
theorem wl_30_4 : Cond.code yX10_bent cX10_bent 2 (some .int) ∈ lw_tbl := wt_3 _ (List.mem_of_getElem? (i := 88) rfl)
theorem wl_30_5 : Cond.methodLink RX10 241 yX2_bend ∈ lw_tbl := wt_3 _ (List.mem_of_getElem? (i := 89) rfl)
theorem wl_30_6 : Cond.instanceMethod yX2_bend ∈ lw_tbl := wt_3 _ (List.mem_of_getElem? (i := 90) rfl)
theorem wl_30_7 : Cond.selects RX2 yX2_bend yX2_bend ∈ lw_tbl := wt_3 _ (List.mem_of_getElem? (i := 91) rfl)
theorem wl_30_8 : Cond.code yX2_bend cX2_bend 5 (some .int) ∈ lw_tbl := wt_3 _ (List.mem_of_getElem? (i := 92) rfl)
theorem wl_30_9 : Cond.constantLong RX2 24 (2) ∈ lw_tbl := wt_3 _ (List.mem_of_getElem? (i := 99) rfl)
theorem wl_30_10 : Cond.methodLink RX2 26 Lib.MathLoose.abs_long.x ∈ lw_tbl := wt_3 _ (List.mem_of_getElem? (i := 100) rfl)
theorem wl_30_11 : Cond.methodLink RX2 20 yX2_groundX ∈ lw_tbl := wt_3 _ (List.mem_of_getElem? (i := 93) rfl)
theorem wl_30_12 : Cond.instanceMethod yX2_groundX ∈ lw_tbl := wt_3 _ (List.mem_of_getElem? (i := 95) rfl)
theorem wl_30_13 : Cond.selects RX2 yX2_groundX yX2_groundX ∈ lw_tbl := ws_1 _ (List.mem_of_getElem? (i := 6) rfl)
theorem wl_30_14 : Cond.code yX2_groundX cX2_groundX 3 (some .long) ∈ lw_tbl := wt_3 _ (List.mem_of_getElem? (i := 96) rfl)
theorem wl_30_15 : Cond.methodLink RX2 35 yX5_wayOf ∈ lw_tbl := wt_3 _ (List.mem_of_getElem? (i := 97) rfl)
theorem wl_30_16 : Cond.methodLink RX2 41 yX9_turnX ∈ lw_tbl := wt_3 _ (List.mem_of_getElem? (i := 98) rfl)
theorem wl_30_17 : Cond.methodLink RX2 32 yX2_groundY ∈ lw_tbl := wt_3 _ (List.mem_of_getElem? (i := 101) rfl)
theorem wl_30_18 : Cond.instanceMethod yX2_groundY ∈ lw_tbl := wt_3 _ (List.mem_of_getElem? (i := 103) rfl)
theorem wl_30_19 : Cond.selects RX2 yX2_groundY yX2_groundY ∈ lw_tbl := ws_1 _ (List.mem_of_getElem? (i := 7) rfl)
theorem wl_30_20 : Cond.code yX2_groundY cX2_groundY 3 (some .long) ∈ lw_tbl := wt_3 _ (List.mem_of_getElem? (i := 104) rfl)
theorem wl_30_21 : Cond.methodLink RX2 47 yX9_turnY ∈ lw_tbl := wt_3 _ (List.mem_of_getElem? (i := 105) rfl)
theorem wl_30_22 : Cond.methodLink RL 99 yX11_bent ∈ lw_tbl := wt_5 _ (List.mem_of_getElem? (i := 40) rfl)
theorem wl_30_23 : Cond.instanceMethod yX11_bent ∈ lw_tbl := wt_5 _ (List.mem_of_getElem? (i := 41) rfl)
theorem wr_30 : ∀ w ∈ wsL_law_r30, w ∈ lw_tbl ∧ goodWord w = true := List.forall_mem_cons.mpr ⟨⟨wl_30_0, rfl⟩, List.forall_mem_cons.mpr ⟨⟨wl_30_1, rfl⟩, List.forall_mem_cons.mpr ⟨⟨wl_30_2, rfl⟩, List.forall_mem_cons.mpr ⟨⟨wl_30_3, rfl⟩, List.forall_mem_cons.mpr ⟨⟨wl_30_4, rfl⟩, List.forall_mem_cons.mpr ⟨⟨wl_30_5, rfl⟩, List.forall_mem_cons.mpr ⟨⟨wl_30_6, rfl⟩, List.forall_mem_cons.mpr ⟨⟨wl_30_7, rfl⟩, List.forall_mem_cons.mpr ⟨⟨wl_30_8, rfl⟩, List.forall_mem_cons.mpr ⟨⟨wl_30_9, rfl⟩, List.forall_mem_cons.mpr ⟨⟨wl_30_10, rfl⟩, List.forall_mem_cons.mpr ⟨⟨wl_30_11, rfl⟩, List.forall_mem_cons.mpr ⟨⟨wl_30_12, rfl⟩, List.forall_mem_cons.mpr ⟨⟨wl_30_13, rfl⟩, List.forall_mem_cons.mpr ⟨⟨wl_30_14, rfl⟩, List.forall_mem_cons.mpr ⟨⟨wl_30_15, rfl⟩, List.forall_mem_cons.mpr ⟨⟨wl_30_16, rfl⟩, List.forall_mem_cons.mpr ⟨⟨wl_30_17, rfl⟩, List.forall_mem_cons.mpr ⟨⟨wl_30_18, rfl⟩, List.forall_mem_cons.mpr ⟨⟨wl_30_19, rfl⟩, List.forall_mem_cons.mpr ⟨⟨wl_30_20, rfl⟩, List.forall_mem_cons.mpr ⟨⟨wl_30_21, rfl⟩, List.forall_mem_cons.mpr ⟨⟨wl_30_22, rfl⟩, List.forall_mem_cons.mpr ⟨⟨wl_30_23, rfl⟩, fun _ h => absurd h List.not_mem_nil⟩⟩⟩⟩⟩⟩⟩⟩⟩⟩⟩⟩⟩⟩⟩⟩⟩⟩⟩⟩⟩⟩⟩⟩
theorem wl_31_0 : Cond.selects RX11 yX11_bent yX11_bent ∈ lw_tbl := wt_5 _ (List.mem_of_getElem? (i := 42) rfl)
theorem wl_31_1 : Cond.code yX11_bent cX11_bent 2 (some .int) ∈ lw_tbl := wt_5 _ (List.mem_of_getElem? (i := 43) rfl)
theorem wl_31_2 : Cond.constantLong RX11 243 (-60) ∈ lw_tbl := wt_5 _ (List.mem_of_getElem? (i := 44) rfl)
theorem wl_31_3 : Cond.methodLink RX11 245 yX11_bentOf ∈ lw_tbl := wt_5 _ (List.mem_of_getElem? (i := 45) rfl)
theorem wl_31_4 : Cond.instanceMethod yX11_bentOf ∈ lw_tbl := wt_5 _ (List.mem_of_getElem? (i := 47) rfl)
theorem wl_31_5 : Cond.selects RX11 yX11_bentOf yX11_bentOf ∈ lw_tbl := ws_2 _ (List.mem_of_getElem? (i := 15) rfl)
theorem wl_31_6 : Cond.code yX11_bentOf cX11_bentOf 6 (some .int) ∈ lw_tbl := wt_5 _ (List.mem_of_getElem? (i := 48) rfl)
theorem wl_31_7 : Cond.methodLink RL 100 yX10_turned ∈ lw_tbl := wt_3 _ (List.mem_of_getElem? (i := 106) rfl)
theorem wl_31_8 : Cond.instanceMethod yX10_turned ∈ lw_tbl := wt_3 _ (List.mem_of_getElem? (i := 107) rfl)
theorem wl_31_9 : Cond.selects RX10 yX10_turned yX10_turned ∈ lw_tbl := wt_3 _ (List.mem_of_getElem? (i := 108) rfl)
theorem wl_31_10 : Cond.code yX10_turned cX10_turned 1 (some .int) ∈ lw_tbl := wt_3 _ (List.mem_of_getElem? (i := 109) rfl)
theorem wl_31_11 : Cond.constant RX10 250 (-100000003) ∈ lw_tbl := wt_3 _ (List.mem_of_getElem? (i := 119) rfl)
theorem wl_31_12 : Cond.methodLink RX10 244 yX2_tells ∈ lw_tbl := wt_3 _ (List.mem_of_getElem? (i := 110) rfl)
theorem wl_31_13 : Cond.instanceMethod yX2_tells ∈ lw_tbl := wt_3 _ (List.mem_of_getElem? (i := 111) rfl)
theorem wl_31_14 : Cond.selects RX2 yX2_tells yX2_tells ∈ lw_tbl := wt_3 _ (List.mem_of_getElem? (i := 112) rfl)
theorem wl_31_15 : Cond.code yX2_tells cX2_tells 1 (some .boolean) ∈ lw_tbl := wt_3 _ (List.mem_of_getElem? (i := 113) rfl)
theorem wl_31_16 : Cond.methodLink RX10 247 yX2_likeliestPace ∈ lw_tbl := wt_3 _ (List.mem_of_getElem? (i := 114) rfl)
theorem wl_31_17 : Cond.instanceMethod yX2_likeliestPace ∈ lw_tbl := wt_3 _ (List.mem_of_getElem? (i := 115) rfl)
theorem wl_31_18 : Cond.selects RX2 yX2_likeliestPace yX2_likeliestPace ∈ lw_tbl := wt_3 _ (List.mem_of_getElem? (i := 116) rfl)
theorem wl_31_19 : Cond.code yX2_likeliestPace cX2_likeliestPace 7 (some .int) ∈ lw_tbl := wt_3 _ (List.mem_of_getElem? (i := 117) rfl)
theorem wl_31_20 : Cond.methodLink RX2 50 yX2_bend ∈ lw_tbl := wt_3 _ (List.mem_of_getElem? (i := 118) rfl)
theorem wl_31_21 : Cond.methodLink RL 103 yX11_turned ∈ lw_tbl := wt_5 _ (List.mem_of_getElem? (i := 49) rfl)
theorem wl_31_22 : Cond.instanceMethod yX11_turned ∈ lw_tbl := wt_5 _ (List.mem_of_getElem? (i := 50) rfl)
theorem wl_31_23 : Cond.selects RX11 yX11_turned yX11_turned ∈ lw_tbl := wt_5 _ (List.mem_of_getElem? (i := 51) rfl)
theorem wr_31 : ∀ w ∈ wsL_law_r31, w ∈ lw_tbl ∧ goodWord w = true := List.forall_mem_cons.mpr ⟨⟨wl_31_0, rfl⟩, List.forall_mem_cons.mpr ⟨⟨wl_31_1, rfl⟩, List.forall_mem_cons.mpr ⟨⟨wl_31_2, rfl⟩, List.forall_mem_cons.mpr ⟨⟨wl_31_3, rfl⟩, List.forall_mem_cons.mpr ⟨⟨wl_31_4, rfl⟩, List.forall_mem_cons.mpr ⟨⟨wl_31_5, rfl⟩, List.forall_mem_cons.mpr ⟨⟨wl_31_6, rfl⟩, List.forall_mem_cons.mpr ⟨⟨wl_31_7, rfl⟩, List.forall_mem_cons.mpr ⟨⟨wl_31_8, rfl⟩, List.forall_mem_cons.mpr ⟨⟨wl_31_9, rfl⟩, List.forall_mem_cons.mpr ⟨⟨wl_31_10, rfl⟩, List.forall_mem_cons.mpr ⟨⟨wl_31_11, rfl⟩, List.forall_mem_cons.mpr ⟨⟨wl_31_12, rfl⟩, List.forall_mem_cons.mpr ⟨⟨wl_31_13, rfl⟩, List.forall_mem_cons.mpr ⟨⟨wl_31_14, rfl⟩, List.forall_mem_cons.mpr ⟨⟨wl_31_15, rfl⟩, List.forall_mem_cons.mpr ⟨⟨wl_31_16, rfl⟩, List.forall_mem_cons.mpr ⟨⟨wl_31_17, rfl⟩, List.forall_mem_cons.mpr ⟨⟨wl_31_18, rfl⟩, List.forall_mem_cons.mpr ⟨⟨wl_31_19, rfl⟩, List.forall_mem_cons.mpr ⟨⟨wl_31_20, rfl⟩, List.forall_mem_cons.mpr ⟨⟨wl_31_21, rfl⟩, List.forall_mem_cons.mpr ⟨⟨wl_31_22, rfl⟩, List.forall_mem_cons.mpr ⟨⟨wl_31_23, rfl⟩, fun _ h => absurd h List.not_mem_nil⟩⟩⟩⟩⟩⟩⟩⟩⟩⟩⟩⟩⟩⟩⟩⟩⟩⟩⟩⟩⟩⟩⟩⟩
theorem wl_32_0 : Cond.code yX11_turned cX11_turned 1 (some .int) ∈ lw_tbl := wt_5 _ (List.mem_of_getElem? (i := 52) rfl)
theorem wl_32_1 : Cond.constant RX11 248 (-100000003) ∈ lw_tbl := wt_5 _ (List.mem_of_getElem? (i := 53) rfl)
theorem wl_32_2 : Cond.methodLink RX11 249 yX11_turnedBy ∈ lw_tbl := wt_5 _ (List.mem_of_getElem? (i := 54) rfl)
theorem wl_32_3 : Cond.instanceMethod yX11_turnedBy ∈ lw_tbl := wt_5 _ (List.mem_of_getElem? (i := 56) rfl)
theorem wl_32_4 : Cond.selects RX11 yX11_turnedBy yX11_turnedBy ∈ lw_tbl := ws_3 _ (List.mem_of_getElem? (i := 0) rfl)
theorem wl_32_5 : Cond.code yX11_turnedBy cX11_turnedBy 3 (some .int) ∈ lw_tbl := wt_5 _ (List.mem_of_getElem? (i := 57) rfl)
theorem wl_32_6 : Cond.methodLink RL 104 yX10_span ∈ lw_tbl := wt_3 _ (List.mem_of_getElem? (i := 120) rfl)
theorem wl_32_7 : Cond.instanceMethod yX10_span ∈ lw_tbl := wt_3 _ (List.mem_of_getElem? (i := 121) rfl)
theorem wl_32_8 : Cond.selects RX10 yX10_span yX10_span ∈ lw_tbl := wt_3 _ (List.mem_of_getElem? (i := 122) rfl)
theorem wl_32_9 : Cond.code yX10_span cX10_span 3 (some .int) ∈ lw_tbl := wt_3 _ (List.mem_of_getElem? (i := 123) rfl)
theorem wl_32_10 : Cond.methodLink RX10 251 yX2_farthestPace ∈ lw_tbl := wt_3 _ (List.mem_of_getElem? (i := 124) rfl)
theorem wl_32_11 : Cond.instanceMethod yX2_farthestPace ∈ lw_tbl := wt_3 _ (List.mem_of_getElem? (i := 125) rfl)
theorem wl_32_12 : Cond.selects RX2 yX2_farthestPace yX2_farthestPace ∈ lw_tbl := wt_3 _ (List.mem_of_getElem? (i := 126) rfl)
theorem wl_32_13 : Cond.code yX2_farthestPace cX2_farthestPace 6 (some .int) ∈ lw_tbl := wt_3 _ (List.mem_of_getElem? (i := 127) rfl)
theorem wl_32_14 : Cond.methodLink RX2 53 yX2_likeliestPace ∈ lw_tbl := wt_3 _ (List.mem_of_getElem? (i := 128) rfl)
theorem wl_32_15 : Cond.methodLink RL 107 yX11_span ∈ lw_tbl := wt_5 _ (List.mem_of_getElem? (i := 58) rfl)
theorem wl_32_16 : Cond.instanceMethod yX11_span ∈ lw_tbl := wt_5 _ (List.mem_of_getElem? (i := 59) rfl)
theorem wl_32_17 : Cond.selects RX11 yX11_span yX11_span ∈ lw_tbl := wt_5 _ (List.mem_of_getElem? (i := 60) rfl)
theorem wl_32_18 : Cond.code yX11_span cX11_span 6 (some .int) ∈ lw_tbl := wt_5 _ (List.mem_of_getElem? (i := 61) rfl)
theorem wl_32_19 : Cond.methodLink RL 108 yX10_learns ∈ lw_tbl := wt_3 _ (List.mem_of_getElem? (i := 129) rfl)
theorem wl_32_20 : Cond.instanceMethod yX10_learns ∈ lw_tbl := wt_3 _ (List.mem_of_getElem? (i := 130) rfl)
theorem wl_32_21 : Cond.selects RX10 yX10_learns yX10_learns ∈ lw_tbl := wt_3 _ (List.mem_of_getElem? (i := 131) rfl)
theorem wl_32_22 : Cond.code yX10_learns cX10_learns 5 (some .int) ∈ lw_tbl := wt_3 _ (List.mem_of_getElem? (i := 132) rfl)
theorem wl_32_23 : Cond.fieldLink RX10 260 "RoundThrow$Learner" "tries" "I" ∈ lw_tbl := wt_1 _ (List.mem_of_getElem? (i := 210) rfl)
theorem wr_32 : ∀ w ∈ wsL_law_r32, w ∈ lw_tbl ∧ goodWord w = true := List.forall_mem_cons.mpr ⟨⟨wl_32_0, rfl⟩, List.forall_mem_cons.mpr ⟨⟨wl_32_1, rfl⟩, List.forall_mem_cons.mpr ⟨⟨wl_32_2, rfl⟩, List.forall_mem_cons.mpr ⟨⟨wl_32_3, rfl⟩, List.forall_mem_cons.mpr ⟨⟨wl_32_4, rfl⟩, List.forall_mem_cons.mpr ⟨⟨wl_32_5, rfl⟩, List.forall_mem_cons.mpr ⟨⟨wl_32_6, rfl⟩, List.forall_mem_cons.mpr ⟨⟨wl_32_7, rfl⟩, List.forall_mem_cons.mpr ⟨⟨wl_32_8, rfl⟩, List.forall_mem_cons.mpr ⟨⟨wl_32_9, rfl⟩, List.forall_mem_cons.mpr ⟨⟨wl_32_10, rfl⟩, List.forall_mem_cons.mpr ⟨⟨wl_32_11, rfl⟩, List.forall_mem_cons.mpr ⟨⟨wl_32_12, rfl⟩, List.forall_mem_cons.mpr ⟨⟨wl_32_13, rfl⟩, List.forall_mem_cons.mpr ⟨⟨wl_32_14, rfl⟩, List.forall_mem_cons.mpr ⟨⟨wl_32_15, rfl⟩, List.forall_mem_cons.mpr ⟨⟨wl_32_16, rfl⟩, List.forall_mem_cons.mpr ⟨⟨wl_32_17, rfl⟩, List.forall_mem_cons.mpr ⟨⟨wl_32_18, rfl⟩, List.forall_mem_cons.mpr ⟨⟨wl_32_19, rfl⟩, List.forall_mem_cons.mpr ⟨⟨wl_32_20, rfl⟩, List.forall_mem_cons.mpr ⟨⟨wl_32_21, rfl⟩, List.forall_mem_cons.mpr ⟨⟨wl_32_22, rfl⟩, List.forall_mem_cons.mpr ⟨⟨wl_32_23, rfl⟩, fun _ h => absurd h List.not_mem_nil⟩⟩⟩⟩⟩⟩⟩⟩⟩⟩⟩⟩⟩⟩⟩⟩⟩⟩⟩⟩⟩⟩⟩⟩
theorem wl_33_0 : Cond.fieldLink RX10 263 "RoundThrow$Learner" "way" "I" ∈ lw_tbl := wt_1 _ (List.mem_of_getElem? (i := 208) rfl)
theorem wl_33_1 : Cond.methodLink RX10 254 yX10_areTwo ∈ lw_tbl := wt_3 _ (List.mem_of_getElem? (i := 133) rfl)
theorem wl_33_2 : Cond.instanceMethod yX10_areTwo ∈ lw_tbl := wt_3 _ (List.mem_of_getElem? (i := 135) rfl)
theorem wl_33_3 : Cond.selects RX10 yX10_areTwo yX10_areTwo ∈ lw_tbl := ws_1 _ (List.mem_of_getElem? (i := 8) rfl)
theorem wl_33_4 : Cond.code yX10_areTwo cX10_areTwo 3 (some .boolean) ∈ lw_tbl := wt_3 _ (List.mem_of_getElem? (i := 136) rfl)
theorem wl_33_5 : Cond.methodLink RX10 257 yX10_learnsAtFirst ∈ lw_tbl := wt_3 _ (List.mem_of_getElem? (i := 137) rfl)
theorem wl_33_6 : Cond.instanceMethod yX10_learnsAtFirst ∈ lw_tbl := wt_3 _ (List.mem_of_getElem? (i := 139) rfl)
theorem wl_33_7 : Cond.selects RX10 yX10_learnsAtFirst yX10_learnsAtFirst ∈ lw_tbl := ws_1 _ (List.mem_of_getElem? (i := 9) rfl)
theorem wl_33_8 : Cond.code yX10_learnsAtFirst cX10_learnsAtFirst 4 (some .boolean) ∈ lw_tbl := wt_3 _ (List.mem_of_getElem? (i := 140) rfl)
theorem wl_33_9 : Cond.methodLink RX10 276 yX3_aim ∈ lw_tbl := wt_3 _ (List.mem_of_getElem? (i := 141) rfl)
theorem wl_33_10 : Cond.instanceMethod yX3_aim ∈ lw_tbl := wt_3 _ (List.mem_of_getElem? (i := 142) rfl)
theorem wl_33_11 : Cond.selects RX3 yX3_aim yX3_aim ∈ lw_tbl := wt_3 _ (List.mem_of_getElem? (i := 143) rfl)
theorem wl_33_12 : Cond.code yX3_aim cX3_aim 5 none ∈ lw_tbl := wt_3 _ (List.mem_of_getElem? (i := 144) rfl)
theorem wl_33_13 : Cond.fieldLink RX3 9 "RoundThrow$Learner" "way" "I" ∈ lw_tbl := wt_1 _ (List.mem_of_getElem? (i := 207) rfl)
theorem wl_33_14 : Cond.methodLink RX3 15 yX3_product ∈ lw_tbl := wt_3 _ (List.mem_of_getElem? (i := 145) rfl)
theorem wl_33_15 : Cond.static yX3_product ∈ lw_tbl := wt_3 _ (List.mem_of_getElem? (i := 146) rfl)
theorem wl_33_16 : Cond.code yX3_product cX3_product 4 (some .long) ∈ lw_tbl := wt_3 _ (List.mem_of_getElem? (i := 147) rfl)
theorem wl_33_17 : Cond.methodLink RX3 19 yX9_turnX ∈ lw_tbl := wt_3 _ (List.mem_of_getElem? (i := 148) rfl)
theorem wl_33_18 : Cond.methodLink RX3 25 yX9_turnY ∈ lw_tbl := wt_3 _ (List.mem_of_getElem? (i := 149) rfl)
theorem wl_33_19 : Cond.methodLink RX10 266 yX10_tries ∈ lw_tbl := wt_3 _ (List.mem_of_getElem? (i := 150) rfl)
theorem wl_33_20 : Cond.instanceMethod yX10_tries ∈ lw_tbl := wt_3 _ (List.mem_of_getElem? (i := 152) rfl)
theorem wl_33_21 : Cond.selects RX10 yX10_tries yX10_tries ∈ lw_tbl := ws_1 _ (List.mem_of_getElem? (i := 10) rfl)
theorem wl_33_22 : Cond.code yX10_tries cX10_tries 5 (some .boolean) ∈ lw_tbl := wt_3 _ (List.mem_of_getElem? (i := 153) rfl)
theorem wl_33_23 : Cond.methodLink RX10 280 yX3_practise ∈ lw_tbl := wt_3 _ (List.mem_of_getElem? (i := 154) rfl)
theorem wr_33 : ∀ w ∈ wsL_law_r33, w ∈ lw_tbl ∧ goodWord w = true := List.forall_mem_cons.mpr ⟨⟨wl_33_0, rfl⟩, List.forall_mem_cons.mpr ⟨⟨wl_33_1, rfl⟩, List.forall_mem_cons.mpr ⟨⟨wl_33_2, rfl⟩, List.forall_mem_cons.mpr ⟨⟨wl_33_3, rfl⟩, List.forall_mem_cons.mpr ⟨⟨wl_33_4, rfl⟩, List.forall_mem_cons.mpr ⟨⟨wl_33_5, rfl⟩, List.forall_mem_cons.mpr ⟨⟨wl_33_6, rfl⟩, List.forall_mem_cons.mpr ⟨⟨wl_33_7, rfl⟩, List.forall_mem_cons.mpr ⟨⟨wl_33_8, rfl⟩, List.forall_mem_cons.mpr ⟨⟨wl_33_9, rfl⟩, List.forall_mem_cons.mpr ⟨⟨wl_33_10, rfl⟩, List.forall_mem_cons.mpr ⟨⟨wl_33_11, rfl⟩, List.forall_mem_cons.mpr ⟨⟨wl_33_12, rfl⟩, List.forall_mem_cons.mpr ⟨⟨wl_33_13, rfl⟩, List.forall_mem_cons.mpr ⟨⟨wl_33_14, rfl⟩, List.forall_mem_cons.mpr ⟨⟨wl_33_15, rfl⟩, List.forall_mem_cons.mpr ⟨⟨wl_33_16, rfl⟩, List.forall_mem_cons.mpr ⟨⟨wl_33_17, rfl⟩, List.forall_mem_cons.mpr ⟨⟨wl_33_18, rfl⟩, List.forall_mem_cons.mpr ⟨⟨wl_33_19, rfl⟩, List.forall_mem_cons.mpr ⟨⟨wl_33_20, rfl⟩, List.forall_mem_cons.mpr ⟨⟨wl_33_21, rfl⟩, List.forall_mem_cons.mpr ⟨⟨wl_33_22, rfl⟩, List.forall_mem_cons.mpr ⟨⟨wl_33_23, rfl⟩, fun _ h => absurd h List.not_mem_nil⟩⟩⟩⟩⟩⟩⟩⟩⟩⟩⟩⟩⟩⟩⟩⟩⟩⟩⟩⟩⟩⟩⟩⟩
theorem wl_34_0 : Cond.instanceMethod yX3_practise ∈ lw_tbl := wt_3 _ (List.mem_of_getElem? (i := 155) rfl)
theorem wl_34_1 : Cond.selects RX3 yX3_practise yX3_practise ∈ lw_tbl := wt_3 _ (List.mem_of_getElem? (i := 156) rfl)
theorem wl_34_2 : Cond.code yX3_practise cX3_practise 7 (some .boolean) ∈ lw_tbl := wt_3 _ (List.mem_of_getElem? (i := 157) rfl)
theorem wl_34_3 : Cond.fieldLink RX3 28 "RoundThrow$Learner" "tries" "I" ∈ lw_tbl := wt_1 _ (List.mem_of_getElem? (i := 209) rfl)
theorem wl_34_4 : Cond.methodLink RX3 31 yX0_throwAnew ∈ lw_tbl := wt_3 _ (List.mem_of_getElem? (i := 158) rfl)
theorem wl_34_5 : Cond.methodLink RX3 37 yX0_tickCaught ∈ lw_tbl := wt_3 _ (List.mem_of_getElem? (i := 159) rfl)
theorem wl_34_6 : Cond.methodLink RX3 41 yX0_tickNearest ∈ lw_tbl := wt_3 _ (List.mem_of_getElem? (i := 160) rfl)
theorem wl_34_7 : Cond.instanceMethod yX0_tickNearest ∈ lw_tbl := wt_3 _ (List.mem_of_getElem? (i := 161) rfl)
theorem wl_34_8 : Cond.selects RX0 yX0_tickNearest yX0_tickNearest ∈ lw_tbl := wt_3 _ (List.mem_of_getElem? (i := 162) rfl)
theorem wl_34_9 : Cond.code yX0_tickNearest cX0_tickNearest 8 (some .int) ∈ lw_tbl := wt_3 _ (List.mem_of_getElem? (i := 163) rfl)
theorem wl_34_10 : Cond.methodLink RX3 45 yX0_isRightOf ∈ lw_tbl := wt_3 _ (List.mem_of_getElem? (i := 164) rfl)
theorem wl_34_11 : Cond.instanceMethod yX0_isRightOf ∈ lw_tbl := wt_3 _ (List.mem_of_getElem? (i := 165) rfl)
theorem wl_34_12 : Cond.selects RX0 yX0_isRightOf yX0_isRightOf ∈ lw_tbl := wt_3 _ (List.mem_of_getElem? (i := 166) rfl)
theorem wl_34_13 : Cond.code yX0_isRightOf cX0_isRightOf 3 (some .boolean) ∈ lw_tbl := wt_3 _ (List.mem_of_getElem? (i := 167) rfl)
theorem wl_34_14 : Cond.methodLink RX3 49 yJ9_floorMod_7cf53 ∈ lw_tbl := wt_3 _ (List.mem_of_getElem? (i := 168) rfl)
theorem wl_34_15 : Cond.methodLink RL 111 yX11_learns ∈ lw_tbl := wt_5 _ (List.mem_of_getElem? (i := 62) rfl)
theorem wl_34_16 : Cond.instanceMethod yX11_learns ∈ lw_tbl := wt_5 _ (List.mem_of_getElem? (i := 63) rfl)
theorem wl_34_17 : Cond.selects RX11 yX11_learns yX11_learns ∈ lw_tbl := wt_5 _ (List.mem_of_getElem? (i := 64) rfl)
theorem wl_34_18 : Cond.code yX11_learns cX11_learns 6 (some .int) ∈ lw_tbl := wt_5 _ (List.mem_of_getElem? (i := 65) rfl)
theorem wl_34_19 : Cond.fieldLink RX11 252 "RoundThrowModel" "lastWay" "I" ∈ lw_tbl := wt_4 _ (List.mem_of_getElem? (i := 1) rfl)
theorem wl_34_20 : Cond.methodLink RX11 258 yX11_areTwo ∈ lw_tbl := wt_5 _ (List.mem_of_getElem? (i := 66) rfl)
theorem wl_34_21 : Cond.instanceMethod yX11_areTwo ∈ lw_tbl := wt_5 _ (List.mem_of_getElem? (i := 68) rfl)
theorem wl_34_22 : Cond.selects RX11 yX11_areTwo yX11_areTwo ∈ lw_tbl := ws_3 _ (List.mem_of_getElem? (i := 1) rfl)
theorem wl_34_23 : Cond.code yX11_areTwo cX11_areTwo 3 (some .boolean) ∈ lw_tbl := wt_5 _ (List.mem_of_getElem? (i := 69) rfl)
theorem wr_34 : ∀ w ∈ wsL_law_r34, w ∈ lw_tbl ∧ goodWord w = true := List.forall_mem_cons.mpr ⟨⟨wl_34_0, rfl⟩, List.forall_mem_cons.mpr ⟨⟨wl_34_1, rfl⟩, List.forall_mem_cons.mpr ⟨⟨wl_34_2, rfl⟩, List.forall_mem_cons.mpr ⟨⟨wl_34_3, rfl⟩, List.forall_mem_cons.mpr ⟨⟨wl_34_4, rfl⟩, List.forall_mem_cons.mpr ⟨⟨wl_34_5, rfl⟩, List.forall_mem_cons.mpr ⟨⟨wl_34_6, rfl⟩, List.forall_mem_cons.mpr ⟨⟨wl_34_7, rfl⟩, List.forall_mem_cons.mpr ⟨⟨wl_34_8, rfl⟩, List.forall_mem_cons.mpr ⟨⟨wl_34_9, rfl⟩, List.forall_mem_cons.mpr ⟨⟨wl_34_10, rfl⟩, List.forall_mem_cons.mpr ⟨⟨wl_34_11, rfl⟩, List.forall_mem_cons.mpr ⟨⟨wl_34_12, rfl⟩, List.forall_mem_cons.mpr ⟨⟨wl_34_13, rfl⟩, List.forall_mem_cons.mpr ⟨⟨wl_34_14, rfl⟩, List.forall_mem_cons.mpr ⟨⟨wl_34_15, rfl⟩, List.forall_mem_cons.mpr ⟨⟨wl_34_16, rfl⟩, List.forall_mem_cons.mpr ⟨⟨wl_34_17, rfl⟩, List.forall_mem_cons.mpr ⟨⟨wl_34_18, rfl⟩, List.forall_mem_cons.mpr ⟨⟨wl_34_19, rfl⟩, List.forall_mem_cons.mpr ⟨⟨wl_34_20, rfl⟩, List.forall_mem_cons.mpr ⟨⟨wl_34_21, rfl⟩, List.forall_mem_cons.mpr ⟨⟨wl_34_22, rfl⟩, List.forall_mem_cons.mpr ⟨⟨wl_34_23, rfl⟩, fun _ h => absurd h List.not_mem_nil⟩⟩⟩⟩⟩⟩⟩⟩⟩⟩⟩⟩⟩⟩⟩⟩⟩⟩⟩⟩⟩⟩⟩⟩
theorem wl_35_0 : Cond.methodLink RX11 261 yX11_firstWay ∈ lw_tbl := wt_5 _ (List.mem_of_getElem? (i := 70) rfl)
theorem wl_35_1 : Cond.instanceMethod yX11_firstWay ∈ lw_tbl := wt_5 _ (List.mem_of_getElem? (i := 72) rfl)
theorem wl_35_2 : Cond.selects RX11 yX11_firstWay yX11_firstWay ∈ lw_tbl := ws_3 _ (List.mem_of_getElem? (i := 2) rfl)
theorem wl_35_3 : Cond.code yX11_firstWay cX11_firstWay 10 (some .int) ∈ lw_tbl := wt_5 _ (List.mem_of_getElem? (i := 73) rfl)
theorem wl_35_4 : Cond.methodLink RX11 264 yX11_triesFrom ∈ lw_tbl := wt_5 _ (List.mem_of_getElem? (i := 74) rfl)
theorem wl_35_5 : Cond.instanceMethod yX11_triesFrom ∈ lw_tbl := wt_5 _ (List.mem_of_getElem? (i := 76) rfl)
theorem wl_35_6 : Cond.selects RX11 yX11_triesFrom yX11_triesFrom ∈ lw_tbl := ws_3 _ (List.mem_of_getElem? (i := 3) rfl)
theorem wl_35_7 : Cond.code yX11_triesFrom cX11_triesFrom 6 (some .int) ∈ lw_tbl := wt_5 _ (List.mem_of_getElem? (i := 77) rfl)
theorem wl_35_8 : Cond.methodLink RX11 255 yX11_nextWay ∈ lw_tbl := wt_5 _ (List.mem_of_getElem? (i := 78) rfl)
theorem wl_35_9 : Cond.instanceMethod yX11_nextWay ∈ lw_tbl := wt_5 _ (List.mem_of_getElem? (i := 80) rfl)
theorem wl_35_10 : Cond.selects RX11 yX11_nextWay yX11_nextWay ∈ lw_tbl := ws_3 _ (List.mem_of_getElem? (i := 4) rfl)
theorem wl_35_11 : Cond.code yX11_nextWay cX11_nextWay 7 (some .int) ∈ lw_tbl := wt_5 _ (List.mem_of_getElem? (i := 81) rfl)
theorem wl_35_12 : Cond.methodLink RL 112 yX10_along ∈ lw_tbl := wt_3 _ (List.mem_of_getElem? (i := 169) rfl)
theorem wl_35_13 : Cond.instanceMethod yX10_along ∈ lw_tbl := wt_3 _ (List.mem_of_getElem? (i := 170) rfl)
theorem wl_35_14 : Cond.selects RX10 yX10_along yX10_along ∈ lw_tbl := wt_3 _ (List.mem_of_getElem? (i := 171) rfl)
theorem wl_35_15 : Cond.code yX10_along cX10_along 5 (some .int) ∈ lw_tbl := wt_3 _ (List.mem_of_getElem? (i := 172) rfl)
theorem wl_35_16 : Cond.methodLink RL 115 yX11_along ∈ lw_tbl := wt_5 _ (List.mem_of_getElem? (i := 82) rfl)
theorem wl_35_17 : Cond.instanceMethod yX11_along ∈ lw_tbl := wt_5 _ (List.mem_of_getElem? (i := 83) rfl)
theorem wl_35_18 : Cond.selects RX11 yX11_along yX11_along ∈ lw_tbl := wt_5 _ (List.mem_of_getElem? (i := 84) rfl)
theorem wl_35_19 : Cond.code yX11_along cX11_along 7 (some .int) ∈ lw_tbl := wt_5 _ (List.mem_of_getElem? (i := 85) rfl)
theorem wl_35_20 : Cond.constantLong RX11 267 (198) ∈ lw_tbl := wt_5 _ (List.mem_of_getElem? (i := 86) rfl)
theorem wl_35_21 : Cond.methodLink RL 116 yX10_image ∈ lw_tbl := wt_3 _ (List.mem_of_getElem? (i := 173) rfl)
theorem wl_35_22 : Cond.instanceMethod yX10_image ∈ lw_tbl := wt_3 _ (List.mem_of_getElem? (i := 174) rfl)
theorem wl_35_23 : Cond.selects RX10 yX10_image yX10_image ∈ lw_tbl := wt_3 _ (List.mem_of_getElem? (i := 175) rfl)
theorem wr_35 : ∀ w ∈ wsL_law_r35, w ∈ lw_tbl ∧ goodWord w = true := List.forall_mem_cons.mpr ⟨⟨wl_35_0, rfl⟩, List.forall_mem_cons.mpr ⟨⟨wl_35_1, rfl⟩, List.forall_mem_cons.mpr ⟨⟨wl_35_2, rfl⟩, List.forall_mem_cons.mpr ⟨⟨wl_35_3, rfl⟩, List.forall_mem_cons.mpr ⟨⟨wl_35_4, rfl⟩, List.forall_mem_cons.mpr ⟨⟨wl_35_5, rfl⟩, List.forall_mem_cons.mpr ⟨⟨wl_35_6, rfl⟩, List.forall_mem_cons.mpr ⟨⟨wl_35_7, rfl⟩, List.forall_mem_cons.mpr ⟨⟨wl_35_8, rfl⟩, List.forall_mem_cons.mpr ⟨⟨wl_35_9, rfl⟩, List.forall_mem_cons.mpr ⟨⟨wl_35_10, rfl⟩, List.forall_mem_cons.mpr ⟨⟨wl_35_11, rfl⟩, List.forall_mem_cons.mpr ⟨⟨wl_35_12, rfl⟩, List.forall_mem_cons.mpr ⟨⟨wl_35_13, rfl⟩, List.forall_mem_cons.mpr ⟨⟨wl_35_14, rfl⟩, List.forall_mem_cons.mpr ⟨⟨wl_35_15, rfl⟩, List.forall_mem_cons.mpr ⟨⟨wl_35_16, rfl⟩, List.forall_mem_cons.mpr ⟨⟨wl_35_17, rfl⟩, List.forall_mem_cons.mpr ⟨⟨wl_35_18, rfl⟩, List.forall_mem_cons.mpr ⟨⟨wl_35_19, rfl⟩, List.forall_mem_cons.mpr ⟨⟨wl_35_20, rfl⟩, List.forall_mem_cons.mpr ⟨⟨wl_35_21, rfl⟩, List.forall_mem_cons.mpr ⟨⟨wl_35_22, rfl⟩, List.forall_mem_cons.mpr ⟨⟨wl_35_23, rfl⟩, fun _ h => absurd h List.not_mem_nil⟩⟩⟩⟩⟩⟩⟩⟩⟩⟩⟩⟩⟩⟩⟩⟩⟩⟩⟩⟩⟩⟩⟩⟩
theorem wl_36_0 : Cond.code yX10_image cX10_image 2 (some .int) ∈ lw_tbl := wt_3 _ (List.mem_of_getElem? (i := 176) rfl)
theorem wl_36_1 : Cond.methodLink RX10 269 yX10_isImage ∈ lw_tbl := wt_3 _ (List.mem_of_getElem? (i := 177) rfl)
theorem wl_36_2 : Cond.static yX10_isImage ∈ lw_tbl := wt_3 _ (List.mem_of_getElem? (i := 178) rfl)
theorem wl_36_3 : Cond.code yX10_isImage cX10_isImage 1 (some .boolean) ∈ lw_tbl := wt_3 _ (List.mem_of_getElem? (i := 179) rfl)
theorem wl_36_4 : Cond.methodLink RX10 272 yX7_become ∈ lw_tbl := wt_3 _ (List.mem_of_getElem? (i := 180) rfl)
theorem wl_36_5 : Cond.instanceMethod yX7_become ∈ lw_tbl := wt_3 _ (List.mem_of_getElem? (i := 181) rfl)
theorem wl_36_6 : Cond.selects RX7 yX7_become yX7_become ∈ lw_tbl := wt_3 _ (List.mem_of_getElem? (i := 182) rfl)
theorem wl_36_7 : Cond.code yX7_become cX7_become 2 none ∈ lw_tbl := wt_3 _ (List.mem_of_getElem? (i := 183) rfl)
theorem wl_36_8 : Cond.methodLink RX7 66 arraycopyName ∈ lw_tbl := wt_3 _ (List.mem_of_getElem? (i := 184) rfl)
theorem wl_36_9 : Cond.native arraycopyName ∈ lw_tbl := wt_3 _ (List.mem_of_getElem? (i := 186) rfl)
theorem wl_36_10 : Cond.static arraycopyName ∈ lw_tbl := wt_3 _ (List.mem_of_getElem? (i := 185) rfl)
theorem wl_36_11 : Cond.initialized "java/lang/System" ∈ lw_tbl := wt_1 _ (List.mem_of_getElem? (i := 16) rfl)
theorem wl_36_12 : Cond.methodLink RX7 72 yX6_become ∈ lw_tbl := wt_3 _ (List.mem_of_getElem? (i := 187) rfl)
theorem wl_36_13 : Cond.instanceMethod yX6_become ∈ lw_tbl := wt_3 _ (List.mem_of_getElem? (i := 188) rfl)
theorem wl_36_14 : Cond.selects RX6 yX6_become yX6_become ∈ lw_tbl := wt_3 _ (List.mem_of_getElem? (i := 189) rfl)
theorem wl_36_15 : Cond.code yX6_become cX6_become 2 none ∈ lw_tbl := wt_3 _ (List.mem_of_getElem? (i := 190) rfl)
theorem wl_36_16 : Cond.methodLink RX6 50 arraycopyName ∈ lw_tbl := wt_3 _ (List.mem_of_getElem? (i := 191) rfl)
theorem wl_36_17 : Cond.methodLink RX7 76 yX2_become ∈ lw_tbl := wt_3 _ (List.mem_of_getElem? (i := 192) rfl)
theorem wl_36_18 : Cond.instanceMethod yX2_become ∈ lw_tbl := wt_3 _ (List.mem_of_getElem? (i := 193) rfl)
theorem wl_36_19 : Cond.selects RX2 yX2_become yX2_become ∈ lw_tbl := wt_3 _ (List.mem_of_getElem? (i := 194) rfl)
theorem wl_36_20 : Cond.code yX2_become cX2_become 2 none ∈ lw_tbl := wt_3 _ (List.mem_of_getElem? (i := 195) rfl)
theorem wl_36_21 : Cond.methodLink RX2 57 arraycopyName ∈ lw_tbl := wt_3 _ (List.mem_of_getElem? (i := 196) rfl)
theorem wl_36_22 : Cond.methodLink RL 119 yX11_image ∈ lw_tbl := wt_5 _ (List.mem_of_getElem? (i := 87) rfl)
theorem wl_36_23 : Cond.instanceMethod yX11_image ∈ lw_tbl := wt_5 _ (List.mem_of_getElem? (i := 88) rfl)
theorem wr_36 : ∀ w ∈ wsL_law_r36, w ∈ lw_tbl ∧ goodWord w = true := List.forall_mem_cons.mpr ⟨⟨wl_36_0, rfl⟩, List.forall_mem_cons.mpr ⟨⟨wl_36_1, rfl⟩, List.forall_mem_cons.mpr ⟨⟨wl_36_2, rfl⟩, List.forall_mem_cons.mpr ⟨⟨wl_36_3, rfl⟩, List.forall_mem_cons.mpr ⟨⟨wl_36_4, rfl⟩, List.forall_mem_cons.mpr ⟨⟨wl_36_5, rfl⟩, List.forall_mem_cons.mpr ⟨⟨wl_36_6, rfl⟩, List.forall_mem_cons.mpr ⟨⟨wl_36_7, rfl⟩, List.forall_mem_cons.mpr ⟨⟨wl_36_8, rfl⟩, List.forall_mem_cons.mpr ⟨⟨wl_36_9, rfl⟩, List.forall_mem_cons.mpr ⟨⟨wl_36_10, rfl⟩, List.forall_mem_cons.mpr ⟨⟨wl_36_11, rfl⟩, List.forall_mem_cons.mpr ⟨⟨wl_36_12, rfl⟩, List.forall_mem_cons.mpr ⟨⟨wl_36_13, rfl⟩, List.forall_mem_cons.mpr ⟨⟨wl_36_14, rfl⟩, List.forall_mem_cons.mpr ⟨⟨wl_36_15, rfl⟩, List.forall_mem_cons.mpr ⟨⟨wl_36_16, rfl⟩, List.forall_mem_cons.mpr ⟨⟨wl_36_17, rfl⟩, List.forall_mem_cons.mpr ⟨⟨wl_36_18, rfl⟩, List.forall_mem_cons.mpr ⟨⟨wl_36_19, rfl⟩, List.forall_mem_cons.mpr ⟨⟨wl_36_20, rfl⟩, List.forall_mem_cons.mpr ⟨⟨wl_36_21, rfl⟩, List.forall_mem_cons.mpr ⟨⟨wl_36_22, rfl⟩, List.forall_mem_cons.mpr ⟨⟨wl_36_23, rfl⟩, fun _ h => absurd h List.not_mem_nil⟩⟩⟩⟩⟩⟩⟩⟩⟩⟩⟩⟩⟩⟩⟩⟩⟩⟩⟩⟩⟩⟩⟩⟩
theorem wl_37_0 : Cond.selects RX11 yX11_image yX11_image ∈ lw_tbl := wt_5 _ (List.mem_of_getElem? (i := 89) rfl)
theorem wl_37_1 : Cond.code yX11_image cX11_image 2 (some .int) ∈ lw_tbl := wt_5 _ (List.mem_of_getElem? (i := 90) rfl)
theorem wl_37_2 : Cond.fieldLink RX11 273 "RoundThrowModel" "keptAt" "I" ∈ lw_tbl := wt_4 _ (List.mem_of_getElem? (i := 4) rfl)
theorem wl_37_3 : Cond.fieldLink RX11 269 "RoundThrowModel" "isWriting" "Z" ∈ lw_tbl := wt_4 _ (List.mem_of_getElem? (i := 5) rfl)
theorem wl_37_4 : Cond.methodLink RX11 279 yX11_passAll ∈ lw_tbl := wt_5 _ (List.mem_of_getElem? (i := 91) rfl)
theorem wl_37_5 : Cond.instanceMethod yX11_passAll ∈ lw_tbl := wt_5 _ (List.mem_of_getElem? (i := 93) rfl)
theorem wl_37_6 : Cond.selects RX11 yX11_passAll yX11_passAll ∈ lw_tbl := ws_3 _ (List.mem_of_getElem? (i := 5) rfl)
theorem wl_37_7 : Cond.code yX11_passAll cX11_passAll 2 none ∈ lw_tbl := wt_5 _ (List.mem_of_getElem? (i := 94) rfl)
theorem wl_37_8 : Cond.methodLink RX11 276 yX11_pass ∈ lw_tbl := wt_5 _ (List.mem_of_getElem? (i := 95) rfl)
theorem wl_37_9 : Cond.instanceMethod yX11_pass ∈ lw_tbl := wt_5 _ (List.mem_of_getElem? (i := 97) rfl)
theorem wl_37_10 : Cond.selects RX11 yX11_pass yX11_pass ∈ lw_tbl := ws_3 _ (List.mem_of_getElem? (i := 6) rfl)
theorem wl_37_11 : Cond.code yX11_pass cX11_pass 3 (some .int) ∈ lw_tbl := wt_5 _ (List.mem_of_getElem? (i := 98) rfl)
theorem wl_37_12 : Cond.methodLink RL 120 yX10_restore ∈ lw_tbl := wt_3 _ (List.mem_of_getElem? (i := 197) rfl)
theorem wl_37_13 : Cond.instanceMethod yX10_restore ∈ lw_tbl := wt_3 _ (List.mem_of_getElem? (i := 198) rfl)
theorem wl_37_14 : Cond.selects RX10 yX10_restore yX10_restore ∈ lw_tbl := wt_3 _ (List.mem_of_getElem? (i := 199) rfl)
theorem wl_37_15 : Cond.code yX10_restore cX10_restore 2 (some .int) ∈ lw_tbl := wt_3 _ (List.mem_of_getElem? (i := 200) rfl)
theorem wl_37_16 : Cond.methodLink RL 123 yX11_restore ∈ lw_tbl := wt_5 _ (List.mem_of_getElem? (i := 99) rfl)
theorem wl_37_17 : Cond.instanceMethod yX11_restore ∈ lw_tbl := wt_5 _ (List.mem_of_getElem? (i := 100) rfl)
theorem wl_37_18 : Cond.selects RX11 yX11_restore yX11_restore ∈ lw_tbl := wt_5 _ (List.mem_of_getElem? (i := 101) rfl)
theorem wl_37_19 : Cond.code yX11_restore cX11_restore 2 (some .int) ∈ lw_tbl := wt_5 _ (List.mem_of_getElem? (i := 102) rfl)
theorem wl_37_20 : Cond.methodLink RL 124 yX10_told ∈ lw_tbl := wt_3 _ (List.mem_of_getElem? (i := 201) rfl)
theorem wl_37_21 : Cond.instanceMethod yX10_told ∈ lw_tbl := wt_3 _ (List.mem_of_getElem? (i := 202) rfl)
theorem wl_37_22 : Cond.selects RX10 yX10_told yX10_told ∈ lw_tbl := wt_3 _ (List.mem_of_getElem? (i := 203) rfl)
theorem wl_37_23 : Cond.code yX10_told cX10_told 2 (some .int) ∈ lw_tbl := wt_3 _ (List.mem_of_getElem? (i := 204) rfl)
theorem wr_37 : ∀ w ∈ wsL_law_r37, w ∈ lw_tbl ∧ goodWord w = true := List.forall_mem_cons.mpr ⟨⟨wl_37_0, rfl⟩, List.forall_mem_cons.mpr ⟨⟨wl_37_1, rfl⟩, List.forall_mem_cons.mpr ⟨⟨wl_37_2, rfl⟩, List.forall_mem_cons.mpr ⟨⟨wl_37_3, rfl⟩, List.forall_mem_cons.mpr ⟨⟨wl_37_4, rfl⟩, List.forall_mem_cons.mpr ⟨⟨wl_37_5, rfl⟩, List.forall_mem_cons.mpr ⟨⟨wl_37_6, rfl⟩, List.forall_mem_cons.mpr ⟨⟨wl_37_7, rfl⟩, List.forall_mem_cons.mpr ⟨⟨wl_37_8, rfl⟩, List.forall_mem_cons.mpr ⟨⟨wl_37_9, rfl⟩, List.forall_mem_cons.mpr ⟨⟨wl_37_10, rfl⟩, List.forall_mem_cons.mpr ⟨⟨wl_37_11, rfl⟩, List.forall_mem_cons.mpr ⟨⟨wl_37_12, rfl⟩, List.forall_mem_cons.mpr ⟨⟨wl_37_13, rfl⟩, List.forall_mem_cons.mpr ⟨⟨wl_37_14, rfl⟩, List.forall_mem_cons.mpr ⟨⟨wl_37_15, rfl⟩, List.forall_mem_cons.mpr ⟨⟨wl_37_16, rfl⟩, List.forall_mem_cons.mpr ⟨⟨wl_37_17, rfl⟩, List.forall_mem_cons.mpr ⟨⟨wl_37_18, rfl⟩, List.forall_mem_cons.mpr ⟨⟨wl_37_19, rfl⟩, List.forall_mem_cons.mpr ⟨⟨wl_37_20, rfl⟩, List.forall_mem_cons.mpr ⟨⟨wl_37_21, rfl⟩, List.forall_mem_cons.mpr ⟨⟨wl_37_22, rfl⟩, List.forall_mem_cons.mpr ⟨⟨wl_37_23, rfl⟩, fun _ h => absurd h List.not_mem_nil⟩⟩⟩⟩⟩⟩⟩⟩⟩⟩⟩⟩⟩⟩⟩⟩⟩⟩⟩⟩⟩⟩⟩⟩
theorem wl_38_0 : Cond.methodLink RL 127 yX11_told ∈ lw_tbl := wt_5 _ (List.mem_of_getElem? (i := 103) rfl)
theorem wl_38_1 : Cond.instanceMethod yX11_told ∈ lw_tbl := wt_5 _ (List.mem_of_getElem? (i := 104) rfl)
theorem wl_38_2 : Cond.selects RX11 yX11_told yX11_told ∈ lw_tbl := wt_5 _ (List.mem_of_getElem? (i := 105) rfl)
theorem wl_38_3 : Cond.code yX11_told cX11_told 2 (some .int) ∈ lw_tbl := wt_5 _ (List.mem_of_getElem? (i := 106) rfl)
theorem wl_38_4 : Cond.constantLong RX11 282 (8) ∈ lw_tbl := wt_5 _ (List.mem_of_getElem? (i := 107) rfl)
theorem wr_38 : ∀ w ∈ wsL_law_r38, w ∈ lw_tbl ∧ goodWord w = true := List.forall_mem_cons.mpr ⟨⟨wl_38_0, rfl⟩, List.forall_mem_cons.mpr ⟨⟨wl_38_1, rfl⟩, List.forall_mem_cons.mpr ⟨⟨wl_38_2, rfl⟩, List.forall_mem_cons.mpr ⟨⟨wl_38_3, rfl⟩, List.forall_mem_cons.mpr ⟨⟨wl_38_4, rfl⟩, fun _ h => absurd h List.not_mem_nil⟩⟩⟩⟩⟩
theorem wu_RX10_0 : u_lay RX10 TX10 0 ∈ lw_tbl := wt_1 _ (List.mem_of_getElem? (i := 224) rfl)
theorem wu_RX10_1 : u_lay RX10 TX10 1 ∈ lw_tbl := wt_1 _ (List.mem_of_getElem? (i := 226) rfl)
theorem wu_RX10_2 : u_lay RX10 TX10 2 ∈ lw_tbl := wt_1 _ (List.mem_of_getElem? (i := 228) rfl)
theorem wu_RX10_3 : u_lay RX10 TX10 3 ∈ lw_tbl := wt_1 _ (List.mem_of_getElem? (i := 230) rfl)
theorem wu_RX10_4 : u_lay RX10 TX10 4 ∈ lw_tbl := wt_1 _ (List.mem_of_getElem? (i := 232) rfl)
theorem wu_RX10_5 : u_lay RX10 TX10 5 ∈ lw_tbl := wt_1 _ (List.mem_of_getElem? (i := 234) rfl)
theorem wu_RX10_6 : u_lay RX10 TX10 6 ∈ lw_tbl := wt_1 _ (List.mem_of_getElem? (i := 236) rfl)
theorem wu_RX10_7 : u_lay RX10 TX10 7 ∈ lw_tbl := wt_1 _ (List.mem_of_getElem? (i := 238) rfl)
theorem wv_RX10 : ∀ w ∈ u_ws RX10 TX10 8, w ∈ lw_tbl ∧ goodWord w = true := List.forall_mem_cons.mpr ⟨⟨wu_RX10_0, rfl⟩, List.forall_mem_cons.mpr ⟨⟨wu_RX10_1, rfl⟩, List.forall_mem_cons.mpr ⟨⟨wu_RX10_2, rfl⟩, List.forall_mem_cons.mpr ⟨⟨wu_RX10_3, rfl⟩, List.forall_mem_cons.mpr ⟨⟨wu_RX10_4, rfl⟩, List.forall_mem_cons.mpr ⟨⟨wu_RX10_5, rfl⟩, List.forall_mem_cons.mpr ⟨⟨wu_RX10_6, rfl⟩, List.forall_mem_cons.mpr ⟨⟨wu_RX10_7, rfl⟩, fun _ h => absurd h List.not_mem_nil⟩⟩⟩⟩⟩⟩⟩⟩
theorem wu_RX11_0 : u_lay RX11 TX11 0 ∈ lw_tbl := wt_4 _ (List.mem_of_getElem? (i := 6) rfl)
theorem wu_RX11_1 : u_lay RX11 TX11 1 ∈ lw_tbl := wt_4 _ (List.mem_of_getElem? (i := 8) rfl)
theorem wu_RX11_2 : u_lay RX11 TX11 2 ∈ lw_tbl := wt_4 _ (List.mem_of_getElem? (i := 10) rfl)
theorem wu_RX11_3 : u_lay RX11 TX11 3 ∈ lw_tbl := wt_4 _ (List.mem_of_getElem? (i := 12) rfl)
theorem wu_RX11_4 : u_lay RX11 TX11 4 ∈ lw_tbl := wt_4 _ (List.mem_of_getElem? (i := 14) rfl)
theorem wu_RX11_5 : u_lay RX11 TX11 5 ∈ lw_tbl := wt_4 _ (List.mem_of_getElem? (i := 16) rfl)
theorem wu_RX11_6 : u_lay RX11 TX11 6 ∈ lw_tbl := wt_4 _ (List.mem_of_getElem? (i := 18) rfl)
theorem wu_RX11_7 : u_lay RX11 TX11 7 ∈ lw_tbl := wt_4 _ (List.mem_of_getElem? (i := 20) rfl)
theorem wu_RX11_8 : u_lay RX11 TX11 8 ∈ lw_tbl := wt_4 _ (List.mem_of_getElem? (i := 22) rfl)
theorem wu_RX11_9 : u_lay RX11 TX11 9 ∈ lw_tbl := wt_4 _ (List.mem_of_getElem? (i := 24) rfl)
theorem wu_RX11_10 : u_lay RX11 TX11 10 ∈ lw_tbl := wt_4 _ (List.mem_of_getElem? (i := 26) rfl)
theorem wu_RX11_11 : u_lay RX11 TX11 11 ∈ lw_tbl := wt_4 _ (List.mem_of_getElem? (i := 28) rfl)
theorem wu_RX11_12 : u_lay RX11 TX11 12 ∈ lw_tbl := wt_4 _ (List.mem_of_getElem? (i := 30) rfl)
theorem wu_RX11_13 : u_lay RX11 TX11 13 ∈ lw_tbl := wt_4 _ (List.mem_of_getElem? (i := 32) rfl)
theorem wu_RX11_14 : u_lay RX11 TX11 14 ∈ lw_tbl := wt_4 _ (List.mem_of_getElem? (i := 34) rfl)
theorem wu_RX11_15 : u_lay RX11 TX11 15 ∈ lw_tbl := wt_4 _ (List.mem_of_getElem? (i := 36) rfl)
theorem wu_RX11_16 : u_lay RX11 TX11 16 ∈ lw_tbl := wt_4 _ (List.mem_of_getElem? (i := 38) rfl)
theorem wu_RX11_17 : u_lay RX11 TX11 17 ∈ lw_tbl := wt_4 _ (List.mem_of_getElem? (i := 40) rfl)
theorem wu_RX11_18 : u_lay RX11 TX11 18 ∈ lw_tbl := wt_4 _ (List.mem_of_getElem? (i := 42) rfl)
theorem wu_RX11_19 : u_lay RX11 TX11 19 ∈ lw_tbl := wt_4 _ (List.mem_of_getElem? (i := 44) rfl)
theorem wu_RX11_20 : u_lay RX11 TX11 20 ∈ lw_tbl := wt_4 _ (List.mem_of_getElem? (i := 46) rfl)
theorem wu_RX11_21 : u_lay RX11 TX11 21 ∈ lw_tbl := wt_4 _ (List.mem_of_getElem? (i := 48) rfl)
theorem wu_RX11_22 : u_lay RX11 TX11 22 ∈ lw_tbl := wt_4 _ (List.mem_of_getElem? (i := 50) rfl)
theorem wu_RX11_23 : u_lay RX11 TX11 23 ∈ lw_tbl := wt_4 _ (List.mem_of_getElem? (i := 52) rfl)
theorem wu_RX11_24 : u_lay RX11 TX11 24 ∈ lw_tbl := wt_4 _ (List.mem_of_getElem? (i := 54) rfl)
theorem wu_RX11_25 : u_lay RX11 TX11 25 ∈ lw_tbl := wt_4 _ (List.mem_of_getElem? (i := 56) rfl)
theorem wu_RX11_26 : u_lay RX11 TX11 26 ∈ lw_tbl := wt_4 _ (List.mem_of_getElem? (i := 58) rfl)
theorem wu_RX11_27 : u_lay RX11 TX11 27 ∈ lw_tbl := wt_4 _ (List.mem_of_getElem? (i := 60) rfl)
theorem wu_RX11_28 : u_lay RX11 TX11 28 ∈ lw_tbl := wt_4 _ (List.mem_of_getElem? (i := 62) rfl)
theorem wu_RX11_29 : u_lay RX11 TX11 29 ∈ lw_tbl := wt_4 _ (List.mem_of_getElem? (i := 64) rfl)
theorem wu_RX11_30 : u_lay RX11 TX11 30 ∈ lw_tbl := wt_4 _ (List.mem_of_getElem? (i := 66) rfl)
theorem wu_RX11_31 : u_lay RX11 TX11 31 ∈ lw_tbl := wt_4 _ (List.mem_of_getElem? (i := 68) rfl)
theorem wu_RX11_32 : u_lay RX11 TX11 32 ∈ lw_tbl := wt_4 _ (List.mem_of_getElem? (i := 70) rfl)
theorem wu_RX11_33 : u_lay RX11 TX11 33 ∈ lw_tbl := wt_4 _ (List.mem_of_getElem? (i := 72) rfl)
theorem wu_RX11_34 : u_lay RX11 TX11 34 ∈ lw_tbl := wt_4 _ (List.mem_of_getElem? (i := 74) rfl)
theorem wv_RX11 : ∀ w ∈ u_ws RX11 TX11 35, w ∈ lw_tbl ∧ goodWord w = true := List.forall_mem_cons.mpr ⟨⟨wu_RX11_0, rfl⟩, List.forall_mem_cons.mpr ⟨⟨wu_RX11_1, rfl⟩, List.forall_mem_cons.mpr ⟨⟨wu_RX11_2, rfl⟩, List.forall_mem_cons.mpr ⟨⟨wu_RX11_3, rfl⟩, List.forall_mem_cons.mpr ⟨⟨wu_RX11_4, rfl⟩, List.forall_mem_cons.mpr ⟨⟨wu_RX11_5, rfl⟩, List.forall_mem_cons.mpr ⟨⟨wu_RX11_6, rfl⟩, List.forall_mem_cons.mpr ⟨⟨wu_RX11_7, rfl⟩, List.forall_mem_cons.mpr ⟨⟨wu_RX11_8, rfl⟩, List.forall_mem_cons.mpr ⟨⟨wu_RX11_9, rfl⟩, List.forall_mem_cons.mpr ⟨⟨wu_RX11_10, rfl⟩, List.forall_mem_cons.mpr ⟨⟨wu_RX11_11, rfl⟩, List.forall_mem_cons.mpr ⟨⟨wu_RX11_12, rfl⟩, List.forall_mem_cons.mpr ⟨⟨wu_RX11_13, rfl⟩, List.forall_mem_cons.mpr ⟨⟨wu_RX11_14, rfl⟩, List.forall_mem_cons.mpr ⟨⟨wu_RX11_15, rfl⟩, List.forall_mem_cons.mpr ⟨⟨wu_RX11_16, rfl⟩, List.forall_mem_cons.mpr ⟨⟨wu_RX11_17, rfl⟩, List.forall_mem_cons.mpr ⟨⟨wu_RX11_18, rfl⟩, List.forall_mem_cons.mpr ⟨⟨wu_RX11_19, rfl⟩, List.forall_mem_cons.mpr ⟨⟨wu_RX11_20, rfl⟩, List.forall_mem_cons.mpr ⟨⟨wu_RX11_21, rfl⟩, List.forall_mem_cons.mpr ⟨⟨wu_RX11_22, rfl⟩, List.forall_mem_cons.mpr ⟨⟨wu_RX11_23, rfl⟩, List.forall_mem_cons.mpr ⟨⟨wu_RX11_24, rfl⟩, List.forall_mem_cons.mpr ⟨⟨wu_RX11_25, rfl⟩, List.forall_mem_cons.mpr ⟨⟨wu_RX11_26, rfl⟩, List.forall_mem_cons.mpr ⟨⟨wu_RX11_27, rfl⟩, List.forall_mem_cons.mpr ⟨⟨wu_RX11_28, rfl⟩, List.forall_mem_cons.mpr ⟨⟨wu_RX11_29, rfl⟩, List.forall_mem_cons.mpr ⟨⟨wu_RX11_30, rfl⟩, List.forall_mem_cons.mpr ⟨⟨wu_RX11_31, rfl⟩, List.forall_mem_cons.mpr ⟨⟨wu_RX11_32, rfl⟩, List.forall_mem_cons.mpr ⟨⟨wu_RX11_33, rfl⟩, List.forall_mem_cons.mpr ⟨⟨wu_RX11_34, rfl⟩, fun _ h => absurd h List.not_mem_nil⟩⟩⟩⟩⟩⟩⟩⟩⟩⟩⟩⟩⟩⟩⟩⟩⟩⟩⟩⟩⟩⟩⟩⟩⟩⟩⟩⟩⟩⟩⟩⟩⟩⟩⟩
theorem wu_RX4_0 : u_lay RX4 TX4 0 ∈ lw_tbl := wt_1 _ (List.mem_of_getElem? (i := 36) rfl)
theorem wu_RX4_1 : u_lay RX4 TX4 1 ∈ lw_tbl := wt_1 _ (List.mem_of_getElem? (i := 38) rfl)
theorem wv_RX4 : ∀ w ∈ u_ws RX4 TX4 2, w ∈ lw_tbl ∧ goodWord w = true := List.forall_mem_cons.mpr ⟨⟨wu_RX4_0, rfl⟩, List.forall_mem_cons.mpr ⟨⟨wu_RX4_1, rfl⟩, fun _ h => absurd h List.not_mem_nil⟩⟩
theorem wu_RX7_0 : u_lay RX7 TX7 0 ∈ lw_tbl := wt_1 _ (List.mem_of_getElem? (i := 107) rfl)
theorem wu_RX7_1 : u_lay RX7 TX7 1 ∈ lw_tbl := wt_1 _ (List.mem_of_getElem? (i := 109) rfl)
theorem wu_RX7_2 : u_lay RX7 TX7 2 ∈ lw_tbl := wt_1 _ (List.mem_of_getElem? (i := 111) rfl)
theorem wu_RX7_3 : u_lay RX7 TX7 3 ∈ lw_tbl := wt_1 _ (List.mem_of_getElem? (i := 113) rfl)
theorem wu_RX7_4 : u_lay RX7 TX7 4 ∈ lw_tbl := wt_1 _ (List.mem_of_getElem? (i := 115) rfl)
theorem wu_RX7_5 : u_lay RX7 TX7 5 ∈ lw_tbl := wt_1 _ (List.mem_of_getElem? (i := 117) rfl)
theorem wv_RX7 : ∀ w ∈ u_ws RX7 TX7 6, w ∈ lw_tbl ∧ goodWord w = true := List.forall_mem_cons.mpr ⟨⟨wu_RX7_0, rfl⟩, List.forall_mem_cons.mpr ⟨⟨wu_RX7_1, rfl⟩, List.forall_mem_cons.mpr ⟨⟨wu_RX7_2, rfl⟩, List.forall_mem_cons.mpr ⟨⟨wu_RX7_3, rfl⟩, List.forall_mem_cons.mpr ⟨⟨wu_RX7_4, rfl⟩, List.forall_mem_cons.mpr ⟨⟨wu_RX7_5, rfl⟩, fun _ h => absurd h List.not_mem_nil⟩⟩⟩⟩⟩⟩
theorem wu_RX5_0 : u_lay RX5 TX5 0 ∈ lw_tbl := wt_1 _ (List.mem_of_getElem? (i := 131) rfl)
theorem wu_RX5_1 : u_lay RX5 TX5 1 ∈ lw_tbl := wt_1 _ (List.mem_of_getElem? (i := 133) rfl)
theorem wv_RX5 : ∀ w ∈ u_ws RX5 TX5 2, w ∈ lw_tbl ∧ goodWord w = true := List.forall_mem_cons.mpr ⟨⟨wu_RX5_0, rfl⟩, List.forall_mem_cons.mpr ⟨⟨wu_RX5_1, rfl⟩, fun _ h => absurd h List.not_mem_nil⟩⟩
theorem wu_RX0_0 : u_lay RX0 TX0 0 ∈ lw_tbl := wt_1 _ (List.mem_of_getElem? (i := 150) rfl)
theorem wu_RX0_1 : u_lay RX0 TX0 1 ∈ lw_tbl := wt_1 _ (List.mem_of_getElem? (i := 152) rfl)
theorem wu_RX0_2 : u_lay RX0 TX0 2 ∈ lw_tbl := wt_1 _ (List.mem_of_getElem? (i := 154) rfl)
theorem wu_RX0_3 : u_lay RX0 TX0 3 ∈ lw_tbl := wt_1 _ (List.mem_of_getElem? (i := 156) rfl)
theorem wu_RX0_4 : u_lay RX0 TX0 4 ∈ lw_tbl := wt_1 _ (List.mem_of_getElem? (i := 158) rfl)
theorem wu_RX0_5 : u_lay RX0 TX0 5 ∈ lw_tbl := wt_1 _ (List.mem_of_getElem? (i := 160) rfl)
theorem wv_RX0 : ∀ w ∈ u_ws RX0 TX0 6, w ∈ lw_tbl ∧ goodWord w = true := List.forall_mem_cons.mpr ⟨⟨wu_RX0_0, rfl⟩, List.forall_mem_cons.mpr ⟨⟨wu_RX0_1, rfl⟩, List.forall_mem_cons.mpr ⟨⟨wu_RX0_2, rfl⟩, List.forall_mem_cons.mpr ⟨⟨wu_RX0_3, rfl⟩, List.forall_mem_cons.mpr ⟨⟨wu_RX0_4, rfl⟩, List.forall_mem_cons.mpr ⟨⟨wu_RX0_5, rfl⟩, fun _ h => absurd h List.not_mem_nil⟩⟩⟩⟩⟩⟩
theorem wu_RX8_0 : u_lay RX8 TX8 0 ∈ lw_tbl := wt_1 _ (List.mem_of_getElem? (i := 173) rfl)
theorem wu_RX8_1 : u_lay RX8 TX8 1 ∈ lw_tbl := wt_1 _ (List.mem_of_getElem? (i := 175) rfl)
theorem wv_RX8 : ∀ w ∈ u_ws RX8 TX8 2, w ∈ lw_tbl ∧ goodWord w = true := List.forall_mem_cons.mpr ⟨⟨wu_RX8_0, rfl⟩, List.forall_mem_cons.mpr ⟨⟨wu_RX8_1, rfl⟩, fun _ h => absurd h List.not_mem_nil⟩⟩
theorem wu_RX1_0 : u_lay RX1 TX1 0 ∈ lw_tbl := wt_1 _ (List.mem_of_getElem? (i := 192) rfl)
theorem wu_RX1_1 : u_lay RX1 TX1 1 ∈ lw_tbl := wt_1 _ (List.mem_of_getElem? (i := 194) rfl)
theorem wu_RX1_2 : u_lay RX1 TX1 2 ∈ lw_tbl := wt_1 _ (List.mem_of_getElem? (i := 196) rfl)
theorem wu_RX1_3 : u_lay RX1 TX1 3 ∈ lw_tbl := wt_1 _ (List.mem_of_getElem? (i := 198) rfl)
theorem wv_RX1 : ∀ w ∈ u_ws RX1 TX1 4, w ∈ lw_tbl ∧ goodWord w = true := List.forall_mem_cons.mpr ⟨⟨wu_RX1_0, rfl⟩, List.forall_mem_cons.mpr ⟨⟨wu_RX1_1, rfl⟩, List.forall_mem_cons.mpr ⟨⟨wu_RX1_2, rfl⟩, List.forall_mem_cons.mpr ⟨⟨wu_RX1_3, rfl⟩, fun _ h => absurd h List.not_mem_nil⟩⟩⟩⟩
theorem wu_RX3_0 : u_lay RX3 TX3 0 ∈ lw_tbl := wt_1 _ (List.mem_of_getElem? (i := 211) rfl)
theorem wu_RX3_1 : u_lay RX3 TX3 1 ∈ lw_tbl := wt_1 _ (List.mem_of_getElem? (i := 213) rfl)
theorem wv_RX3 : ∀ w ∈ u_ws RX3 TX3 2, w ∈ lw_tbl ∧ goodWord w = true := List.forall_mem_cons.mpr ⟨⟨wu_RX3_0, rfl⟩, List.forall_mem_cons.mpr ⟨⟨wu_RX3_1, rfl⟩, fun _ h => absurd h List.not_mem_nil⟩⟩
theorem wu_RX6_0 : u_lay RX6 TX6 0 ∈ lw_tbl := wt_1 _ (List.mem_of_getElem? (i := 68) rfl)
theorem wu_RX6_1 : u_lay RX6 TX6 1 ∈ lw_tbl := wt_1 _ (List.mem_of_getElem? (i := 70) rfl)
theorem wu_RX6_2 : u_lay RX6 TX6 2 ∈ lw_tbl := wt_1 _ (List.mem_of_getElem? (i := 72) rfl)
theorem wu_RX6_3 : u_lay RX6 TX6 3 ∈ lw_tbl := wt_1 _ (List.mem_of_getElem? (i := 74) rfl)
theorem wv_RX6 : ∀ w ∈ u_ws RX6 TX6 4, w ∈ lw_tbl ∧ goodWord w = true := List.forall_mem_cons.mpr ⟨⟨wu_RX6_0, rfl⟩, List.forall_mem_cons.mpr ⟨⟨wu_RX6_1, rfl⟩, List.forall_mem_cons.mpr ⟨⟨wu_RX6_2, rfl⟩, List.forall_mem_cons.mpr ⟨⟨wu_RX6_3, rfl⟩, fun _ h => absurd h List.not_mem_nil⟩⟩⟩⟩
theorem wu_RX2_0 : u_lay RX2 TX2 0 ∈ lw_tbl := wt_1 _ (List.mem_of_getElem? (i := 87) rfl)
theorem wu_RX2_1 : u_lay RX2 TX2 1 ∈ lw_tbl := wt_1 _ (List.mem_of_getElem? (i := 89) rfl)
theorem wu_RX2_2 : u_lay RX2 TX2 2 ∈ lw_tbl := wt_1 _ (List.mem_of_getElem? (i := 91) rfl)
theorem wv_RX2 : ∀ w ∈ u_ws RX2 TX2 3, w ∈ lw_tbl ∧ goodWord w = true := List.forall_mem_cons.mpr ⟨⟨wu_RX2_0, rfl⟩, List.forall_mem_cons.mpr ⟨⟨wu_RX2_1, rfl⟩, List.forall_mem_cons.mpr ⟨⟨wu_RX2_2, rfl⟩, fun _ h => absurd h List.not_mem_nil⟩⟩⟩
theorem wsL_law_ok : ∀ w ∈ wsL_law, w ∈ lw_tbl ∧ goodWord w = true := List.forall_mem_append.mpr ⟨List.forall_mem_append.mpr ⟨List.forall_mem_append.mpr ⟨List.forall_mem_append.mpr ⟨List.forall_mem_append.mpr ⟨List.forall_mem_append.mpr ⟨List.forall_mem_append.mpr ⟨List.forall_mem_append.mpr ⟨List.forall_mem_append.mpr ⟨List.forall_mem_append.mpr ⟨List.forall_mem_append.mpr ⟨List.forall_mem_append.mpr ⟨List.forall_mem_append.mpr ⟨wr_1, List.forall_mem_append.mpr ⟨wr_2, List.forall_mem_append.mpr ⟨wr_3, List.forall_mem_append.mpr ⟨wr_4, List.forall_mem_append.mpr ⟨wr_5, List.forall_mem_append.mpr ⟨wr_6, List.forall_mem_append.mpr ⟨wr_7, List.forall_mem_append.mpr ⟨wr_8, List.forall_mem_append.mpr ⟨wr_9, List.forall_mem_append.mpr ⟨wr_10, List.forall_mem_append.mpr ⟨wr_11, List.forall_mem_append.mpr ⟨wr_12, List.forall_mem_append.mpr ⟨wr_13, List.forall_mem_append.mpr ⟨wr_14, List.forall_mem_append.mpr ⟨wr_15, List.forall_mem_append.mpr ⟨wr_16, List.forall_mem_append.mpr ⟨wr_17, List.forall_mem_append.mpr ⟨wr_18, List.forall_mem_append.mpr ⟨wr_19, List.forall_mem_append.mpr ⟨wr_20, List.forall_mem_append.mpr ⟨wr_21, List.forall_mem_append.mpr ⟨wr_22, List.forall_mem_append.mpr ⟨wr_23, List.forall_mem_append.mpr ⟨wr_24, List.forall_mem_append.mpr ⟨wr_25, List.forall_mem_append.mpr ⟨wr_26, List.forall_mem_append.mpr ⟨wr_27, List.forall_mem_append.mpr ⟨wr_28, List.forall_mem_append.mpr ⟨wr_29, List.forall_mem_append.mpr ⟨wr_30, List.forall_mem_append.mpr ⟨wr_31, List.forall_mem_append.mpr ⟨wr_32, List.forall_mem_append.mpr ⟨wr_33, List.forall_mem_append.mpr ⟨wr_34, List.forall_mem_append.mpr ⟨wr_35, List.forall_mem_append.mpr ⟨wr_36, List.forall_mem_append.mpr ⟨wr_37, wr_38⟩⟩⟩⟩⟩⟩⟩⟩⟩⟩⟩⟩⟩⟩⟩⟩⟩⟩⟩⟩⟩⟩⟩⟩⟩⟩⟩⟩⟩⟩⟩⟩⟩⟩⟩⟩⟩, wv_RX10⟩, wv_RX11⟩, wv_RX4⟩, wv_RX7⟩, wv_RX5⟩, wv_RX0⟩, wv_RX8⟩, wv_RX1⟩, wv_RX3⟩, wv_RX6⟩, wv_RX2⟩, fun _ h => absurd h List.not_mem_nil⟩
theorem wsL_law_in : ∀ w ∈ wsL_law, w ∈ lw_tbl := fun w h => (wsL_law_ok w h).1
theorem wi_1 : ∀ w ∈ wsL_law_r1, w ∈ wsL_law := fun _ h => List.mem_append_left _ (List.mem_append_left _ (List.mem_append_left _ (List.mem_append_left _ (List.mem_append_left _ (List.mem_append_left _ (List.mem_append_left _ (List.mem_append_left _ (List.mem_append_left _ (List.mem_append_left _ (List.mem_append_left _ (List.mem_append_left _ (List.mem_append_left _ h))))))))))))
theorem wi_2 : ∀ w ∈ wsL_law_r2, w ∈ wsL_law := fun _ h => List.mem_append_left _ (List.mem_append_left _ (List.mem_append_left _ (List.mem_append_left _ (List.mem_append_left _ (List.mem_append_left _ (List.mem_append_left _ (List.mem_append_left _ (List.mem_append_left _ (List.mem_append_left _ (List.mem_append_left _ (List.mem_append_left _ (List.mem_append_right _ (List.mem_append_left _ h)))))))))))))
theorem wi_3 : ∀ w ∈ wsL_law_r3, w ∈ wsL_law := fun _ h => List.mem_append_left _ (List.mem_append_left _ (List.mem_append_left _ (List.mem_append_left _ (List.mem_append_left _ (List.mem_append_left _ (List.mem_append_left _ (List.mem_append_left _ (List.mem_append_left _ (List.mem_append_left _ (List.mem_append_left _ (List.mem_append_left _ (List.mem_append_right _ (List.mem_append_right _ (List.mem_append_left _ h))))))))))))))
theorem wi_4 : ∀ w ∈ wsL_law_r4, w ∈ wsL_law := fun _ h => List.mem_append_left _ (List.mem_append_left _ (List.mem_append_left _ (List.mem_append_left _ (List.mem_append_left _ (List.mem_append_left _ (List.mem_append_left _ (List.mem_append_left _ (List.mem_append_left _ (List.mem_append_left _ (List.mem_append_left _ (List.mem_append_left _ (List.mem_append_right _ (List.mem_append_right _ (List.mem_append_right _ (List.mem_append_left _ h)))))))))))))))
theorem wi_5 : ∀ w ∈ wsL_law_r5, w ∈ wsL_law := fun _ h => List.mem_append_left _ (List.mem_append_left _ (List.mem_append_left _ (List.mem_append_left _ (List.mem_append_left _ (List.mem_append_left _ (List.mem_append_left _ (List.mem_append_left _ (List.mem_append_left _ (List.mem_append_left _ (List.mem_append_left _ (List.mem_append_left _ (List.mem_append_right _ (List.mem_append_right _ (List.mem_append_right _ (List.mem_append_right _ (List.mem_append_left _ h))))))))))))))))
theorem wi_6 : ∀ w ∈ wsL_law_r6, w ∈ wsL_law := fun _ h => List.mem_append_left _ (List.mem_append_left _ (List.mem_append_left _ (List.mem_append_left _ (List.mem_append_left _ (List.mem_append_left _ (List.mem_append_left _ (List.mem_append_left _ (List.mem_append_left _ (List.mem_append_left _ (List.mem_append_left _ (List.mem_append_left _ (List.mem_append_right _ (List.mem_append_right _ (List.mem_append_right _ (List.mem_append_right _ (List.mem_append_right _ (List.mem_append_left _ h)))))))))))))))))
theorem wi_7 : ∀ w ∈ wsL_law_r7, w ∈ wsL_law := fun _ h => List.mem_append_left _ (List.mem_append_left _ (List.mem_append_left _ (List.mem_append_left _ (List.mem_append_left _ (List.mem_append_left _ (List.mem_append_left _ (List.mem_append_left _ (List.mem_append_left _ (List.mem_append_left _ (List.mem_append_left _ (List.mem_append_left _ (List.mem_append_right _ (List.mem_append_right _ (List.mem_append_right _ (List.mem_append_right _ (List.mem_append_right _ (List.mem_append_right _ (List.mem_append_left _ h))))))))))))))))))
theorem wi_8 : ∀ w ∈ wsL_law_r8, w ∈ wsL_law := fun _ h => List.mem_append_left _ (List.mem_append_left _ (List.mem_append_left _ (List.mem_append_left _ (List.mem_append_left _ (List.mem_append_left _ (List.mem_append_left _ (List.mem_append_left _ (List.mem_append_left _ (List.mem_append_left _ (List.mem_append_left _ (List.mem_append_left _ (List.mem_append_right _ (List.mem_append_right _ (List.mem_append_right _ (List.mem_append_right _ (List.mem_append_right _ (List.mem_append_right _ (List.mem_append_right _ (List.mem_append_left _ h)))))))))))))))))))
theorem wi_9 : ∀ w ∈ wsL_law_r9, w ∈ wsL_law := fun _ h => List.mem_append_left _ (List.mem_append_left _ (List.mem_append_left _ (List.mem_append_left _ (List.mem_append_left _ (List.mem_append_left _ (List.mem_append_left _ (List.mem_append_left _ (List.mem_append_left _ (List.mem_append_left _ (List.mem_append_left _ (List.mem_append_left _ (List.mem_append_right _ (List.mem_append_right _ (List.mem_append_right _ (List.mem_append_right _ (List.mem_append_right _ (List.mem_append_right _ (List.mem_append_right _ (List.mem_append_right _ (List.mem_append_left _ h))))))))))))))))))))
theorem wi_10 : ∀ w ∈ wsL_law_r10, w ∈ wsL_law := fun _ h => List.mem_append_left _ (List.mem_append_left _ (List.mem_append_left _ (List.mem_append_left _ (List.mem_append_left _ (List.mem_append_left _ (List.mem_append_left _ (List.mem_append_left _ (List.mem_append_left _ (List.mem_append_left _ (List.mem_append_left _ (List.mem_append_left _ (List.mem_append_right _ (List.mem_append_right _ (List.mem_append_right _ (List.mem_append_right _ (List.mem_append_right _ (List.mem_append_right _ (List.mem_append_right _ (List.mem_append_right _ (List.mem_append_right _ (List.mem_append_left _ h)))))))))))))))))))))
theorem wi_11 : ∀ w ∈ wsL_law_r11, w ∈ wsL_law := fun _ h => List.mem_append_left _ (List.mem_append_left _ (List.mem_append_left _ (List.mem_append_left _ (List.mem_append_left _ (List.mem_append_left _ (List.mem_append_left _ (List.mem_append_left _ (List.mem_append_left _ (List.mem_append_left _ (List.mem_append_left _ (List.mem_append_left _ (List.mem_append_right _ (List.mem_append_right _ (List.mem_append_right _ (List.mem_append_right _ (List.mem_append_right _ (List.mem_append_right _ (List.mem_append_right _ (List.mem_append_right _ (List.mem_append_right _ (List.mem_append_right _ (List.mem_append_left _ h))))))))))))))))))))))
theorem wi_12 : ∀ w ∈ wsL_law_r12, w ∈ wsL_law := fun _ h => List.mem_append_left _ (List.mem_append_left _ (List.mem_append_left _ (List.mem_append_left _ (List.mem_append_left _ (List.mem_append_left _ (List.mem_append_left _ (List.mem_append_left _ (List.mem_append_left _ (List.mem_append_left _ (List.mem_append_left _ (List.mem_append_left _ (List.mem_append_right _ (List.mem_append_right _ (List.mem_append_right _ (List.mem_append_right _ (List.mem_append_right _ (List.mem_append_right _ (List.mem_append_right _ (List.mem_append_right _ (List.mem_append_right _ (List.mem_append_right _ (List.mem_append_right _ (List.mem_append_left _ h)))))))))))))))))))))))
theorem wi_13 : ∀ w ∈ wsL_law_r13, w ∈ wsL_law := fun _ h => List.mem_append_left _ (List.mem_append_left _ (List.mem_append_left _ (List.mem_append_left _ (List.mem_append_left _ (List.mem_append_left _ (List.mem_append_left _ (List.mem_append_left _ (List.mem_append_left _ (List.mem_append_left _ (List.mem_append_left _ (List.mem_append_left _ (List.mem_append_right _ (List.mem_append_right _ (List.mem_append_right _ (List.mem_append_right _ (List.mem_append_right _ (List.mem_append_right _ (List.mem_append_right _ (List.mem_append_right _ (List.mem_append_right _ (List.mem_append_right _ (List.mem_append_right _ (List.mem_append_right _ (List.mem_append_left _ h))))))))))))))))))))))))
theorem wi_14 : ∀ w ∈ wsL_law_r14, w ∈ wsL_law := fun _ h => List.mem_append_left _ (List.mem_append_left _ (List.mem_append_left _ (List.mem_append_left _ (List.mem_append_left _ (List.mem_append_left _ (List.mem_append_left _ (List.mem_append_left _ (List.mem_append_left _ (List.mem_append_left _ (List.mem_append_left _ (List.mem_append_left _ (List.mem_append_right _ (List.mem_append_right _ (List.mem_append_right _ (List.mem_append_right _ (List.mem_append_right _ (List.mem_append_right _ (List.mem_append_right _ (List.mem_append_right _ (List.mem_append_right _ (List.mem_append_right _ (List.mem_append_right _ (List.mem_append_right _ (List.mem_append_right _ (List.mem_append_left _ h)))))))))))))))))))))))))
theorem wi_15 : ∀ w ∈ wsL_law_r15, w ∈ wsL_law := fun _ h => List.mem_append_left _ (List.mem_append_left _ (List.mem_append_left _ (List.mem_append_left _ (List.mem_append_left _ (List.mem_append_left _ (List.mem_append_left _ (List.mem_append_left _ (List.mem_append_left _ (List.mem_append_left _ (List.mem_append_left _ (List.mem_append_left _ (List.mem_append_right _ (List.mem_append_right _ (List.mem_append_right _ (List.mem_append_right _ (List.mem_append_right _ (List.mem_append_right _ (List.mem_append_right _ (List.mem_append_right _ (List.mem_append_right _ (List.mem_append_right _ (List.mem_append_right _ (List.mem_append_right _ (List.mem_append_right _ (List.mem_append_right _ (List.mem_append_left _ h))))))))))))))))))))))))))
theorem wi_16 : ∀ w ∈ wsL_law_r16, w ∈ wsL_law := fun _ h => List.mem_append_left _ (List.mem_append_left _ (List.mem_append_left _ (List.mem_append_left _ (List.mem_append_left _ (List.mem_append_left _ (List.mem_append_left _ (List.mem_append_left _ (List.mem_append_left _ (List.mem_append_left _ (List.mem_append_left _ (List.mem_append_left _ (List.mem_append_right _ (List.mem_append_right _ (List.mem_append_right _ (List.mem_append_right _ (List.mem_append_right _ (List.mem_append_right _ (List.mem_append_right _ (List.mem_append_right _ (List.mem_append_right _ (List.mem_append_right _ (List.mem_append_right _ (List.mem_append_right _ (List.mem_append_right _ (List.mem_append_right _ (List.mem_append_right _ (List.mem_append_left _ h)))))))))))))))))))))))))))
theorem wi_17 : ∀ w ∈ wsL_law_r17, w ∈ wsL_law := fun _ h => List.mem_append_left _ (List.mem_append_left _ (List.mem_append_left _ (List.mem_append_left _ (List.mem_append_left _ (List.mem_append_left _ (List.mem_append_left _ (List.mem_append_left _ (List.mem_append_left _ (List.mem_append_left _ (List.mem_append_left _ (List.mem_append_left _ (List.mem_append_right _ (List.mem_append_right _ (List.mem_append_right _ (List.mem_append_right _ (List.mem_append_right _ (List.mem_append_right _ (List.mem_append_right _ (List.mem_append_right _ (List.mem_append_right _ (List.mem_append_right _ (List.mem_append_right _ (List.mem_append_right _ (List.mem_append_right _ (List.mem_append_right _ (List.mem_append_right _ (List.mem_append_right _ (List.mem_append_left _ h))))))))))))))))))))))))))))
theorem wi_18 : ∀ w ∈ wsL_law_r18, w ∈ wsL_law := fun _ h => List.mem_append_left _ (List.mem_append_left _ (List.mem_append_left _ (List.mem_append_left _ (List.mem_append_left _ (List.mem_append_left _ (List.mem_append_left _ (List.mem_append_left _ (List.mem_append_left _ (List.mem_append_left _ (List.mem_append_left _ (List.mem_append_left _ (List.mem_append_right _ (List.mem_append_right _ (List.mem_append_right _ (List.mem_append_right _ (List.mem_append_right _ (List.mem_append_right _ (List.mem_append_right _ (List.mem_append_right _ (List.mem_append_right _ (List.mem_append_right _ (List.mem_append_right _ (List.mem_append_right _ (List.mem_append_right _ (List.mem_append_right _ (List.mem_append_right _ (List.mem_append_right _ (List.mem_append_right _ (List.mem_append_left _ h)))))))))))))))))))))))))))))
theorem wi_19 : ∀ w ∈ wsL_law_r19, w ∈ wsL_law := fun _ h => List.mem_append_left _ (List.mem_append_left _ (List.mem_append_left _ (List.mem_append_left _ (List.mem_append_left _ (List.mem_append_left _ (List.mem_append_left _ (List.mem_append_left _ (List.mem_append_left _ (List.mem_append_left _ (List.mem_append_left _ (List.mem_append_left _ (List.mem_append_right _ (List.mem_append_right _ (List.mem_append_right _ (List.mem_append_right _ (List.mem_append_right _ (List.mem_append_right _ (List.mem_append_right _ (List.mem_append_right _ (List.mem_append_right _ (List.mem_append_right _ (List.mem_append_right _ (List.mem_append_right _ (List.mem_append_right _ (List.mem_append_right _ (List.mem_append_right _ (List.mem_append_right _ (List.mem_append_right _ (List.mem_append_right _ (List.mem_append_left _ h))))))))))))))))))))))))))))))
theorem wi_20 : ∀ w ∈ wsL_law_r20, w ∈ wsL_law := fun _ h => List.mem_append_left _ (List.mem_append_left _ (List.mem_append_left _ (List.mem_append_left _ (List.mem_append_left _ (List.mem_append_left _ (List.mem_append_left _ (List.mem_append_left _ (List.mem_append_left _ (List.mem_append_left _ (List.mem_append_left _ (List.mem_append_left _ (List.mem_append_right _ (List.mem_append_right _ (List.mem_append_right _ (List.mem_append_right _ (List.mem_append_right _ (List.mem_append_right _ (List.mem_append_right _ (List.mem_append_right _ (List.mem_append_right _ (List.mem_append_right _ (List.mem_append_right _ (List.mem_append_right _ (List.mem_append_right _ (List.mem_append_right _ (List.mem_append_right _ (List.mem_append_right _ (List.mem_append_right _ (List.mem_append_right _ (List.mem_append_right _ (List.mem_append_left _ h)))))))))))))))))))))))))))))))
theorem wi_21 : ∀ w ∈ wsL_law_r21, w ∈ wsL_law := fun _ h => List.mem_append_left _ (List.mem_append_left _ (List.mem_append_left _ (List.mem_append_left _ (List.mem_append_left _ (List.mem_append_left _ (List.mem_append_left _ (List.mem_append_left _ (List.mem_append_left _ (List.mem_append_left _ (List.mem_append_left _ (List.mem_append_left _ (List.mem_append_right _ (List.mem_append_right _ (List.mem_append_right _ (List.mem_append_right _ (List.mem_append_right _ (List.mem_append_right _ (List.mem_append_right _ (List.mem_append_right _ (List.mem_append_right _ (List.mem_append_right _ (List.mem_append_right _ (List.mem_append_right _ (List.mem_append_right _ (List.mem_append_right _ (List.mem_append_right _ (List.mem_append_right _ (List.mem_append_right _ (List.mem_append_right _ (List.mem_append_right _ (List.mem_append_right _ (List.mem_append_left _ h))))))))))))))))))))))))))))))))
theorem wi_22 : ∀ w ∈ wsL_law_r22, w ∈ wsL_law := fun _ h => List.mem_append_left _ (List.mem_append_left _ (List.mem_append_left _ (List.mem_append_left _ (List.mem_append_left _ (List.mem_append_left _ (List.mem_append_left _ (List.mem_append_left _ (List.mem_append_left _ (List.mem_append_left _ (List.mem_append_left _ (List.mem_append_left _ (List.mem_append_right _ (List.mem_append_right _ (List.mem_append_right _ (List.mem_append_right _ (List.mem_append_right _ (List.mem_append_right _ (List.mem_append_right _ (List.mem_append_right _ (List.mem_append_right _ (List.mem_append_right _ (List.mem_append_right _ (List.mem_append_right _ (List.mem_append_right _ (List.mem_append_right _ (List.mem_append_right _ (List.mem_append_right _ (List.mem_append_right _ (List.mem_append_right _ (List.mem_append_right _ (List.mem_append_right _ (List.mem_append_right _ (List.mem_append_left _ h)))))))))))))))))))))))))))))))))
theorem wi_23 : ∀ w ∈ wsL_law_r23, w ∈ wsL_law := fun _ h => List.mem_append_left _ (List.mem_append_left _ (List.mem_append_left _ (List.mem_append_left _ (List.mem_append_left _ (List.mem_append_left _ (List.mem_append_left _ (List.mem_append_left _ (List.mem_append_left _ (List.mem_append_left _ (List.mem_append_left _ (List.mem_append_left _ (List.mem_append_right _ (List.mem_append_right _ (List.mem_append_right _ (List.mem_append_right _ (List.mem_append_right _ (List.mem_append_right _ (List.mem_append_right _ (List.mem_append_right _ (List.mem_append_right _ (List.mem_append_right _ (List.mem_append_right _ (List.mem_append_right _ (List.mem_append_right _ (List.mem_append_right _ (List.mem_append_right _ (List.mem_append_right _ (List.mem_append_right _ (List.mem_append_right _ (List.mem_append_right _ (List.mem_append_right _ (List.mem_append_right _ (List.mem_append_right _ (List.mem_append_left _ h))))))))))))))))))))))))))))))))))
theorem wi_24 : ∀ w ∈ wsL_law_r24, w ∈ wsL_law := fun _ h => List.mem_append_left _ (List.mem_append_left _ (List.mem_append_left _ (List.mem_append_left _ (List.mem_append_left _ (List.mem_append_left _ (List.mem_append_left _ (List.mem_append_left _ (List.mem_append_left _ (List.mem_append_left _ (List.mem_append_left _ (List.mem_append_left _ (List.mem_append_right _ (List.mem_append_right _ (List.mem_append_right _ (List.mem_append_right _ (List.mem_append_right _ (List.mem_append_right _ (List.mem_append_right _ (List.mem_append_right _ (List.mem_append_right _ (List.mem_append_right _ (List.mem_append_right _ (List.mem_append_right _ (List.mem_append_right _ (List.mem_append_right _ (List.mem_append_right _ (List.mem_append_right _ (List.mem_append_right _ (List.mem_append_right _ (List.mem_append_right _ (List.mem_append_right _ (List.mem_append_right _ (List.mem_append_right _ (List.mem_append_right _ (List.mem_append_left _ h)))))))))))))))))))))))))))))))))))
theorem wi_25 : ∀ w ∈ wsL_law_r25, w ∈ wsL_law := fun _ h => List.mem_append_left _ (List.mem_append_left _ (List.mem_append_left _ (List.mem_append_left _ (List.mem_append_left _ (List.mem_append_left _ (List.mem_append_left _ (List.mem_append_left _ (List.mem_append_left _ (List.mem_append_left _ (List.mem_append_left _ (List.mem_append_left _ (List.mem_append_right _ (List.mem_append_right _ (List.mem_append_right _ (List.mem_append_right _ (List.mem_append_right _ (List.mem_append_right _ (List.mem_append_right _ (List.mem_append_right _ (List.mem_append_right _ (List.mem_append_right _ (List.mem_append_right _ (List.mem_append_right _ (List.mem_append_right _ (List.mem_append_right _ (List.mem_append_right _ (List.mem_append_right _ (List.mem_append_right _ (List.mem_append_right _ (List.mem_append_right _ (List.mem_append_right _ (List.mem_append_right _ (List.mem_append_right _ (List.mem_append_right _ (List.mem_append_right _ (List.mem_append_left _ h))))))))))))))))))))))))))))))))))))
theorem wi_26 : ∀ w ∈ wsL_law_r26, w ∈ wsL_law := fun _ h => List.mem_append_left _ (List.mem_append_left _ (List.mem_append_left _ (List.mem_append_left _ (List.mem_append_left _ (List.mem_append_left _ (List.mem_append_left _ (List.mem_append_left _ (List.mem_append_left _ (List.mem_append_left _ (List.mem_append_left _ (List.mem_append_left _ (List.mem_append_right _ (List.mem_append_right _ (List.mem_append_right _ (List.mem_append_right _ (List.mem_append_right _ (List.mem_append_right _ (List.mem_append_right _ (List.mem_append_right _ (List.mem_append_right _ (List.mem_append_right _ (List.mem_append_right _ (List.mem_append_right _ (List.mem_append_right _ (List.mem_append_right _ (List.mem_append_right _ (List.mem_append_right _ (List.mem_append_right _ (List.mem_append_right _ (List.mem_append_right _ (List.mem_append_right _ (List.mem_append_right _ (List.mem_append_right _ (List.mem_append_right _ (List.mem_append_right _ (List.mem_append_right _ (List.mem_append_left _ h)))))))))))))))))))))))))))))))))))))
theorem wi_27 : ∀ w ∈ wsL_law_r27, w ∈ wsL_law := fun _ h => List.mem_append_left _ (List.mem_append_left _ (List.mem_append_left _ (List.mem_append_left _ (List.mem_append_left _ (List.mem_append_left _ (List.mem_append_left _ (List.mem_append_left _ (List.mem_append_left _ (List.mem_append_left _ (List.mem_append_left _ (List.mem_append_left _ (List.mem_append_right _ (List.mem_append_right _ (List.mem_append_right _ (List.mem_append_right _ (List.mem_append_right _ (List.mem_append_right _ (List.mem_append_right _ (List.mem_append_right _ (List.mem_append_right _ (List.mem_append_right _ (List.mem_append_right _ (List.mem_append_right _ (List.mem_append_right _ (List.mem_append_right _ (List.mem_append_right _ (List.mem_append_right _ (List.mem_append_right _ (List.mem_append_right _ (List.mem_append_right _ (List.mem_append_right _ (List.mem_append_right _ (List.mem_append_right _ (List.mem_append_right _ (List.mem_append_right _ (List.mem_append_right _ (List.mem_append_right _ (List.mem_append_left _ h))))))))))))))))))))))))))))))))))))))
theorem wi_28 : ∀ w ∈ wsL_law_r28, w ∈ wsL_law := fun _ h => List.mem_append_left _ (List.mem_append_left _ (List.mem_append_left _ (List.mem_append_left _ (List.mem_append_left _ (List.mem_append_left _ (List.mem_append_left _ (List.mem_append_left _ (List.mem_append_left _ (List.mem_append_left _ (List.mem_append_left _ (List.mem_append_left _ (List.mem_append_right _ (List.mem_append_right _ (List.mem_append_right _ (List.mem_append_right _ (List.mem_append_right _ (List.mem_append_right _ (List.mem_append_right _ (List.mem_append_right _ (List.mem_append_right _ (List.mem_append_right _ (List.mem_append_right _ (List.mem_append_right _ (List.mem_append_right _ (List.mem_append_right _ (List.mem_append_right _ (List.mem_append_right _ (List.mem_append_right _ (List.mem_append_right _ (List.mem_append_right _ (List.mem_append_right _ (List.mem_append_right _ (List.mem_append_right _ (List.mem_append_right _ (List.mem_append_right _ (List.mem_append_right _ (List.mem_append_right _ (List.mem_append_right _ (List.mem_append_left _ h)))))))))))))))))))))))))))))))))))))))
theorem wi_29 : ∀ w ∈ wsL_law_r29, w ∈ wsL_law := fun _ h => List.mem_append_left _ (List.mem_append_left _ (List.mem_append_left _ (List.mem_append_left _ (List.mem_append_left _ (List.mem_append_left _ (List.mem_append_left _ (List.mem_append_left _ (List.mem_append_left _ (List.mem_append_left _ (List.mem_append_left _ (List.mem_append_left _ (List.mem_append_right _ (List.mem_append_right _ (List.mem_append_right _ (List.mem_append_right _ (List.mem_append_right _ (List.mem_append_right _ (List.mem_append_right _ (List.mem_append_right _ (List.mem_append_right _ (List.mem_append_right _ (List.mem_append_right _ (List.mem_append_right _ (List.mem_append_right _ (List.mem_append_right _ (List.mem_append_right _ (List.mem_append_right _ (List.mem_append_right _ (List.mem_append_right _ (List.mem_append_right _ (List.mem_append_right _ (List.mem_append_right _ (List.mem_append_right _ (List.mem_append_right _ (List.mem_append_right _ (List.mem_append_right _ (List.mem_append_right _ (List.mem_append_right _ (List.mem_append_right _ (List.mem_append_left _ h))))))))))))))))))))))))))))))))))))))))
theorem wi_30 : ∀ w ∈ wsL_law_r30, w ∈ wsL_law := fun _ h => List.mem_append_left _ (List.mem_append_left _ (List.mem_append_left _ (List.mem_append_left _ (List.mem_append_left _ (List.mem_append_left _ (List.mem_append_left _ (List.mem_append_left _ (List.mem_append_left _ (List.mem_append_left _ (List.mem_append_left _ (List.mem_append_left _ (List.mem_append_right _ (List.mem_append_right _ (List.mem_append_right _ (List.mem_append_right _ (List.mem_append_right _ (List.mem_append_right _ (List.mem_append_right _ (List.mem_append_right _ (List.mem_append_right _ (List.mem_append_right _ (List.mem_append_right _ (List.mem_append_right _ (List.mem_append_right _ (List.mem_append_right _ (List.mem_append_right _ (List.mem_append_right _ (List.mem_append_right _ (List.mem_append_right _ (List.mem_append_right _ (List.mem_append_right _ (List.mem_append_right _ (List.mem_append_right _ (List.mem_append_right _ (List.mem_append_right _ (List.mem_append_right _ (List.mem_append_right _ (List.mem_append_right _ (List.mem_append_right _ (List.mem_append_right _ (List.mem_append_left _ h)))))))))))))))))))))))))))))))))))))))))
theorem wi_31 : ∀ w ∈ wsL_law_r31, w ∈ wsL_law := fun _ h => List.mem_append_left _ (List.mem_append_left _ (List.mem_append_left _ (List.mem_append_left _ (List.mem_append_left _ (List.mem_append_left _ (List.mem_append_left _ (List.mem_append_left _ (List.mem_append_left _ (List.mem_append_left _ (List.mem_append_left _ (List.mem_append_left _ (List.mem_append_right _ (List.mem_append_right _ (List.mem_append_right _ (List.mem_append_right _ (List.mem_append_right _ (List.mem_append_right _ (List.mem_append_right _ (List.mem_append_right _ (List.mem_append_right _ (List.mem_append_right _ (List.mem_append_right _ (List.mem_append_right _ (List.mem_append_right _ (List.mem_append_right _ (List.mem_append_right _ (List.mem_append_right _ (List.mem_append_right _ (List.mem_append_right _ (List.mem_append_right _ (List.mem_append_right _ (List.mem_append_right _ (List.mem_append_right _ (List.mem_append_right _ (List.mem_append_right _ (List.mem_append_right _ (List.mem_append_right _ (List.mem_append_right _ (List.mem_append_right _ (List.mem_append_right _ (List.mem_append_right _ (List.mem_append_left _ h))))))))))))))))))))))))))))))))))))))))))
theorem wi_32 : ∀ w ∈ wsL_law_r32, w ∈ wsL_law := fun _ h => List.mem_append_left _ (List.mem_append_left _ (List.mem_append_left _ (List.mem_append_left _ (List.mem_append_left _ (List.mem_append_left _ (List.mem_append_left _ (List.mem_append_left _ (List.mem_append_left _ (List.mem_append_left _ (List.mem_append_left _ (List.mem_append_left _ (List.mem_append_right _ (List.mem_append_right _ (List.mem_append_right _ (List.mem_append_right _ (List.mem_append_right _ (List.mem_append_right _ (List.mem_append_right _ (List.mem_append_right _ (List.mem_append_right _ (List.mem_append_right _ (List.mem_append_right _ (List.mem_append_right _ (List.mem_append_right _ (List.mem_append_right _ (List.mem_append_right _ (List.mem_append_right _ (List.mem_append_right _ (List.mem_append_right _ (List.mem_append_right _ (List.mem_append_right _ (List.mem_append_right _ (List.mem_append_right _ (List.mem_append_right _ (List.mem_append_right _ (List.mem_append_right _ (List.mem_append_right _ (List.mem_append_right _ (List.mem_append_right _ (List.mem_append_right _ (List.mem_append_right _ (List.mem_append_right _ (List.mem_append_left _ h)))))))))))))))))))))))))))))))))))))))))))
theorem wi_33 : ∀ w ∈ wsL_law_r33, w ∈ wsL_law := fun _ h => List.mem_append_left _ (List.mem_append_left _ (List.mem_append_left _ (List.mem_append_left _ (List.mem_append_left _ (List.mem_append_left _ (List.mem_append_left _ (List.mem_append_left _ (List.mem_append_left _ (List.mem_append_left _ (List.mem_append_left _ (List.mem_append_left _ (List.mem_append_right _ (List.mem_append_right _ (List.mem_append_right _ (List.mem_append_right _ (List.mem_append_right _ (List.mem_append_right _ (List.mem_append_right _ (List.mem_append_right _ (List.mem_append_right _ (List.mem_append_right _ (List.mem_append_right _ (List.mem_append_right _ (List.mem_append_right _ (List.mem_append_right _ (List.mem_append_right _ (List.mem_append_right _ (List.mem_append_right _ (List.mem_append_right _ (List.mem_append_right _ (List.mem_append_right _ (List.mem_append_right _ (List.mem_append_right _ (List.mem_append_right _ (List.mem_append_right _ (List.mem_append_right _ (List.mem_append_right _ (List.mem_append_right _ (List.mem_append_right _ (List.mem_append_right _ (List.mem_append_right _ (List.mem_append_right _ (List.mem_append_right _ (List.mem_append_left _ h))))))))))))))))))))))))))))))))))))))))))))
theorem wi_34 : ∀ w ∈ wsL_law_r34, w ∈ wsL_law := fun _ h => List.mem_append_left _ (List.mem_append_left _ (List.mem_append_left _ (List.mem_append_left _ (List.mem_append_left _ (List.mem_append_left _ (List.mem_append_left _ (List.mem_append_left _ (List.mem_append_left _ (List.mem_append_left _ (List.mem_append_left _ (List.mem_append_left _ (List.mem_append_right _ (List.mem_append_right _ (List.mem_append_right _ (List.mem_append_right _ (List.mem_append_right _ (List.mem_append_right _ (List.mem_append_right _ (List.mem_append_right _ (List.mem_append_right _ (List.mem_append_right _ (List.mem_append_right _ (List.mem_append_right _ (List.mem_append_right _ (List.mem_append_right _ (List.mem_append_right _ (List.mem_append_right _ (List.mem_append_right _ (List.mem_append_right _ (List.mem_append_right _ (List.mem_append_right _ (List.mem_append_right _ (List.mem_append_right _ (List.mem_append_right _ (List.mem_append_right _ (List.mem_append_right _ (List.mem_append_right _ (List.mem_append_right _ (List.mem_append_right _ (List.mem_append_right _ (List.mem_append_right _ (List.mem_append_right _ (List.mem_append_right _ (List.mem_append_right _ (List.mem_append_left _ h)))))))))))))))))))))))))))))))))))))))))))))
theorem wi_35 : ∀ w ∈ wsL_law_r35, w ∈ wsL_law := fun _ h => List.mem_append_left _ (List.mem_append_left _ (List.mem_append_left _ (List.mem_append_left _ (List.mem_append_left _ (List.mem_append_left _ (List.mem_append_left _ (List.mem_append_left _ (List.mem_append_left _ (List.mem_append_left _ (List.mem_append_left _ (List.mem_append_left _ (List.mem_append_right _ (List.mem_append_right _ (List.mem_append_right _ (List.mem_append_right _ (List.mem_append_right _ (List.mem_append_right _ (List.mem_append_right _ (List.mem_append_right _ (List.mem_append_right _ (List.mem_append_right _ (List.mem_append_right _ (List.mem_append_right _ (List.mem_append_right _ (List.mem_append_right _ (List.mem_append_right _ (List.mem_append_right _ (List.mem_append_right _ (List.mem_append_right _ (List.mem_append_right _ (List.mem_append_right _ (List.mem_append_right _ (List.mem_append_right _ (List.mem_append_right _ (List.mem_append_right _ (List.mem_append_right _ (List.mem_append_right _ (List.mem_append_right _ (List.mem_append_right _ (List.mem_append_right _ (List.mem_append_right _ (List.mem_append_right _ (List.mem_append_right _ (List.mem_append_right _ (List.mem_append_right _ (List.mem_append_left _ h))))))))))))))))))))))))))))))))))))))))))))))
theorem wi_36 : ∀ w ∈ wsL_law_r36, w ∈ wsL_law := fun _ h => List.mem_append_left _ (List.mem_append_left _ (List.mem_append_left _ (List.mem_append_left _ (List.mem_append_left _ (List.mem_append_left _ (List.mem_append_left _ (List.mem_append_left _ (List.mem_append_left _ (List.mem_append_left _ (List.mem_append_left _ (List.mem_append_left _ (List.mem_append_right _ (List.mem_append_right _ (List.mem_append_right _ (List.mem_append_right _ (List.mem_append_right _ (List.mem_append_right _ (List.mem_append_right _ (List.mem_append_right _ (List.mem_append_right _ (List.mem_append_right _ (List.mem_append_right _ (List.mem_append_right _ (List.mem_append_right _ (List.mem_append_right _ (List.mem_append_right _ (List.mem_append_right _ (List.mem_append_right _ (List.mem_append_right _ (List.mem_append_right _ (List.mem_append_right _ (List.mem_append_right _ (List.mem_append_right _ (List.mem_append_right _ (List.mem_append_right _ (List.mem_append_right _ (List.mem_append_right _ (List.mem_append_right _ (List.mem_append_right _ (List.mem_append_right _ (List.mem_append_right _ (List.mem_append_right _ (List.mem_append_right _ (List.mem_append_right _ (List.mem_append_right _ (List.mem_append_right _ (List.mem_append_left _ h)))))))))))))))))))))))))))))))))))))))))))))))
theorem wi_37 : ∀ w ∈ wsL_law_r37, w ∈ wsL_law := fun _ h => List.mem_append_left _ (List.mem_append_left _ (List.mem_append_left _ (List.mem_append_left _ (List.mem_append_left _ (List.mem_append_left _ (List.mem_append_left _ (List.mem_append_left _ (List.mem_append_left _ (List.mem_append_left _ (List.mem_append_left _ (List.mem_append_left _ (List.mem_append_right _ (List.mem_append_right _ (List.mem_append_right _ (List.mem_append_right _ (List.mem_append_right _ (List.mem_append_right _ (List.mem_append_right _ (List.mem_append_right _ (List.mem_append_right _ (List.mem_append_right _ (List.mem_append_right _ (List.mem_append_right _ (List.mem_append_right _ (List.mem_append_right _ (List.mem_append_right _ (List.mem_append_right _ (List.mem_append_right _ (List.mem_append_right _ (List.mem_append_right _ (List.mem_append_right _ (List.mem_append_right _ (List.mem_append_right _ (List.mem_append_right _ (List.mem_append_right _ (List.mem_append_right _ (List.mem_append_right _ (List.mem_append_right _ (List.mem_append_right _ (List.mem_append_right _ (List.mem_append_right _ (List.mem_append_right _ (List.mem_append_right _ (List.mem_append_right _ (List.mem_append_right _ (List.mem_append_right _ (List.mem_append_right _ (List.mem_append_left _ h))))))))))))))))))))))))))))))))))))))))))))))))
theorem wi_38 : ∀ w ∈ wsL_law_r38, w ∈ wsL_law := fun _ h => List.mem_append_left _ (List.mem_append_left _ (List.mem_append_left _ (List.mem_append_left _ (List.mem_append_left _ (List.mem_append_left _ (List.mem_append_left _ (List.mem_append_left _ (List.mem_append_left _ (List.mem_append_left _ (List.mem_append_left _ (List.mem_append_left _ (List.mem_append_right _ (List.mem_append_right _ (List.mem_append_right _ (List.mem_append_right _ (List.mem_append_right _ (List.mem_append_right _ (List.mem_append_right _ (List.mem_append_right _ (List.mem_append_right _ (List.mem_append_right _ (List.mem_append_right _ (List.mem_append_right _ (List.mem_append_right _ (List.mem_append_right _ (List.mem_append_right _ (List.mem_append_right _ (List.mem_append_right _ (List.mem_append_right _ (List.mem_append_right _ (List.mem_append_right _ (List.mem_append_right _ (List.mem_append_right _ (List.mem_append_right _ (List.mem_append_right _ (List.mem_append_right _ (List.mem_append_right _ (List.mem_append_right _ (List.mem_append_right _ (List.mem_append_right _ (List.mem_append_right _ (List.mem_append_right _ (List.mem_append_right _ (List.mem_append_right _ (List.mem_append_right _ (List.mem_append_right _ (List.mem_append_right _ (List.mem_append_right _ (h)))))))))))))))))))))))))))))))))))))))))))))))))
theorem w_1_0 : Cond.classLink RL 7 RX10 ∈ wsL_law := wi_1 _ (List.mem_of_getElem? (i := 0) rfl)
theorem w_1_1 : Cond.instantiable RX10 8 ∈ wsL_law := wi_1 _ (List.mem_of_getElem? (i := 1) rfl)
theorem w_1_2 : Cond.initialized RX10 ∈ wsL_law := wi_1 _ (List.mem_of_getElem? (i := 2) rfl)
theorem w_1_3 : Cond.classLink RL 10 RX11 ∈ wsL_law := wi_1 _ (List.mem_of_getElem? (i := 3) rfl)
theorem w_1_4 : Cond.instantiable RX11 35 ∈ wsL_law := wi_1 _ (List.mem_of_getElem? (i := 4) rfl)
theorem w_1_5 : Cond.initialized RX11 ∈ wsL_law := wi_1 _ (List.mem_of_getElem? (i := 5) rfl)
theorem w_1_6 : Cond.methodLink RL 9 yX10_init ∈ wsL_law := wi_1 _ (List.mem_of_getElem? (i := 6) rfl)
theorem w_1_7 : Cond.instanceMethod yX10_init ∈ wsL_law := wi_1 _ (List.mem_of_getElem? (i := 7) rfl)
theorem w_1_8 : Cond.code yX10_init cX10_init 1 none ∈ wsL_law := wi_1 _ (List.mem_of_getElem? (i := 8) rfl)
theorem w_1_9 : Cond.methodLink RX10 1 objectInit ∈ wsL_law := wi_1 _ (List.mem_of_getElem? (i := 9) rfl)
theorem w_1_10 : Cond.instanceMethod objectInit ∈ wsL_law := wi_1 _ (List.mem_of_getElem? (i := 10) rfl)
theorem w_1_11 : Cond.code objectInit ⟨#[0xb1]⟩ 1 none ∈ wsL_law := wi_1 _ (List.mem_of_getElem? (i := 11) rfl)
theorem w_1_12 : Cond.classLink RX10 7 RX4 ∈ wsL_law := wi_1 _ (List.mem_of_getElem? (i := 12) rfl)
theorem w_1_13 : Cond.instantiable RX4 2 ∈ wsL_law := wi_1 _ (List.mem_of_getElem? (i := 13) rfl)
theorem w_1_14 : Cond.initialized RX4 ∈ wsL_law := wi_1 _ (List.mem_of_getElem? (i := 14) rfl)
theorem w_1_15 : Cond.fieldLink RX10 10 "RoundThrow" "pad" "LRoundThrow$Pad;" ∈ wsL_law := wi_1 _ (List.mem_of_getElem? (i := 15) rfl)
theorem w_1_16 : Cond.classLink RX10 16 RX7 ∈ wsL_law := wi_1 _ (List.mem_of_getElem? (i := 16) rfl)
theorem w_1_17 : Cond.instantiable RX7 6 ∈ wsL_law := wi_1 _ (List.mem_of_getElem? (i := 17) rfl)
theorem w_1_18 : Cond.initialized RX7 ∈ wsL_law := wi_1 _ (List.mem_of_getElem? (i := 18) rfl)
theorem w_1_19 : Cond.fieldLink RX10 19 "RoundThrow" "setup" "LRoundThrow$Setup;" ∈ wsL_law := wi_1 _ (List.mem_of_getElem? (i := 19) rfl)
theorem w_1_20 : Cond.fieldLink RX10 23 "RoundThrow" "images" "[LRoundThrow$Setup;" ∈ wsL_law := wi_1 _ (List.mem_of_getElem? (i := 20) rfl)
theorem w_1_21 : Cond.classLink RX10 27 RX5 ∈ wsL_law := wi_1 _ (List.mem_of_getElem? (i := 21) rfl)
theorem w_1_22 : Cond.instantiable RX5 2 ∈ wsL_law := wi_1 _ (List.mem_of_getElem? (i := 22) rfl)
theorem w_1_23 : Cond.initialized RX5 ∈ wsL_law := wi_1 _ (List.mem_of_getElem? (i := 23) rfl)
theorem w_2_0 : Cond.fieldLink RX10 30 "RoundThrow" "platform" "LRoundThrow$Platform;" ∈ wsL_law := wi_2 _ (List.mem_of_getElem? (i := 0) rfl)
theorem w_2_1 : Cond.classLink RX10 34 RX0 ∈ wsL_law := wi_2 _ (List.mem_of_getElem? (i := 1) rfl)
theorem w_2_2 : Cond.instantiable RX0 6 ∈ wsL_law := wi_2 _ (List.mem_of_getElem? (i := 2) rfl)
theorem w_2_3 : Cond.initialized RX0 ∈ wsL_law := wi_2 _ (List.mem_of_getElem? (i := 3) rfl)
theorem w_2_4 : Cond.fieldLink RX10 37 "RoundThrow" "thrown" "LRoundThrow$Ball;" ∈ wsL_law := wi_2 _ (List.mem_of_getElem? (i := 4) rfl)
theorem w_2_5 : Cond.classLink RX10 41 RX8 ∈ wsL_law := wi_2 _ (List.mem_of_getElem? (i := 5) rfl)
theorem w_2_6 : Cond.instantiable RX8 2 ∈ wsL_law := wi_2 _ (List.mem_of_getElem? (i := 6) rfl)
theorem w_2_7 : Cond.initialized RX8 ∈ wsL_law := wi_2 _ (List.mem_of_getElem? (i := 7) rfl)
theorem w_2_8 : Cond.fieldLink RX10 44 "RoundThrow" "track" "LRoundThrow$Track;" ∈ wsL_law := wi_2 _ (List.mem_of_getElem? (i := 8) rfl)
theorem w_2_9 : Cond.classLink RX10 48 RX1 ∈ wsL_law := wi_2 _ (List.mem_of_getElem? (i := 9) rfl)
theorem w_2_10 : Cond.instantiable RX1 4 ∈ wsL_law := wi_2 _ (List.mem_of_getElem? (i := 10) rfl)
theorem w_2_11 : Cond.initialized RX1 ∈ wsL_law := wi_2 _ (List.mem_of_getElem? (i := 11) rfl)
theorem w_2_12 : Cond.fieldLink RX10 51 "RoundThrow" "table" "LRoundThrow$CatchTable;" ∈ wsL_law := wi_2 _ (List.mem_of_getElem? (i := 12) rfl)
theorem w_2_13 : Cond.classLink RX10 55 RX3 ∈ wsL_law := wi_2 _ (List.mem_of_getElem? (i := 13) rfl)
theorem w_2_14 : Cond.instantiable RX3 2 ∈ wsL_law := wi_2 _ (List.mem_of_getElem? (i := 14) rfl)
theorem w_2_15 : Cond.initialized RX3 ∈ wsL_law := wi_2 _ (List.mem_of_getElem? (i := 15) rfl)
theorem w_2_16 : Cond.fieldLink RX10 58 "RoundThrow" "learner" "LRoundThrow$Learner;" ∈ wsL_law := wi_2 _ (List.mem_of_getElem? (i := 16) rfl)
theorem w_2_17 : Cond.instanceMethod yX4_init ∈ wsL_law := wi_2 _ (List.mem_of_getElem? (i := 17) rfl)
theorem w_2_18 : Cond.code yX4_init cX4_init 1 none ∈ wsL_law := wi_2 _ (List.mem_of_getElem? (i := 18) rfl)
theorem w_2_19 : Cond.methodLink RX4 3 objectInit ∈ wsL_law := wi_2 _ (List.mem_of_getElem? (i := 19) rfl)
theorem w_2_20 : Cond.arrayClass .int ∈ wsL_law := wi_2 _ (List.mem_of_getElem? (i := 20) rfl)
theorem w_2_21 : Cond.fieldLink RX4 11 "RoundThrow$Pad" "signs" "[I" ∈ wsL_law := wi_2 _ (List.mem_of_getElem? (i := 21) rfl)
theorem w_2_22 : Cond.instanceMethod yX7_init ∈ wsL_law := wi_2 _ (List.mem_of_getElem? (i := 22) rfl)
theorem w_2_23 : Cond.code yX7_init cX7_init 1 none ∈ wsL_law := wi_2 _ (List.mem_of_getElem? (i := 23) rfl)
theorem w_3_0 : Cond.methodLink RX7 1 objectInit ∈ wsL_law := wi_3 _ (List.mem_of_getElem? (i := 0) rfl)
theorem w_3_1 : Cond.fieldLink RX7 7 "RoundThrow$Setup" "FIRST" "[I" ∈ wsL_law := wi_3 _ (List.mem_of_getElem? (i := 1) rfl)
theorem w_3_2 : Cond.methodLink RX7 13 ⟨"[I", "clone", "()Ljava/lang/Object;"⟩ ∈ wsL_law := wi_3 _ (List.mem_of_getElem? (i := 2) rfl)
theorem w_3_3 : Cond.sameMethod "[I" "java/lang/Object" "clone" "()Ljava/lang/Object;" ∈ wsL_law := wi_3 _ (List.mem_of_getElem? (i := 3) rfl)
theorem w_3_4 : Cond.native ⟨"java/lang/Object", "clone", "()Ljava/lang/Object;"⟩ ∈ wsL_law := wi_3 _ (List.mem_of_getElem? (i := 4) rfl)
theorem w_3_5 : Cond.instanceMethod ⟨"java/lang/Object", "clone", "()Ljava/lang/Object;"⟩ ∈ wsL_law := wi_3 _ (List.mem_of_getElem? (i := 5) rfl)
theorem w_3_6 : Cond.selects "[I" ⟨"[I", "clone", "()Ljava/lang/Object;"⟩ ⟨"java/lang/Object", "clone", "()Ljava/lang/Object;"⟩ ∈ wsL_law := wi_3 _ (List.mem_of_getElem? (i := 6) rfl)
theorem w_3_7 : Cond.classLink RX7 14 "[I" ∈ wsL_law := wi_3 _ (List.mem_of_getElem? (i := 7) rfl)
theorem w_3_8 : Cond.fieldLink RX7 18 "RoundThrow$Setup" "settings" "[I" ∈ wsL_law := wi_3 _ (List.mem_of_getElem? (i := 8) rfl)
theorem w_3_9 : Cond.classLink RX7 21 RX6 ∈ wsL_law := wi_3 _ (List.mem_of_getElem? (i := 9) rfl)
theorem w_3_10 : Cond.instantiable RX6 4 ∈ wsL_law := wi_3 _ (List.mem_of_getElem? (i := 10) rfl)
theorem w_3_11 : Cond.initialized RX6 ∈ wsL_law := wi_3 _ (List.mem_of_getElem? (i := 11) rfl)
theorem w_3_12 : Cond.fieldLink RX7 24 "RoundThrow$Setup" "pushes" "LRoundThrow$Pushes;" ∈ wsL_law := wi_3 _ (List.mem_of_getElem? (i := 12) rfl)
theorem w_3_13 : Cond.classLink RX7 28 RX2 ∈ wsL_law := wi_3 _ (List.mem_of_getElem? (i := 13) rfl)
theorem w_3_14 : Cond.instantiable RX2 3 ∈ wsL_law := wi_3 _ (List.mem_of_getElem? (i := 14) rfl)
theorem w_3_15 : Cond.initialized RX2 ∈ wsL_law := wi_3 _ (List.mem_of_getElem? (i := 15) rfl)
theorem w_3_16 : Cond.fieldLink RX7 31 "RoundThrow$Setup" "film" "LRoundThrow$Film;" ∈ wsL_law := wi_3 _ (List.mem_of_getElem? (i := 16) rfl)
theorem w_3_17 : Cond.fieldLink RX7 35 "RoundThrow$Setup" "oneX" "[I" ∈ wsL_law := wi_3 _ (List.mem_of_getElem? (i := 17) rfl)
theorem w_3_18 : Cond.fieldLink RX7 38 "RoundThrow$Setup" "oneY" "[I" ∈ wsL_law := wi_3 _ (List.mem_of_getElem? (i := 18) rfl)
theorem w_3_19 : Cond.instanceMethod yX6_init ∈ wsL_law := wi_3 _ (List.mem_of_getElem? (i := 19) rfl)
theorem w_3_20 : Cond.code yX6_init cX6_init 1 none ∈ wsL_law := wi_3 _ (List.mem_of_getElem? (i := 20) rfl)
theorem w_3_21 : Cond.methodLink RX6 5 objectInit ∈ wsL_law := wi_3 _ (List.mem_of_getElem? (i := 21) rfl)
theorem w_3_22 : Cond.fieldLink RX6 13 "RoundThrow$Pushes" "ticks" "[I" ∈ wsL_law := wi_3 _ (List.mem_of_getElem? (i := 22) rfl)
theorem w_3_23 : Cond.fieldLink RX6 17 "RoundThrow$Pushes" "sizes" "[I" ∈ wsL_law := wi_3 _ (List.mem_of_getElem? (i := 23) rfl)
theorem w_4_0 : Cond.instanceMethod yX2_init ∈ wsL_law := wi_4 _ (List.mem_of_getElem? (i := 0) rfl)
theorem w_4_1 : Cond.code yX2_init cX2_init 1 none ∈ wsL_law := wi_4 _ (List.mem_of_getElem? (i := 1) rfl)
theorem w_4_2 : Cond.methodLink RX2 1 objectInit ∈ wsL_law := wi_4 _ (List.mem_of_getElem? (i := 2) rfl)
theorem w_4_3 : Cond.fieldLink RX2 9 "RoundThrow$Film" "xs" "[I" ∈ wsL_law := wi_4 _ (List.mem_of_getElem? (i := 3) rfl)
theorem w_4_4 : Cond.fieldLink RX2 13 "RoundThrow$Film" "ys" "[I" ∈ wsL_law := wi_4 _ (List.mem_of_getElem? (i := 4) rfl)
theorem w_4_5 : Cond.instanceMethod yX5_init ∈ wsL_law := wi_4 _ (List.mem_of_getElem? (i := 5) rfl)
theorem w_4_6 : Cond.code yX5_init cX5_init 1 none ∈ wsL_law := wi_4 _ (List.mem_of_getElem? (i := 6) rfl)
theorem w_4_7 : Cond.methodLink RX5 3 objectInit ∈ wsL_law := wi_4 _ (List.mem_of_getElem? (i := 7) rfl)
theorem w_4_8 : Cond.fieldLink RX5 9 "RoundThrow$Platform" "angles" "[I" ∈ wsL_law := wi_4 _ (List.mem_of_getElem? (i := 8) rfl)
theorem w_4_9 : Cond.fieldLink RX5 15 "RoundThrow$Platform" "paces" "[I" ∈ wsL_law := wi_4 _ (List.mem_of_getElem? (i := 9) rfl)
theorem w_4_10 : Cond.instanceMethod yX0_init ∈ wsL_law := wi_4 _ (List.mem_of_getElem? (i := 10) rfl)
theorem w_4_11 : Cond.code yX0_init cX0_init 1 none ∈ wsL_law := wi_4 _ (List.mem_of_getElem? (i := 11) rfl)
theorem w_4_12 : Cond.methodLink RX0 3 objectInit ∈ wsL_law := wi_4 _ (List.mem_of_getElem? (i := 12) rfl)
theorem w_4_13 : Cond.instanceMethod yX8_init ∈ wsL_law := wi_4 _ (List.mem_of_getElem? (i := 13) rfl)
theorem w_4_14 : Cond.code yX8_init cX8_init 1 none ∈ wsL_law := wi_4 _ (List.mem_of_getElem? (i := 14) rfl)
theorem w_4_15 : Cond.methodLink RX8 3 objectInit ∈ wsL_law := wi_4 _ (List.mem_of_getElem? (i := 15) rfl)
theorem w_4_16 : Cond.arrayClass .long ∈ wsL_law := wi_4 _ (List.mem_of_getElem? (i := 16) rfl)
theorem w_4_17 : Cond.fieldLink RX8 9 "RoundThrow$Track" "xs" "[J" ∈ wsL_law := wi_4 _ (List.mem_of_getElem? (i := 17) rfl)
theorem w_4_18 : Cond.fieldLink RX8 15 "RoundThrow$Track" "ys" "[J" ∈ wsL_law := wi_4 _ (List.mem_of_getElem? (i := 18) rfl)
theorem w_4_19 : Cond.instanceMethod yX1_init ∈ wsL_law := wi_4 _ (List.mem_of_getElem? (i := 19) rfl)
theorem w_4_20 : Cond.code yX1_init cX1_init 1 none ∈ wsL_law := wi_4 _ (List.mem_of_getElem? (i := 20) rfl)
theorem w_4_21 : Cond.methodLink RX1 3 objectInit ∈ wsL_law := wi_4 _ (List.mem_of_getElem? (i := 21) rfl)
theorem w_4_22 : Cond.fieldLink RX1 11 "RoundThrow$CatchTable" "rows" "[I" ∈ wsL_law := wi_4 _ (List.mem_of_getElem? (i := 22) rfl)
theorem w_4_23 : Cond.instanceMethod yX3_init ∈ wsL_law := wi_4 _ (List.mem_of_getElem? (i := 23) rfl)
theorem w_5_0 : Cond.code yX3_init cX3_init 1 none ∈ wsL_law := wi_5 _ (List.mem_of_getElem? (i := 0) rfl)
theorem w_5_1 : Cond.methodLink RX3 3 objectInit ∈ wsL_law := wi_5 _ (List.mem_of_getElem? (i := 1) rfl)
theorem w_5_2 : Cond.methodLink RL 12 yX11_init ∈ wsL_law := wi_5 _ (List.mem_of_getElem? (i := 2) rfl)
theorem w_5_3 : Cond.instanceMethod yX11_init ∈ wsL_law := wi_5 _ (List.mem_of_getElem? (i := 3) rfl)
theorem w_5_4 : Cond.code yX11_init cX11_init 2 none ∈ wsL_law := wi_5 _ (List.mem_of_getElem? (i := 4) rfl)
theorem w_5_5 : Cond.methodLink RX11 1 objectInit ∈ wsL_law := wi_5 _ (List.mem_of_getElem? (i := 5) rfl)
theorem w_5_6 : Cond.fieldLink RX11 7 "RoundThrowModel" "sines" "[I" ∈ wsL_law := wi_5 _ (List.mem_of_getElem? (i := 6) rfl)
theorem w_5_7 : Cond.fieldLink RX11 13 "RoundThrowModel" "sets" "[I" ∈ wsL_law := wi_5 _ (List.mem_of_getElem? (i := 7) rfl)
theorem w_5_8 : Cond.fieldLink RX11 16 "RoundThrowModel" "angles" "[I" ∈ wsL_law := wi_5 _ (List.mem_of_getElem? (i := 8) rfl)
theorem w_5_9 : Cond.fieldLink RX11 19 "RoundThrowModel" "paces" "[I" ∈ wsL_law := wi_5 _ (List.mem_of_getElem? (i := 9) rfl)
theorem w_5_10 : Cond.fieldLink RX11 22 "RoundThrowModel" "signs" "[I" ∈ wsL_law := wi_5 _ (List.mem_of_getElem? (i := 10) rfl)
theorem w_5_11 : Cond.fieldLink RX11 25 "RoundThrowModel" "pushAt" "[I" ∈ wsL_law := wi_5 _ (List.mem_of_getElem? (i := 11) rfl)
theorem w_5_12 : Cond.fieldLink RX11 28 "RoundThrowModel" "pushBy" "[I" ∈ wsL_law := wi_5 _ (List.mem_of_getElem? (i := 12) rfl)
theorem w_5_13 : Cond.fieldLink RX11 31 "RoundThrowModel" "oneX" "[I" ∈ wsL_law := wi_5 _ (List.mem_of_getElem? (i := 13) rfl)
theorem w_5_14 : Cond.fieldLink RX11 34 "RoundThrowModel" "oneY" "[I" ∈ wsL_law := wi_5 _ (List.mem_of_getElem? (i := 14) rfl)
theorem w_5_15 : Cond.arrayClass .boolean ∈ wsL_law := wi_5 _ (List.mem_of_getElem? (i := 15) rfl)
theorem w_5_16 : Cond.fieldLink RX11 37 "RoundThrowModel" "isCaught" "[Z" ∈ wsL_law := wi_5 _ (List.mem_of_getElem? (i := 16) rfl)
theorem w_5_17 : Cond.fieldLink RX11 41 "RoundThrowModel" "seenX" "[I" ∈ wsL_law := wi_5 _ (List.mem_of_getElem? (i := 17) rfl)
theorem w_5_18 : Cond.fieldLink RX11 44 "RoundThrowModel" "seenY" "[I" ∈ wsL_law := wi_5 _ (List.mem_of_getElem? (i := 18) rfl)
theorem w_5_19 : Cond.fieldLink RX11 47 "RoundThrowModel" "filmX" "[I" ∈ wsL_law := wi_5 _ (List.mem_of_getElem? (i := 19) rfl)
theorem w_5_20 : Cond.fieldLink RX11 50 "RoundThrowModel" "filmY" "[I" ∈ wsL_law := wi_5 _ (List.mem_of_getElem? (i := 20) rfl)
theorem w_5_21 : Cond.fieldLink RX11 53 "RoundThrowModel" "groundX" "[I" ∈ wsL_law := wi_5 _ (List.mem_of_getElem? (i := 21) rfl)
theorem w_5_22 : Cond.fieldLink RX11 56 "RoundThrowModel" "groundY" "[I" ∈ wsL_law := wi_5 _ (List.mem_of_getElem? (i := 22) rfl)
theorem w_5_23 : Cond.fieldLink RX11 59 "RoundThrowModel" "kept" "[I" ∈ wsL_law := wi_5 _ (List.mem_of_getElem? (i := 23) rfl)
theorem w_6_0 : Cond.fieldLink RX11 62 "RoundThrowModel" "isKept" "[Z" ∈ wsL_law := wi_6 _ (List.mem_of_getElem? (i := 0) rfl)
theorem w_6_1 : Cond.methodLink RL 13 yX10_set ∈ wsL_law := wi_6 _ (List.mem_of_getElem? (i := 1) rfl)
theorem w_6_2 : Cond.instanceMethod yX10_set ∈ wsL_law := wi_6 _ (List.mem_of_getElem? (i := 2) rfl)
theorem w_6_3 : Cond.selects RX10 yX10_set yX10_set ∈ wsL_law := wi_6 _ (List.mem_of_getElem? (i := 3) rfl)
theorem w_6_4 : Cond.code yX10_set cX10_set 4 (some .int) ∈ wsL_law := wi_6 _ (List.mem_of_getElem? (i := 4) rfl)
theorem w_6_5 : Cond.fieldLink RX10 66 "RoundThrow$Setup" "settings" "[I" ∈ wsL_law := wi_6 _ (List.mem_of_getElem? (i := 5) rfl)
theorem w_6_6 : Cond.methodLink RX10 62 yX7_takes ∈ wsL_law := wi_6 _ (List.mem_of_getElem? (i := 6) rfl)
theorem w_6_7 : Cond.static yX7_takes ∈ wsL_law := wi_6 _ (List.mem_of_getElem? (i := 7) rfl)
theorem w_6_8 : Cond.code yX7_takes cX7_takes 2 (some .boolean) ∈ wsL_law := wi_6 _ (List.mem_of_getElem? (i := 8) rfl)
theorem w_6_9 : Cond.fieldLink RX7 47 "RoundThrow$Setup" "LEAST" "[I" ∈ wsL_law := wi_6 _ (List.mem_of_getElem? (i := 9) rfl)
theorem w_6_10 : Cond.fieldLink RX7 50 "RoundThrow$Setup" "MOST" "[I" ∈ wsL_law := wi_6 _ (List.mem_of_getElem? (i := 10) rfl)
theorem w_6_11 : Cond.static yX10_within ∈ wsL_law := wi_6 _ (List.mem_of_getElem? (i := 11) rfl)
theorem w_6_12 : Cond.code yX10_within cX10_within 3 (some .boolean) ∈ wsL_law := wi_6 _ (List.mem_of_getElem? (i := 12) rfl)
theorem w_6_13 : Cond.methodLink RL 17 yX11_set ∈ wsL_law := wi_6 _ (List.mem_of_getElem? (i := 13) rfl)
theorem w_6_14 : Cond.instanceMethod yX11_set ∈ wsL_law := wi_6 _ (List.mem_of_getElem? (i := 14) rfl)
theorem w_6_15 : Cond.selects RX11 yX11_set yX11_set ∈ wsL_law := wi_6 _ (List.mem_of_getElem? (i := 15) rfl)
theorem w_6_16 : Cond.code yX11_set cX11_set 6 (some .int) ∈ wsL_law := wi_6 _ (List.mem_of_getElem? (i := 16) rfl)
theorem w_6_17 : Cond.constantLong RX11 82 (4) ∈ wsL_law := wi_6 _ (List.mem_of_getElem? (i := 17) rfl)
theorem w_6_18 : Cond.methodLink RX11 67 yX11_in ∈ wsL_law := wi_6 _ (List.mem_of_getElem? (i := 18) rfl)
theorem w_6_19 : Cond.static yX11_in ∈ wsL_law := wi_6 _ (List.mem_of_getElem? (i := 19) rfl)
theorem w_6_20 : Cond.code yX11_in cX11_in 6 (some .boolean) ∈ wsL_law := wi_6 _ (List.mem_of_getElem? (i := 20) rfl)
theorem w_6_21 : Cond.methodLink RX11 84 yX11_setNow ∈ wsL_law := wi_6 _ (List.mem_of_getElem? (i := 21) rfl)
theorem w_6_22 : Cond.instanceMethod yX11_setNow ∈ wsL_law := wi_6 _ (List.mem_of_getElem? (i := 22) rfl)
theorem w_6_23 : Cond.selects RX11 yX11_setNow yX11_setNow ∈ wsL_law := wi_6 _ (List.mem_of_getElem? (i := 23) rfl)
theorem w_7_0 : Cond.code yX11_setNow cX11_setNow 2 (some .int) ∈ wsL_law := wi_7 _ (List.mem_of_getElem? (i := 0) rfl)
theorem w_7_1 : Cond.methodLink RL 18 yX10_say ∈ wsL_law := wi_7 _ (List.mem_of_getElem? (i := 1) rfl)
theorem w_7_2 : Cond.instanceMethod yX10_say ∈ wsL_law := wi_7 _ (List.mem_of_getElem? (i := 2) rfl)
theorem w_7_3 : Cond.selects RX10 yX10_say yX10_say ∈ wsL_law := wi_7 _ (List.mem_of_getElem? (i := 3) rfl)
theorem w_7_4 : Cond.code yX10_say cX10_say 2 (some .int) ∈ wsL_law := wi_7 _ (List.mem_of_getElem? (i := 4) rfl)
theorem w_7_5 : Cond.fieldLink RX10 78 "RoundThrow$Pad" "length" "I" ∈ wsL_law := wi_7 _ (List.mem_of_getElem? (i := 5) rfl)
theorem w_7_6 : Cond.methodLink RX10 70 yX10_within ∈ wsL_law := wi_7 _ (List.mem_of_getElem? (i := 6) rfl)
theorem w_7_7 : Cond.methodLink RX10 74 yX4_add ∈ wsL_law := wi_7 _ (List.mem_of_getElem? (i := 7) rfl)
theorem w_7_8 : Cond.instanceMethod yX4_add ∈ wsL_law := wi_7 _ (List.mem_of_getElem? (i := 8) rfl)
theorem w_7_9 : Cond.selects RX4 yX4_add yX4_add ∈ wsL_law := wi_7 _ (List.mem_of_getElem? (i := 9) rfl)
theorem w_7_10 : Cond.code yX4_add cX4_add 2 (some .boolean) ∈ wsL_law := wi_7 _ (List.mem_of_getElem? (i := 10) rfl)
theorem w_7_11 : Cond.fieldLink RX4 15 "RoundThrow$Pad" "length" "I" ∈ wsL_law := wi_7 _ (List.mem_of_getElem? (i := 11) rfl)
theorem w_7_12 : Cond.methodLink RL 22 yX11_say ∈ wsL_law := wi_7 _ (List.mem_of_getElem? (i := 12) rfl)
theorem w_7_13 : Cond.instanceMethod yX11_say ∈ wsL_law := wi_7 _ (List.mem_of_getElem? (i := 13) rfl)
theorem w_7_14 : Cond.selects RX11 yX11_say yX11_say ∈ wsL_law := wi_7 _ (List.mem_of_getElem? (i := 14) rfl)
theorem w_7_15 : Cond.code yX11_say cX11_say 2 (some .int) ∈ wsL_law := wi_7 _ (List.mem_of_getElem? (i := 15) rfl)
theorem w_7_16 : Cond.constantLong RX11 88 (33) ∈ wsL_law := wi_7 _ (List.mem_of_getElem? (i := 16) rfl)
theorem w_7_17 : Cond.constantLong RX11 90 (126) ∈ wsL_law := wi_7 _ (List.mem_of_getElem? (i := 17) rfl)
theorem w_7_18 : Cond.fieldLink RX11 92 "RoundThrowModel" "signMany" "I" ∈ wsL_law := wi_7 _ (List.mem_of_getElem? (i := 18) rfl)
theorem w_7_19 : Cond.methodLink RL 23 yX10_wipe ∈ wsL_law := wi_7 _ (List.mem_of_getElem? (i := 19) rfl)
theorem w_7_20 : Cond.instanceMethod yX10_wipe ∈ wsL_law := wi_7 _ (List.mem_of_getElem? (i := 20) rfl)
theorem w_7_21 : Cond.selects RX10 yX10_wipe yX10_wipe ∈ wsL_law := wi_7 _ (List.mem_of_getElem? (i := 21) rfl)
theorem w_7_22 : Cond.code yX10_wipe cX10_wipe 2 (some .int) ∈ wsL_law := wi_7 _ (List.mem_of_getElem? (i := 22) rfl)
theorem w_7_23 : Cond.methodLink RL 27 yX11_wipe ∈ wsL_law := wi_7 _ (List.mem_of_getElem? (i := 23) rfl)
theorem w_8_0 : Cond.instanceMethod yX11_wipe ∈ wsL_law := wi_8 _ (List.mem_of_getElem? (i := 0) rfl)
theorem w_8_1 : Cond.selects RX11 yX11_wipe yX11_wipe ∈ wsL_law := wi_8 _ (List.mem_of_getElem? (i := 1) rfl)
theorem w_8_2 : Cond.code yX11_wipe cX11_wipe 2 (some .int) ∈ wsL_law := wi_8 _ (List.mem_of_getElem? (i := 2) rfl)
theorem w_8_3 : Cond.methodLink RL 28 yX10_fault ∈ wsL_law := wi_8 _ (List.mem_of_getElem? (i := 3) rfl)
theorem w_8_4 : Cond.instanceMethod yX10_fault ∈ wsL_law := wi_8 _ (List.mem_of_getElem? (i := 4) rfl)
theorem w_8_5 : Cond.selects RX10 yX10_fault yX10_fault ∈ wsL_law := wi_8 _ (List.mem_of_getElem? (i := 5) rfl)
theorem w_8_6 : Cond.code yX10_fault cX10_fault 1 (some .int) ∈ wsL_law := wi_8 _ (List.mem_of_getElem? (i := 6) rfl)
theorem w_8_7 : Cond.methodLink RX10 82 yX4_faultPlace ∈ wsL_law := wi_8 _ (List.mem_of_getElem? (i := 7) rfl)
theorem w_8_8 : Cond.instanceMethod yX4_faultPlace ∈ wsL_law := wi_8 _ (List.mem_of_getElem? (i := 8) rfl)
theorem w_8_9 : Cond.selects RX4 yX4_faultPlace yX4_faultPlace ∈ wsL_law := wi_8 _ (List.mem_of_getElem? (i := 9) rfl)
theorem w_8_10 : Cond.code yX4_faultPlace cX4_faultPlace 3 (some .int) ∈ wsL_law := wi_8 _ (List.mem_of_getElem? (i := 10) rfl)
theorem w_8_11 : Cond.methodLink RX4 19 yX4_behind ∈ wsL_law := wi_8 _ (List.mem_of_getElem? (i := 11) rfl)
theorem w_8_12 : Cond.static yX4_behind ∈ wsL_law := wi_8 _ (List.mem_of_getElem? (i := 12) rfl)
theorem w_8_13 : Cond.code yX4_behind cX4_behind 3 (some .int) ∈ wsL_law := wi_8 _ (List.mem_of_getElem? (i := 13) rfl)
theorem w_8_14 : Cond.methodLink RX4 23 yX4_isDigit ∈ wsL_law := wi_8 _ (List.mem_of_getElem? (i := 14) rfl)
theorem w_8_15 : Cond.static yX4_isDigit ∈ wsL_law := wi_8 _ (List.mem_of_getElem? (i := 15) rfl)
theorem w_8_16 : Cond.code yX4_isDigit cX4_isDigit 1 (some .boolean) ∈ wsL_law := wi_8 _ (List.mem_of_getElem? (i := 16) rfl)
theorem w_8_17 : Cond.methodLink RL 31 yX11_fault ∈ wsL_law := wi_8 _ (List.mem_of_getElem? (i := 17) rfl)
theorem w_8_18 : Cond.instanceMethod yX11_fault ∈ wsL_law := wi_8 _ (List.mem_of_getElem? (i := 18) rfl)
theorem w_8_19 : Cond.selects RX11 yX11_fault yX11_fault ∈ wsL_law := wi_8 _ (List.mem_of_getElem? (i := 19) rfl)
theorem w_8_20 : Cond.code yX11_fault cX11_fault 4 (some .int) ∈ wsL_law := wi_8 _ (List.mem_of_getElem? (i := 20) rfl)
theorem w_8_21 : Cond.constantLong RX11 99 (49) ∈ wsL_law := wi_8 _ (List.mem_of_getElem? (i := 21) rfl)
theorem w_8_22 : Cond.constantLong RX11 97 (57) ∈ wsL_law := wi_8 _ (List.mem_of_getElem? (i := 22) rfl)
theorem w_8_23 : Cond.methodLink RX11 101 yX11_isDigit ∈ wsL_law := wi_8 _ (List.mem_of_getElem? (i := 23) rfl)
theorem w_9_0 : Cond.static yX11_isDigit ∈ wsL_law := wi_9 _ (List.mem_of_getElem? (i := 0) rfl)
theorem w_9_1 : Cond.code yX11_isDigit cX11_isDigit 1 (some .boolean) ∈ wsL_law := wi_9 _ (List.mem_of_getElem? (i := 1) rfl)
theorem w_9_2 : Cond.constantLong RX11 95 (48) ∈ wsL_law := wi_9 _ (List.mem_of_getElem? (i := 2) rfl)
theorem w_9_3 : Cond.methodLink RL 32 yX10_push ∈ wsL_law := wi_9 _ (List.mem_of_getElem? (i := 3) rfl)
theorem w_9_4 : Cond.instanceMethod yX10_push ∈ wsL_law := wi_9 _ (List.mem_of_getElem? (i := 4) rfl)
theorem w_9_5 : Cond.selects RX10 yX10_push yX10_push ∈ wsL_law := wi_9 _ (List.mem_of_getElem? (i := 5) rfl)
theorem w_9_6 : Cond.code yX10_push cX10_push 1 (some .int) ∈ wsL_law := wi_9 _ (List.mem_of_getElem? (i := 6) rfl)
theorem w_9_7 : Cond.fieldLink RX10 86 "RoundThrow$Setup" "pushes" "LRoundThrow$Pushes;" ∈ wsL_law := wi_9 _ (List.mem_of_getElem? (i := 7) rfl)
theorem w_9_8 : Cond.fieldLink RX10 96 "RoundThrow$Pushes" "parts" "I" ∈ wsL_law := wi_9 _ (List.mem_of_getElem? (i := 8) rfl)
theorem w_9_9 : Cond.methodLink RX10 90 yX6_read ∈ wsL_law := wi_9 _ (List.mem_of_getElem? (i := 9) rfl)
theorem w_9_10 : Cond.instanceMethod yX6_read ∈ wsL_law := wi_9 _ (List.mem_of_getElem? (i := 10) rfl)
theorem w_9_11 : Cond.selects RX6 yX6_read yX6_read ∈ wsL_law := wi_9 _ (List.mem_of_getElem? (i := 11) rfl)
theorem w_9_12 : Cond.code yX6_read cX6_read 6 none ∈ wsL_law := wi_9 _ (List.mem_of_getElem? (i := 12) rfl)
theorem w_9_13 : Cond.fieldLink RX6 20 "RoundThrow$Pushes" "count" "I" ∈ wsL_law := wi_9 _ (List.mem_of_getElem? (i := 13) rfl)
theorem w_9_14 : Cond.fieldLink RX6 24 "RoundThrow$Pushes" "parts" "I" ∈ wsL_law := wi_9 _ (List.mem_of_getElem? (i := 14) rfl)
theorem w_9_15 : Cond.fieldLink RX6 27 "RoundThrow$Pad" "length" "I" ∈ wsL_law := wi_9 _ (List.mem_of_getElem? (i := 15) rfl)
theorem w_9_16 : Cond.fieldLink RX6 30 "RoundThrow$Pad" "signs" "[I" ∈ wsL_law := wi_9 _ (List.mem_of_getElem? (i := 16) rfl)
theorem w_9_17 : Cond.methodLink RX6 33 yX4_isDigit ∈ wsL_law := wi_9 _ (List.mem_of_getElem? (i := 17) rfl)
theorem w_9_18 : Cond.methodLink RX6 37 yX6_numberBehind ∈ wsL_law := wi_9 _ (List.mem_of_getElem? (i := 18) rfl)
theorem w_9_19 : Cond.static yX6_numberBehind ∈ wsL_law := wi_9 _ (List.mem_of_getElem? (i := 19) rfl)
theorem w_9_20 : Cond.code yX6_numberBehind cX6_numberBehind 4 (some .int) ∈ wsL_law := wi_9 _ (List.mem_of_getElem? (i := 20) rfl)
theorem w_9_21 : Cond.methodLink RL 35 yX11_push ∈ wsL_law := wi_9 _ (List.mem_of_getElem? (i := 21) rfl)
theorem w_9_22 : Cond.instanceMethod yX11_push ∈ wsL_law := wi_9 _ (List.mem_of_getElem? (i := 22) rfl)
theorem w_9_23 : Cond.selects RX11 yX11_push yX11_push ∈ wsL_law := wi_9 _ (List.mem_of_getElem? (i := 23) rfl)
theorem w_10_0 : Cond.code yX11_push cX11_push 5 (some .int) ∈ wsL_law := wi_10 _ (List.mem_of_getElem? (i := 0) rfl)
theorem w_10_1 : Cond.fieldLink RX11 109 "RoundThrowModel" "pushMany" "I" ∈ wsL_law := wi_10 _ (List.mem_of_getElem? (i := 1) rfl)
theorem w_10_2 : Cond.fieldLink RX11 112 "RoundThrowModel" "partMany" "I" ∈ wsL_law := wi_10 _ (List.mem_of_getElem? (i := 2) rfl)
theorem w_10_3 : Cond.methodLink RX11 105 yX11_fault ∈ wsL_law := wi_10 _ (List.mem_of_getElem? (i := 3) rfl)
theorem w_10_4 : Cond.methodLink RL 36 yX10_turn ∈ wsL_law := wi_10 _ (List.mem_of_getElem? (i := 4) rfl)
theorem w_10_5 : Cond.instanceMethod yX10_turn ∈ wsL_law := wi_10 _ (List.mem_of_getElem? (i := 5) rfl)
theorem w_10_6 : Cond.selects RX10 yX10_turn yX10_turn ∈ wsL_law := wi_10 _ (List.mem_of_getElem? (i := 6) rfl)
theorem w_10_7 : Cond.code yX10_turn cX10_turn 3 (some .int) ∈ wsL_law := wi_10 _ (List.mem_of_getElem? (i := 7) rfl)
theorem w_10_8 : Cond.fieldLink RX10 109 "RoundThrow$Platform" "angles" "[I" ∈ wsL_law := wi_10 _ (List.mem_of_getElem? (i := 8) rfl)
theorem w_10_9 : Cond.fieldLink RX10 112 "RoundThrow$Platform" "paces" "[I" ∈ wsL_law := wi_10 _ (List.mem_of_getElem? (i := 9) rfl)
theorem w_10_10 : Cond.methodLink RX10 99 yX10_isTick ∈ wsL_law := wi_10 _ (List.mem_of_getElem? (i := 10) rfl)
theorem w_10_11 : Cond.static yX10_isTick ∈ wsL_law := wi_10 _ (List.mem_of_getElem? (i := 11) rfl)
theorem w_10_12 : Cond.code yX10_isTick cX10_isTick 1 (some .boolean) ∈ wsL_law := wi_10 _ (List.mem_of_getElem? (i := 12) rfl)
theorem w_10_13 : Cond.methodLink RX10 102 yX7_pace ∈ wsL_law := wi_10 _ (List.mem_of_getElem? (i := 13) rfl)
theorem w_10_14 : Cond.instanceMethod yX7_pace ∈ wsL_law := wi_10 _ (List.mem_of_getElem? (i := 14) rfl)
theorem w_10_15 : Cond.selects RX7 yX7_pace yX7_pace ∈ wsL_law := wi_10 _ (List.mem_of_getElem? (i := 15) rfl)
theorem w_10_16 : Cond.code yX7_pace cX7_pace 1 (some .int) ∈ wsL_law := wi_10 _ (List.mem_of_getElem? (i := 16) rfl)
theorem w_10_17 : Cond.methodLink RX10 105 yX5_run ∈ wsL_law := wi_10 _ (List.mem_of_getElem? (i := 17) rfl)
theorem w_10_18 : Cond.instanceMethod yX5_run ∈ wsL_law := wi_10 _ (List.mem_of_getElem? (i := 18) rfl)
theorem w_10_19 : Cond.selects RX5 yX5_run yX5_run ∈ wsL_law := wi_10 _ (List.mem_of_getElem? (i := 19) rfl)
theorem w_10_20 : Cond.code yX5_run cX5_run 5 none ∈ wsL_law := wi_10 _ (List.mem_of_getElem? (i := 20) rfl)
theorem w_10_21 : Cond.fieldLink RX5 18 "RoundThrow$Setup" "pushes" "LRoundThrow$Pushes;" ∈ wsL_law := wi_10 _ (List.mem_of_getElem? (i := 21) rfl)
theorem w_10_22 : Cond.methodLink RX5 24 yX6_paceAt ∈ wsL_law := wi_10 _ (List.mem_of_getElem? (i := 22) rfl)
theorem w_10_23 : Cond.instanceMethod yX6_paceAt ∈ wsL_law := wi_10 _ (List.mem_of_getElem? (i := 23) rfl)
theorem w_11_0 : Cond.selects RX6 yX6_paceAt yX6_paceAt ∈ wsL_law := wi_11 _ (List.mem_of_getElem? (i := 0) rfl)
theorem w_11_1 : Cond.code yX6_paceAt cX6_paceAt 5 (some .int) ∈ wsL_law := wi_11 _ (List.mem_of_getElem? (i := 1) rfl)
theorem w_11_2 : Cond.methodLink RX6 41 Lib.Math.min.name ∈ wsL_law := wi_11 _ (List.mem_of_getElem? (i := 2) rfl)
theorem w_11_3 : Cond.static Lib.Math.min.name ∈ wsL_law := wi_11 _ (List.mem_of_getElem? (i := 3) rfl)
theorem w_11_4 : Cond.initialized "java/lang/Math" ∈ wsL_law := wi_11 _ (List.mem_of_getElem? (i := 4) rfl)
theorem w_11_5 : Cond.code Lib.Math.min.name Lib.Math.min.code 2 (some .int) ∈ wsL_law := wi_11 _ (List.mem_of_getElem? (i := 5) rfl)
theorem w_11_6 : Cond.methodLink RX6 47 Lib.Math.max.name ∈ wsL_law := wi_11 _ (List.mem_of_getElem? (i := 6) rfl)
theorem w_11_7 : Cond.static Lib.Math.max.name ∈ wsL_law := wi_11 _ (List.mem_of_getElem? (i := 7) rfl)
theorem w_11_8 : Cond.code Lib.Math.max.name Lib.Math.max.code 2 (some .int) ∈ wsL_law := wi_11 _ (List.mem_of_getElem? (i := 8) rfl)
theorem w_11_9 : Cond.methodLink RX5 30 yJ9_floorMod_7cf53 ∈ wsL_law := wi_11 _ (List.mem_of_getElem? (i := 9) rfl)
theorem w_11_10 : Cond.static yJ9_floorMod_7cf53 ∈ wsL_law := wi_11 _ (List.mem_of_getElem? (i := 10) rfl)
theorem w_11_11 : Cond.initialized RJ9 ∈ wsL_law := wi_11 _ (List.mem_of_getElem? (i := 11) rfl)
theorem w_11_12 : Cond.code yJ9_floorMod_7cf53 cJ9_floorMod_7cf53 3 (some .int) ∈ wsL_law := wi_11 _ (List.mem_of_getElem? (i := 12) rfl)
theorem w_11_13 : Cond.methodLink RX5 35 yX7_slows ∈ wsL_law := wi_11 _ (List.mem_of_getElem? (i := 13) rfl)
theorem w_11_14 : Cond.instanceMethod yX7_slows ∈ wsL_law := wi_11 _ (List.mem_of_getElem? (i := 14) rfl)
theorem w_11_15 : Cond.selects RX7 yX7_slows yX7_slows ∈ wsL_law := wi_11 _ (List.mem_of_getElem? (i := 15) rfl)
theorem w_11_16 : Cond.code yX7_slows cX7_slows 1 (some .int) ∈ wsL_law := wi_11 _ (List.mem_of_getElem? (i := 16) rfl)
theorem w_11_17 : Cond.methodLink RX5 39 yX5_nearerToZero ∈ wsL_law := wi_11 _ (List.mem_of_getElem? (i := 17) rfl)
theorem w_11_18 : Cond.static yX5_nearerToZero ∈ wsL_law := wi_11 _ (List.mem_of_getElem? (i := 18) rfl)
theorem w_11_19 : Cond.code yX5_nearerToZero cX5_nearerToZero 2 (some .int) ∈ wsL_law := wi_11 _ (List.mem_of_getElem? (i := 19) rfl)
theorem w_11_20 : Cond.methodLink RX5 42 Lib.Math.max.name ∈ wsL_law := wi_11 _ (List.mem_of_getElem? (i := 20) rfl)
theorem w_11_21 : Cond.methodLink RX5 45 Lib.Math.min.name ∈ wsL_law := wi_11 _ (List.mem_of_getElem? (i := 21) rfl)
theorem w_11_22 : Cond.methodLink RL 39 yX11_turn ∈ wsL_law := wi_11 _ (List.mem_of_getElem? (i := 22) rfl)
theorem w_11_23 : Cond.instanceMethod yX11_turn ∈ wsL_law := wi_11 _ (List.mem_of_getElem? (i := 23) rfl)
theorem w_12_0 : Cond.selects RX11 yX11_turn yX11_turn ∈ wsL_law := wi_12 _ (List.mem_of_getElem? (i := 0) rfl)
theorem w_12_1 : Cond.code yX11_turn cX11_turn 3 (some .int) ∈ wsL_law := wi_12 _ (List.mem_of_getElem? (i := 1) rfl)
theorem w_12_2 : Cond.methodLink RX11 118 yX11_isTick ∈ wsL_law := wi_12 _ (List.mem_of_getElem? (i := 2) rfl)
theorem w_12_3 : Cond.static yX11_isTick ∈ wsL_law := wi_12 _ (List.mem_of_getElem? (i := 3) rfl)
theorem w_12_4 : Cond.code yX11_isTick cX11_isTick 1 (some .boolean) ∈ wsL_law := wi_12 _ (List.mem_of_getElem? (i := 4) rfl)
theorem w_12_5 : Cond.constantLong RX11 71 (60) ∈ wsL_law := wi_12 _ (List.mem_of_getElem? (i := 5) rfl)
theorem w_12_6 : Cond.methodLink RX11 121 yX11_isEnd ∈ wsL_law := wi_12 _ (List.mem_of_getElem? (i := 6) rfl)
theorem w_12_7 : Cond.static yX11_isEnd ∈ wsL_law := wi_12 _ (List.mem_of_getElem? (i := 7) rfl)
theorem w_12_8 : Cond.code yX11_isEnd cX11_isEnd 1 (some .boolean) ∈ wsL_law := wi_12 _ (List.mem_of_getElem? (i := 8) rfl)
theorem w_12_9 : Cond.methodLink RX11 124 yX11_layTurns ∈ wsL_law := wi_12 _ (List.mem_of_getElem? (i := 9) rfl)
theorem w_12_10 : Cond.instanceMethod yX11_layTurns ∈ wsL_law := wi_12 _ (List.mem_of_getElem? (i := 10) rfl)
theorem w_12_11 : Cond.selects RX11 yX11_layTurns yX11_layTurns ∈ wsL_law := wi_12 _ (List.mem_of_getElem? (i := 11) rfl)
theorem w_12_12 : Cond.code yX11_layTurns cX11_layTurns 5 none ∈ wsL_law := wi_12 _ (List.mem_of_getElem? (i := 12) rfl)
theorem w_12_13 : Cond.methodLink RX11 115 yX11_held ∈ wsL_law := wi_12 _ (List.mem_of_getElem? (i := 13) rfl)
theorem w_12_14 : Cond.static yX11_held ∈ wsL_law := wi_12 _ (List.mem_of_getElem? (i := 14) rfl)
theorem w_12_15 : Cond.code yX11_held cX11_held 1 (some .int) ∈ wsL_law := wi_12 _ (List.mem_of_getElem? (i := 15) rfl)
theorem w_12_16 : Cond.methodLink RL 40 yX10_sit ∈ wsL_law := wi_12 _ (List.mem_of_getElem? (i := 16) rfl)
theorem w_12_17 : Cond.instanceMethod yX10_sit ∈ wsL_law := wi_12 _ (List.mem_of_getElem? (i := 17) rfl)
theorem w_12_18 : Cond.selects RX10 yX10_sit yX10_sit ∈ wsL_law := wi_12 _ (List.mem_of_getElem? (i := 18) rfl)
theorem w_12_19 : Cond.code yX10_sit cX10_sit 3 (some .int) ∈ wsL_law := wi_12 _ (List.mem_of_getElem? (i := 19) rfl)
theorem w_12_20 : Cond.fieldLink RX10 118 "RoundThrow$Setup" "ones" "I" ∈ wsL_law := wi_12 _ (List.mem_of_getElem? (i := 20) rfl)
theorem w_12_21 : Cond.methodLink RX10 115 yX10_isWay ∈ wsL_law := wi_12 _ (List.mem_of_getElem? (i := 21) rfl)
theorem w_12_22 : Cond.static yX10_isWay ∈ wsL_law := wi_12 _ (List.mem_of_getElem? (i := 22) rfl)
theorem w_12_23 : Cond.code yX10_isWay cX10_isWay 1 (some .boolean) ∈ wsL_law := wi_12 _ (List.mem_of_getElem? (i := 23) rfl)
theorem w_13_0 : Cond.methodLink RX10 121 yX7_seat ∈ wsL_law := wi_13 _ (List.mem_of_getElem? (i := 0) rfl)
theorem w_13_1 : Cond.instanceMethod yX7_seat ∈ wsL_law := wi_13 _ (List.mem_of_getElem? (i := 1) rfl)
theorem w_13_2 : Cond.selects RX7 yX7_seat yX7_seat ∈ wsL_law := wi_13 _ (List.mem_of_getElem? (i := 2) rfl)
theorem w_13_3 : Cond.code yX7_seat cX7_seat 4 (some .int) ∈ wsL_law := wi_13 _ (List.mem_of_getElem? (i := 3) rfl)
theorem w_13_4 : Cond.fieldLink RX7 53 "RoundThrow$Setup" "ones" "I" ∈ wsL_law := wi_13 _ (List.mem_of_getElem? (i := 4) rfl)
theorem w_13_5 : Cond.methodLink RX7 57 yX9_turnX ∈ wsL_law := wi_13 _ (List.mem_of_getElem? (i := 5) rfl)
theorem w_13_6 : Cond.static yX9_turnX ∈ wsL_law := wi_13 _ (List.mem_of_getElem? (i := 6) rfl)
theorem w_13_7 : Cond.initialized RX9 ∈ wsL_law := wi_13 _ (List.mem_of_getElem? (i := 7) rfl)
theorem w_13_8 : Cond.code yX9_turnX cX9_turnX 5 (some .long) ∈ wsL_law := wi_13 _ (List.mem_of_getElem? (i := 8) rfl)
theorem w_13_9 : Cond.constantLong RX9 28 (10000) ∈ wsL_law := wi_13 _ (List.mem_of_getElem? (i := 9) rfl)
theorem w_13_10 : Cond.methodLink RX9 21 yX9_cosine ∈ wsL_law := wi_13 _ (List.mem_of_getElem? (i := 10) rfl)
theorem w_13_11 : Cond.static yX9_cosine ∈ wsL_law := wi_13 _ (List.mem_of_getElem? (i := 11) rfl)
theorem w_13_12 : Cond.code yX9_cosine cX9_cosine 1 (some .long) ∈ wsL_law := wi_13 _ (List.mem_of_getElem? (i := 12) rfl)
theorem w_13_13 : Cond.fieldLink RX9 9 "RoundThrow$Ways" "SINES" "[I" ∈ wsL_law := wi_13 _ (List.mem_of_getElem? (i := 13) rfl)
theorem w_13_14 : Cond.methodLink RX9 15 yJ9_floorMod_7cf53 ∈ wsL_law := wi_13 _ (List.mem_of_getElem? (i := 14) rfl)
theorem w_13_15 : Cond.methodLink RX9 25 yX9_sine ∈ wsL_law := wi_13 _ (List.mem_of_getElem? (i := 15) rfl)
theorem w_13_16 : Cond.static yX9_sine ∈ wsL_law := wi_13 _ (List.mem_of_getElem? (i := 16) rfl)
theorem w_13_17 : Cond.code yX9_sine cX9_sine 1 (some .long) ∈ wsL_law := wi_13 _ (List.mem_of_getElem? (i := 17) rfl)
theorem w_13_18 : Cond.methodLink RX7 63 yX9_turnY ∈ wsL_law := wi_13 _ (List.mem_of_getElem? (i := 18) rfl)
theorem w_13_19 : Cond.static yX9_turnY ∈ wsL_law := wi_13 _ (List.mem_of_getElem? (i := 19) rfl)
theorem w_13_20 : Cond.code yX9_turnY cX9_turnY 5 (some .long) ∈ wsL_law := wi_13 _ (List.mem_of_getElem? (i := 20) rfl)
theorem w_13_21 : Cond.methodLink RL 43 yX11_sit ∈ wsL_law := wi_13 _ (List.mem_of_getElem? (i := 21) rfl)
theorem w_13_22 : Cond.instanceMethod yX11_sit ∈ wsL_law := wi_13 _ (List.mem_of_getElem? (i := 22) rfl)
theorem w_13_23 : Cond.selects RX11 yX11_sit yX11_sit ∈ wsL_law := wi_13 _ (List.mem_of_getElem? (i := 23) rfl)
theorem w_14_0 : Cond.code yX11_sit cX11_sit 3 (some .int) ∈ wsL_law := wi_14 _ (List.mem_of_getElem? (i := 0) rfl)
theorem w_14_1 : Cond.constantLong RX11 127 (1000) ∈ wsL_law := wi_14 _ (List.mem_of_getElem? (i := 1) rfl)
theorem w_14_2 : Cond.fieldLink RX11 132 "RoundThrowModel" "ones" "I" ∈ wsL_law := wi_14 _ (List.mem_of_getElem? (i := 2) rfl)
theorem w_14_3 : Cond.fieldLink RX11 75 "RoundThrowModel" "turnedX" "I" ∈ wsL_law := wi_14 _ (List.mem_of_getElem? (i := 3) rfl)
theorem w_14_4 : Cond.fieldLink RX11 79 "RoundThrowModel" "turnedY" "I" ∈ wsL_law := wi_14 _ (List.mem_of_getElem? (i := 4) rfl)
theorem w_14_5 : Cond.methodLink RX11 129 yX11_isWay ∈ wsL_law := wi_14 _ (List.mem_of_getElem? (i := 5) rfl)
theorem w_14_6 : Cond.static yX11_isWay ∈ wsL_law := wi_14 _ (List.mem_of_getElem? (i := 6) rfl)
theorem w_14_7 : Cond.code yX11_isWay cX11_isWay 1 (some .boolean) ∈ wsL_law := wi_14 _ (List.mem_of_getElem? (i := 7) rfl)
theorem w_14_8 : Cond.constantLong RX11 65 (23) ∈ wsL_law := wi_14 _ (List.mem_of_getElem? (i := 8) rfl)
theorem w_14_9 : Cond.methodLink RX11 135 yX11_turnPoint ∈ wsL_law := wi_14 _ (List.mem_of_getElem? (i := 9) rfl)
theorem w_14_10 : Cond.instanceMethod yX11_turnPoint ∈ wsL_law := wi_14 _ (List.mem_of_getElem? (i := 10) rfl)
theorem w_14_11 : Cond.selects RX11 yX11_turnPoint yX11_turnPoint ∈ wsL_law := wi_14 _ (List.mem_of_getElem? (i := 11) rfl)
theorem w_14_12 : Cond.code yX11_turnPoint cX11_turnPoint 8 none ∈ wsL_law := wi_14 _ (List.mem_of_getElem? (i := 12) rfl)
theorem w_14_13 : Cond.constantLong RX11 73 (10000) ∈ wsL_law := wi_14 _ (List.mem_of_getElem? (i := 13) rfl)
theorem w_14_14 : Cond.methodLink RL 44 yX10_point ∈ wsL_law := wi_14 _ (List.mem_of_getElem? (i := 14) rfl)
theorem w_14_15 : Cond.instanceMethod yX10_point ∈ wsL_law := wi_14 _ (List.mem_of_getElem? (i := 15) rfl)
theorem w_14_16 : Cond.selects RX10 yX10_point yX10_point ∈ wsL_law := wi_14 _ (List.mem_of_getElem? (i := 16) rfl)
theorem w_14_17 : Cond.code yX10_point cX10_point 7 (some .int) ∈ wsL_law := wi_14 _ (List.mem_of_getElem? (i := 17) rfl)
theorem w_14_18 : Cond.constant RX10 128 (-100000001) ∈ wsL_law := wi_14 _ (List.mem_of_getElem? (i := 18) rfl)
theorem w_14_19 : Cond.constant RX10 129 (-100000002) ∈ wsL_law := wi_14 _ (List.mem_of_getElem? (i := 19) rfl)
theorem w_14_20 : Cond.fieldLink RX10 130 "RoundThrow$Setup" "oneX" "[I" ∈ wsL_law := wi_14 _ (List.mem_of_getElem? (i := 20) rfl)
theorem w_14_21 : Cond.fieldLink RX10 133 "RoundThrow$Setup" "oneY" "[I" ∈ wsL_law := wi_14 _ (List.mem_of_getElem? (i := 21) rfl)
theorem w_14_22 : Cond.methodLink RX10 125 yX7_hasOne ∈ wsL_law := wi_14 _ (List.mem_of_getElem? (i := 22) rfl)
theorem w_14_23 : Cond.instanceMethod yX7_hasOne ∈ wsL_law := wi_14 _ (List.mem_of_getElem? (i := 23) rfl)
theorem w_15_0 : Cond.selects RX7 yX7_hasOne yX7_hasOne ∈ wsL_law := wi_15 _ (List.mem_of_getElem? (i := 0) rfl)
theorem w_15_1 : Cond.code yX7_hasOne cX7_hasOne 2 (some .boolean) ∈ wsL_law := wi_15 _ (List.mem_of_getElem? (i := 1) rfl)
theorem w_15_2 : Cond.methodLink RX10 136 yX5_wayBehind ∈ wsL_law := wi_15 _ (List.mem_of_getElem? (i := 2) rfl)
theorem w_15_3 : Cond.instanceMethod yX5_wayBehind ∈ wsL_law := wi_15 _ (List.mem_of_getElem? (i := 3) rfl)
theorem w_15_4 : Cond.selects RX5 yX5_wayBehind yX5_wayBehind ∈ wsL_law := wi_15 _ (List.mem_of_getElem? (i := 4) rfl)
theorem w_15_5 : Cond.code yX5_wayBehind cX5_wayBehind 2 (some .int) ∈ wsL_law := wi_15 _ (List.mem_of_getElem? (i := 5) rfl)
theorem w_15_6 : Cond.methodLink RX5 48 yX5_wayOf ∈ wsL_law := wi_15 _ (List.mem_of_getElem? (i := 6) rfl)
theorem w_15_7 : Cond.static yX5_wayOf ∈ wsL_law := wi_15 _ (List.mem_of_getElem? (i := 7) rfl)
theorem w_15_8 : Cond.code yX5_wayOf cX5_wayOf 1 (some .int) ∈ wsL_law := wi_15 _ (List.mem_of_getElem? (i := 8) rfl)
theorem w_15_9 : Cond.methodLink RX10 140 yX9_turnX ∈ wsL_law := wi_15 _ (List.mem_of_getElem? (i := 9) rfl)
theorem w_15_10 : Cond.methodLink RX10 146 yX9_turnY ∈ wsL_law := wi_15 _ (List.mem_of_getElem? (i := 10) rfl)
theorem w_15_11 : Cond.methodLink RL 48 yX11_point ∈ wsL_law := wi_15 _ (List.mem_of_getElem? (i := 11) rfl)
theorem w_15_12 : Cond.instanceMethod yX11_point ∈ wsL_law := wi_15 _ (List.mem_of_getElem? (i := 12) rfl)
theorem w_15_13 : Cond.selects RX11 yX11_point yX11_point ∈ wsL_law := wi_15 _ (List.mem_of_getElem? (i := 13) rfl)
theorem w_15_14 : Cond.code yX11_point cX11_point 4 (some .int) ∈ wsL_law := wi_15 _ (List.mem_of_getElem? (i := 14) rfl)
theorem w_15_15 : Cond.constant RX11 145 (-100000001) ∈ wsL_law := wi_15 _ (List.mem_of_getElem? (i := 15) rfl)
theorem w_15_16 : Cond.constantLong RX11 146 (3) ∈ wsL_law := wi_15 _ (List.mem_of_getElem? (i := 16) rfl)
theorem w_15_17 : Cond.constant RX11 148 (-100000002) ∈ wsL_law := wi_15 _ (List.mem_of_getElem? (i := 17) rfl)
theorem w_15_18 : Cond.methodLink RX11 142 yX11_isOne ∈ wsL_law := wi_15 _ (List.mem_of_getElem? (i := 18) rfl)
theorem w_15_19 : Cond.instanceMethod yX11_isOne ∈ wsL_law := wi_15 _ (List.mem_of_getElem? (i := 19) rfl)
theorem w_15_20 : Cond.selects RX11 yX11_isOne yX11_isOne ∈ wsL_law := wi_15 _ (List.mem_of_getElem? (i := 20) rfl)
theorem w_15_21 : Cond.code yX11_isOne cX11_isOne 2 (some .boolean) ∈ wsL_law := wi_15 _ (List.mem_of_getElem? (i := 21) rfl)
theorem w_15_22 : Cond.methodLink RX11 149 yX11_layOne ∈ wsL_law := wi_15 _ (List.mem_of_getElem? (i := 22) rfl)
theorem w_15_23 : Cond.instanceMethod yX11_layOne ∈ wsL_law := wi_15 _ (List.mem_of_getElem? (i := 23) rfl)
theorem w_16_0 : Cond.selects RX11 yX11_layOne yX11_layOne ∈ wsL_law := wi_16 _ (List.mem_of_getElem? (i := 0) rfl)
theorem w_16_1 : Cond.code yX11_layOne cX11_layOne 3 none ∈ wsL_law := wi_16 _ (List.mem_of_getElem? (i := 1) rfl)
theorem w_16_2 : Cond.methodLink RX11 139 yX11_wayAt ∈ wsL_law := wi_16 _ (List.mem_of_getElem? (i := 2) rfl)
theorem w_16_3 : Cond.instanceMethod yX11_wayAt ∈ wsL_law := wi_16 _ (List.mem_of_getElem? (i := 3) rfl)
theorem w_16_4 : Cond.selects RX11 yX11_wayAt yX11_wayAt ∈ wsL_law := wi_16 _ (List.mem_of_getElem? (i := 4) rfl)
theorem w_16_5 : Cond.code yX11_wayAt cX11_wayAt 2 (some .int) ∈ wsL_law := wi_16 _ (List.mem_of_getElem? (i := 5) rfl)
theorem w_16_6 : Cond.methodLink RL 49 yX10_ball ∈ wsL_law := wi_16 _ (List.mem_of_getElem? (i := 6) rfl)
theorem w_16_7 : Cond.instanceMethod yX10_ball ∈ wsL_law := wi_16 _ (List.mem_of_getElem? (i := 7) rfl)
theorem w_16_8 : Cond.selects RX10 yX10_ball yX10_ball ∈ wsL_law := wi_16 _ (List.mem_of_getElem? (i := 8) rfl)
theorem w_16_9 : Cond.code yX10_ball cX10_ball 11 (some .int) ∈ wsL_law := wi_16 _ (List.mem_of_getElem? (i := 9) rfl)
theorem w_16_10 : Cond.methodLink RX10 149 yX10_isThrow ∈ wsL_law := wi_16 _ (List.mem_of_getElem? (i := 10) rfl)
theorem w_16_11 : Cond.static yX10_isThrow ∈ wsL_law := wi_16 _ (List.mem_of_getElem? (i := 11) rfl)
theorem w_16_12 : Cond.code yX10_isThrow cX10_isThrow 2 (some .boolean) ∈ wsL_law := wi_16 _ (List.mem_of_getElem? (i := 12) rfl)
theorem w_16_13 : Cond.methodLink RX10 152 yX0_launch ∈ wsL_law := wi_16 _ (List.mem_of_getElem? (i := 13) rfl)
theorem w_16_14 : Cond.instanceMethod yX0_launch ∈ wsL_law := wi_16 _ (List.mem_of_getElem? (i := 14) rfl)
theorem w_16_15 : Cond.selects RX0 yX0_launch yX0_launch ∈ wsL_law := wi_16 _ (List.mem_of_getElem? (i := 15) rfl)
theorem w_16_16 : Cond.code yX0_launch cX0_launch 7 none ∈ wsL_law := wi_16 _ (List.mem_of_getElem? (i := 16) rfl)
theorem w_16_17 : Cond.fieldLink RX0 15 "RoundThrow$Ball" "x" "J" ∈ wsL_law := wi_16 _ (List.mem_of_getElem? (i := 17) rfl)
theorem w_16_18 : Cond.fieldLink RX0 21 "RoundThrow$Ball" "y" "J" ∈ wsL_law := wi_16 _ (List.mem_of_getElem? (i := 18) rfl)
theorem w_16_19 : Cond.fieldLink RX0 30 "RoundThrow$Ball" "besidesX" "J" ∈ wsL_law := wi_16 _ (List.mem_of_getElem? (i := 19) rfl)
theorem w_16_20 : Cond.fieldLink RX0 36 "RoundThrow$Ball" "besidesY" "J" ∈ wsL_law := wi_16 _ (List.mem_of_getElem? (i := 20) rfl)
theorem w_16_21 : Cond.methodLink RX0 9 yX5_wayBehind ∈ wsL_law := wi_16 _ (List.mem_of_getElem? (i := 21) rfl)
theorem w_16_22 : Cond.methodLink RX0 24 yX9_turnX ∈ wsL_law := wi_16 _ (List.mem_of_getElem? (i := 22) rfl)
theorem w_16_23 : Cond.methodLink RX0 33 yX9_turnY ∈ wsL_law := wi_16 _ (List.mem_of_getElem? (i := 23) rfl)
theorem w_17_0 : Cond.methodLink RX0 39 yX0_throwAnew ∈ wsL_law := wi_17 _ (List.mem_of_getElem? (i := 0) rfl)
theorem w_17_1 : Cond.instanceMethod yX0_throwAnew ∈ wsL_law := wi_17 _ (List.mem_of_getElem? (i := 1) rfl)
theorem w_17_2 : Cond.selects RX0 yX0_throwAnew yX0_throwAnew ∈ wsL_law := wi_17 _ (List.mem_of_getElem? (i := 2) rfl)
theorem w_17_3 : Cond.code yX0_throwAnew cX0_throwAnew 3 none ∈ wsL_law := wi_17 _ (List.mem_of_getElem? (i := 3) rfl)
theorem w_17_4 : Cond.fieldLink RX0 43 "RoundThrow$Ball" "stepX" "J" ∈ wsL_law := wi_17 _ (List.mem_of_getElem? (i := 4) rfl)
theorem w_17_5 : Cond.fieldLink RX0 46 "RoundThrow$Ball" "stepY" "J" ∈ wsL_law := wi_17 _ (List.mem_of_getElem? (i := 5) rfl)
theorem w_17_6 : Cond.methodLink RX10 156 yX0_xBehind ∈ wsL_law := wi_17 _ (List.mem_of_getElem? (i := 6) rfl)
theorem w_17_7 : Cond.instanceMethod yX0_xBehind ∈ wsL_law := wi_17 _ (List.mem_of_getElem? (i := 7) rfl)
theorem w_17_8 : Cond.selects RX0 yX0_xBehind yX0_xBehind ∈ wsL_law := wi_17 _ (List.mem_of_getElem? (i := 8) rfl)
theorem w_17_9 : Cond.code yX0_xBehind cX0_xBehind 2 (some .long) ∈ wsL_law := wi_17 _ (List.mem_of_getElem? (i := 9) rfl)
theorem w_17_10 : Cond.methodLink RX10 160 yX0_yBehind ∈ wsL_law := wi_17 _ (List.mem_of_getElem? (i := 10) rfl)
theorem w_17_11 : Cond.instanceMethod yX0_yBehind ∈ wsL_law := wi_17 _ (List.mem_of_getElem? (i := 11) rfl)
theorem w_17_12 : Cond.selects RX0 yX0_yBehind yX0_yBehind ∈ wsL_law := wi_17 _ (List.mem_of_getElem? (i := 12) rfl)
theorem w_17_13 : Cond.code yX0_yBehind cX0_yBehind 2 (some .long) ∈ wsL_law := wi_17 _ (List.mem_of_getElem? (i := 13) rfl)
theorem w_17_14 : Cond.methodLink RX10 163 yX5_wayBack ∈ wsL_law := wi_17 _ (List.mem_of_getElem? (i := 14) rfl)
theorem w_17_15 : Cond.instanceMethod yX5_wayBack ∈ wsL_law := wi_17 _ (List.mem_of_getElem? (i := 15) rfl)
theorem w_17_16 : Cond.selects RX5 yX5_wayBack yX5_wayBack ∈ wsL_law := wi_17 _ (List.mem_of_getElem? (i := 16) rfl)
theorem w_17_17 : Cond.code yX5_wayBack cX5_wayBack 2 (some .int) ∈ wsL_law := wi_17 _ (List.mem_of_getElem? (i := 17) rfl)
theorem w_17_18 : Cond.methodLink RX5 52 yX5_wayBehind ∈ wsL_law := wi_17 _ (List.mem_of_getElem? (i := 18) rfl)
theorem w_17_19 : Cond.methodLink RL 53 yX11_ball ∈ wsL_law := wi_17 _ (List.mem_of_getElem? (i := 19) rfl)
theorem w_17_20 : Cond.instanceMethod yX11_ball ∈ wsL_law := wi_17 _ (List.mem_of_getElem? (i := 20) rfl)
theorem w_17_21 : Cond.selects RX11 yX11_ball yX11_ball ∈ wsL_law := wi_17 _ (List.mem_of_getElem? (i := 21) rfl)
theorem w_17_22 : Cond.code yX11_ball cX11_ball 6 (some .int) ∈ wsL_law := wi_17 _ (List.mem_of_getElem? (i := 22) rfl)
theorem w_17_23 : Cond.methodLink RX11 173 yX11_isThrow ∈ wsL_law := wi_17 _ (List.mem_of_getElem? (i := 23) rfl)
theorem w_18_0 : Cond.static yX11_isThrow ∈ wsL_law := wi_18 _ (List.mem_of_getElem? (i := 0) rfl)
theorem w_18_1 : Cond.code yX11_isThrow cX11_isThrow 2 (some .boolean) ∈ wsL_law := wi_18 _ (List.mem_of_getElem? (i := 1) rfl)
theorem w_18_2 : Cond.constantLong RX11 171 (200) ∈ wsL_law := wi_18 _ (List.mem_of_getElem? (i := 2) rfl)
theorem w_18_3 : Cond.methodLink RX11 177 yX11_layThrow ∈ wsL_law := wi_18 _ (List.mem_of_getElem? (i := 3) rfl)
theorem w_18_4 : Cond.instanceMethod yX11_layThrow ∈ wsL_law := wi_18 _ (List.mem_of_getElem? (i := 4) rfl)
theorem w_18_5 : Cond.selects RX11 yX11_layThrow yX11_layThrow ∈ wsL_law := wi_18 _ (List.mem_of_getElem? (i := 5) rfl)
theorem w_18_6 : Cond.code yX11_layThrow cX11_layThrow 4 none ∈ wsL_law := wi_18 _ (List.mem_of_getElem? (i := 6) rfl)
theorem w_18_7 : Cond.fieldLink RX11 153 "RoundThrowModel" "fromX" "I" ∈ wsL_law := wi_18 _ (List.mem_of_getElem? (i := 7) rfl)
theorem w_18_8 : Cond.fieldLink RX11 156 "RoundThrowModel" "fromY" "I" ∈ wsL_law := wi_18 _ (List.mem_of_getElem? (i := 8) rfl)
theorem w_18_9 : Cond.fieldLink RX11 159 "RoundThrowModel" "goX" "I" ∈ wsL_law := wi_18 _ (List.mem_of_getElem? (i := 9) rfl)
theorem w_18_10 : Cond.fieldLink RX11 162 "RoundThrowModel" "goY" "I" ∈ wsL_law := wi_18 _ (List.mem_of_getElem? (i := 10) rfl)
theorem w_18_11 : Cond.methodLink RX11 165 yX11_ballX ∈ wsL_law := wi_18 _ (List.mem_of_getElem? (i := 11) rfl)
theorem w_18_12 : Cond.instanceMethod yX11_ballX ∈ wsL_law := wi_18 _ (List.mem_of_getElem? (i := 12) rfl)
theorem w_18_13 : Cond.selects RX11 yX11_ballX yX11_ballX ∈ wsL_law := wi_18 _ (List.mem_of_getElem? (i := 13) rfl)
theorem w_18_14 : Cond.code yX11_ballX cX11_ballX 2 (some .int) ∈ wsL_law := wi_18 _ (List.mem_of_getElem? (i := 14) rfl)
theorem w_18_15 : Cond.methodLink RX11 168 yX11_ballY ∈ wsL_law := wi_18 _ (List.mem_of_getElem? (i := 15) rfl)
theorem w_18_16 : Cond.instanceMethod yX11_ballY ∈ wsL_law := wi_18 _ (List.mem_of_getElem? (i := 16) rfl)
theorem w_18_17 : Cond.selects RX11 yX11_ballY yX11_ballY ∈ wsL_law := wi_18 _ (List.mem_of_getElem? (i := 17) rfl)
theorem w_18_18 : Cond.code yX11_ballY cX11_ballY 2 (some .int) ∈ wsL_law := wi_18 _ (List.mem_of_getElem? (i := 18) rfl)
theorem w_18_19 : Cond.methodLink RX11 180 yX11_seeBall ∈ wsL_law := wi_18 _ (List.mem_of_getElem? (i := 19) rfl)
theorem w_18_20 : Cond.instanceMethod yX11_seeBall ∈ wsL_law := wi_18 _ (List.mem_of_getElem? (i := 20) rfl)
theorem w_18_21 : Cond.selects RX11 yX11_seeBall yX11_seeBall ∈ wsL_law := wi_18 _ (List.mem_of_getElem? (i := 21) rfl)
theorem w_18_22 : Cond.code yX11_seeBall cX11_seeBall 2 none ∈ wsL_law := wi_18 _ (List.mem_of_getElem? (i := 22) rfl)
theorem w_18_23 : Cond.methodLink RL 54 yX10_caught ∈ wsL_law := wi_18 _ (List.mem_of_getElem? (i := 23) rfl)
theorem w_19_0 : Cond.instanceMethod yX10_caught ∈ wsL_law := wi_19 _ (List.mem_of_getElem? (i := 0) rfl)
theorem w_19_1 : Cond.selects RX10 yX10_caught yX10_caught ∈ wsL_law := wi_19 _ (List.mem_of_getElem? (i := 1) rfl)
theorem w_19_2 : Cond.code yX10_caught cX10_caught 5 (some .int) ∈ wsL_law := wi_19 _ (List.mem_of_getElem? (i := 2) rfl)
theorem w_19_3 : Cond.methodLink RX10 166 yX8_followSeat ∈ wsL_law := wi_19 _ (List.mem_of_getElem? (i := 3) rfl)
theorem w_19_4 : Cond.instanceMethod yX8_followSeat ∈ wsL_law := wi_19 _ (List.mem_of_getElem? (i := 4) rfl)
theorem w_19_5 : Cond.selects RX8 yX8_followSeat yX8_followSeat ∈ wsL_law := wi_19 _ (List.mem_of_getElem? (i := 5) rfl)
theorem w_19_6 : Cond.code yX8_followSeat cX8_followSeat 6 none ∈ wsL_law := wi_19 _ (List.mem_of_getElem? (i := 6) rfl)
theorem w_19_7 : Cond.methodLink RX8 18 yX5_wayBehind ∈ wsL_law := wi_19 _ (List.mem_of_getElem? (i := 7) rfl)
theorem w_19_8 : Cond.methodLink RX8 24 yX9_turnX ∈ wsL_law := wi_19 _ (List.mem_of_getElem? (i := 8) rfl)
theorem w_19_9 : Cond.methodLink RX8 30 yX9_turnY ∈ wsL_law := wi_19 _ (List.mem_of_getElem? (i := 9) rfl)
theorem w_19_10 : Cond.methodLink RX10 170 yX7_reach ∈ wsL_law := wi_19 _ (List.mem_of_getElem? (i := 10) rfl)
theorem w_19_11 : Cond.instanceMethod yX7_reach ∈ wsL_law := wi_19 _ (List.mem_of_getElem? (i := 11) rfl)
theorem w_19_12 : Cond.selects RX7 yX7_reach yX7_reach ∈ wsL_law := wi_19 _ (List.mem_of_getElem? (i := 12) rfl)
theorem w_19_13 : Cond.code yX7_reach cX7_reach 1 (some .int) ∈ wsL_law := wi_19 _ (List.mem_of_getElem? (i := 13) rfl)
theorem w_19_14 : Cond.methodLink RX10 173 yX0_tickCaught ∈ wsL_law := wi_19 _ (List.mem_of_getElem? (i := 14) rfl)
theorem w_19_15 : Cond.instanceMethod yX0_tickCaught ∈ wsL_law := wi_19 _ (List.mem_of_getElem? (i := 15) rfl)
theorem w_19_16 : Cond.selects RX0 yX0_tickCaught yX0_tickCaught ∈ wsL_law := wi_19 _ (List.mem_of_getElem? (i := 16) rfl)
theorem w_19_17 : Cond.code yX0_tickCaught cX0_tickCaught 4 (some .int) ∈ wsL_law := wi_19 _ (List.mem_of_getElem? (i := 17) rfl)
theorem w_19_18 : Cond.methodLink RX0 75 yX0_gap ∈ wsL_law := wi_19 _ (List.mem_of_getElem? (i := 18) rfl)
theorem w_19_19 : Cond.instanceMethod yX0_gap ∈ wsL_law := wi_19 _ (List.mem_of_getElem? (i := 19) rfl)
theorem w_19_20 : Cond.selects RX0 yX0_gap yX0_gap ∈ wsL_law := wi_19 _ (List.mem_of_getElem? (i := 20) rfl)
theorem w_19_21 : Cond.code yX0_gap cX0_gap 3 (some .long) ∈ wsL_law := wi_19 _ (List.mem_of_getElem? (i := 21) rfl)
theorem w_19_22 : Cond.fieldLink RX0 53 "RoundThrow$Track" "xs" "[J" ∈ wsL_law := wi_19 _ (List.mem_of_getElem? (i := 22) rfl)
theorem w_19_23 : Cond.methodLink RX0 59 Lib.MathLoose.abs_long.x ∈ wsL_law := wi_19 _ (List.mem_of_getElem? (i := 23) rfl)
theorem w_20_0 : Cond.static Lib.MathLoose.abs_long.x ∈ wsL_law := wi_20 _ (List.mem_of_getElem? (i := 0) rfl)
theorem w_20_1 : Cond.code Lib.MathLoose.abs_long.x Lib.MathLoose.abs_long.code 2 (some .long) ∈ wsL_law := wi_20 _ (List.mem_of_getElem? (i := 1) rfl)
theorem w_20_2 : Cond.fieldLink RX0 68 "RoundThrow$Track" "ys" "[J" ∈ wsL_law := wi_20 _ (List.mem_of_getElem? (i := 2) rfl)
theorem w_20_3 : Cond.methodLink RX0 71 Lib.MathLoose.max_long.x ∈ wsL_law := wi_20 _ (List.mem_of_getElem? (i := 3) rfl)
theorem w_20_4 : Cond.static Lib.MathLoose.max_long.x ∈ wsL_law := wi_20 _ (List.mem_of_getElem? (i := 4) rfl)
theorem w_20_5 : Cond.code Lib.MathLoose.max_long.x Lib.MathLoose.max_long.code 4 (some .long) ∈ wsL_law := wi_20 _ (List.mem_of_getElem? (i := 5) rfl)
theorem w_20_6 : Cond.methodLink RX0 49 yX0_xBehind ∈ wsL_law := wi_20 _ (List.mem_of_getElem? (i := 6) rfl)
theorem w_20_7 : Cond.methodLink RX0 65 yX0_yBehind ∈ wsL_law := wi_20 _ (List.mem_of_getElem? (i := 7) rfl)
theorem w_20_8 : Cond.methodLink RL 58 yX11_caught ∈ wsL_law := wi_20 _ (List.mem_of_getElem? (i := 8) rfl)
theorem w_20_9 : Cond.instanceMethod yX11_caught ∈ wsL_law := wi_20 _ (List.mem_of_getElem? (i := 9) rfl)
theorem w_20_10 : Cond.selects RX11 yX11_caught yX11_caught ∈ wsL_law := wi_20 _ (List.mem_of_getElem? (i := 10) rfl)
theorem w_20_11 : Cond.code yX11_caught cX11_caught 5 (some .int) ∈ wsL_law := wi_20 _ (List.mem_of_getElem? (i := 11) rfl)
theorem w_20_12 : Cond.methodLink RX11 191 yX11_caughtOf ∈ wsL_law := wi_20 _ (List.mem_of_getElem? (i := 12) rfl)
theorem w_20_13 : Cond.instanceMethod yX11_caughtOf ∈ wsL_law := wi_20 _ (List.mem_of_getElem? (i := 13) rfl)
theorem w_20_14 : Cond.selects RX11 yX11_caughtOf yX11_caughtOf ∈ wsL_law := wi_20 _ (List.mem_of_getElem? (i := 14) rfl)
theorem w_20_15 : Cond.code yX11_caughtOf cX11_caughtOf 6 (some .int) ∈ wsL_law := wi_20 _ (List.mem_of_getElem? (i := 15) rfl)
theorem w_20_16 : Cond.methodLink RX11 187 yX11_farFrom ∈ wsL_law := wi_20 _ (List.mem_of_getElem? (i := 16) rfl)
theorem w_20_17 : Cond.instanceMethod yX11_farFrom ∈ wsL_law := wi_20 _ (List.mem_of_getElem? (i := 17) rfl)
theorem w_20_18 : Cond.selects RX11 yX11_farFrom yX11_farFrom ∈ wsL_law := wi_20 _ (List.mem_of_getElem? (i := 18) rfl)
theorem w_20_19 : Cond.code yX11_farFrom cX11_farFrom 5 (some .int) ∈ wsL_law := wi_20 _ (List.mem_of_getElem? (i := 19) rfl)
theorem w_20_20 : Cond.methodLink RX11 184 yX11_size ∈ wsL_law := wi_20 _ (List.mem_of_getElem? (i := 20) rfl)
theorem w_20_21 : Cond.static yX11_size ∈ wsL_law := wi_20 _ (List.mem_of_getElem? (i := 21) rfl)
theorem w_20_22 : Cond.code yX11_size cX11_size 1 (some .int) ∈ wsL_law := wi_20 _ (List.mem_of_getElem? (i := 22) rfl)
theorem w_20_23 : Cond.methodLink RL 59 yX10_all ∈ wsL_law := wi_20 _ (List.mem_of_getElem? (i := 23) rfl)
theorem w_21_0 : Cond.instanceMethod yX10_all ∈ wsL_law := wi_21 _ (List.mem_of_getElem? (i := 0) rfl)
theorem w_21_1 : Cond.selects RX10 yX10_all yX10_all ∈ wsL_law := wi_21 _ (List.mem_of_getElem? (i := 1) rfl)
theorem w_21_2 : Cond.code yX10_all cX10_all 4 (some .int) ∈ wsL_law := wi_21 _ (List.mem_of_getElem? (i := 2) rfl)
theorem w_21_3 : Cond.fieldLink RX10 187 "RoundThrow$CatchTable" "safeSpeed" "I" ∈ wsL_law := wi_21 _ (List.mem_of_getElem? (i := 3) rfl)
theorem w_21_4 : Cond.fieldLink RX10 190 "RoundThrow$CatchTable" "safeWay" "I" ∈ wsL_law := wi_21 _ (List.mem_of_getElem? (i := 4) rfl)
theorem w_21_5 : Cond.fieldLink RX10 193 "RoundThrow$CatchTable" "safeNeighbours" "I" ∈ wsL_law := wi_21 _ (List.mem_of_getElem? (i := 5) rfl)
theorem w_21_6 : Cond.methodLink RX10 177 yX1_fill ∈ wsL_law := wi_21 _ (List.mem_of_getElem? (i := 6) rfl)
theorem w_21_7 : Cond.instanceMethod yX1_fill ∈ wsL_law := wi_21 _ (List.mem_of_getElem? (i := 7) rfl)
theorem w_21_8 : Cond.selects RX1 yX1_fill yX1_fill ∈ wsL_law := wi_21 _ (List.mem_of_getElem? (i := 8) rfl)
theorem w_21_9 : Cond.code yX1_fill cX1_fill 7 none ∈ wsL_law := wi_21 _ (List.mem_of_getElem? (i := 9) rfl)
theorem w_21_10 : Cond.methodLink RX1 15 yX0_throwAnew ∈ wsL_law := wi_21 _ (List.mem_of_getElem? (i := 10) rfl)
theorem w_21_11 : Cond.methodLink RX1 21 yX0_tickCaught ∈ wsL_law := wi_21 _ (List.mem_of_getElem? (i := 11) rfl)
theorem w_21_12 : Cond.methodLink RX10 181 yX1_howMany ∈ wsL_law := wi_21 _ (List.mem_of_getElem? (i := 12) rfl)
theorem w_21_13 : Cond.instanceMethod yX1_howMany ∈ wsL_law := wi_21 _ (List.mem_of_getElem? (i := 13) rfl)
theorem w_21_14 : Cond.selects RX1 yX1_howMany yX1_howMany ∈ wsL_law := wi_21 _ (List.mem_of_getElem? (i := 14) rfl)
theorem w_21_15 : Cond.code yX1_howMany cX1_howMany 3 (some .int) ∈ wsL_law := wi_21 _ (List.mem_of_getElem? (i := 15) rfl)
theorem w_21_16 : Cond.methodLink RX1 25 yJ6_bitCount_0f7a4 ∈ wsL_law := wi_21 _ (List.mem_of_getElem? (i := 16) rfl)
theorem w_21_17 : Cond.static yJ6_bitCount_0f7a4 ∈ wsL_law := wi_21 _ (List.mem_of_getElem? (i := 17) rfl)
theorem w_21_18 : Cond.initialized RJ6 ∈ wsL_law := wi_21 _ (List.mem_of_getElem? (i := 18) rfl)
theorem w_21_19 : Cond.code yJ6_bitCount_0f7a4 cJ6_bitCount_0f7a4 1 (some .int) ∈ wsL_law := wi_21 _ (List.mem_of_getElem? (i := 19) rfl)
theorem w_21_20 : Cond.constant RJ6 265 (1431655765) ∈ wsL_law := wi_21 _ (List.mem_of_getElem? (i := 20) rfl)
theorem w_21_21 : Cond.constant RJ6 266 (858993459) ∈ wsL_law := wi_21 _ (List.mem_of_getElem? (i := 21) rfl)
theorem w_21_22 : Cond.constant RJ6 267 (252645135) ∈ wsL_law := wi_21 _ (List.mem_of_getElem? (i := 22) rfl)
theorem w_21_23 : Cond.methodLink RX10 184 yX1_findSafe ∈ wsL_law := wi_21 _ (List.mem_of_getElem? (i := 23) rfl)
theorem w_22_0 : Cond.instanceMethod yX1_findSafe ∈ wsL_law := wi_22 _ (List.mem_of_getElem? (i := 0) rfl)
theorem w_22_1 : Cond.selects RX1 yX1_findSafe yX1_findSafe ∈ wsL_law := wi_22 _ (List.mem_of_getElem? (i := 1) rfl)
theorem w_22_2 : Cond.code yX1_findSafe cX1_findSafe 3 none ∈ wsL_law := wi_22 _ (List.mem_of_getElem? (i := 2) rfl)
theorem w_22_3 : Cond.fieldLink RX1 31 "RoundThrow$CatchTable" "safeSpeed" "I" ∈ wsL_law := wi_22 _ (List.mem_of_getElem? (i := 3) rfl)
theorem w_22_4 : Cond.fieldLink RX1 35 "RoundThrow$CatchTable" "safeWay" "I" ∈ wsL_law := wi_22 _ (List.mem_of_getElem? (i := 4) rfl)
theorem w_22_5 : Cond.fieldLink RX1 38 "RoundThrow$CatchTable" "safeNeighbours" "I" ∈ wsL_law := wi_22 _ (List.mem_of_getElem? (i := 5) rfl)
theorem w_22_6 : Cond.methodLink RX1 41 yX1_bit ∈ wsL_law := wi_22 _ (List.mem_of_getElem? (i := 6) rfl)
theorem w_22_7 : Cond.instanceMethod yX1_bit ∈ wsL_law := wi_22 _ (List.mem_of_getElem? (i := 7) rfl)
theorem w_22_8 : Cond.selects RX1 yX1_bit yX1_bit ∈ wsL_law := wi_22 _ (List.mem_of_getElem? (i := 8) rfl)
theorem w_22_9 : Cond.code yX1_bit cX1_bit 3 (some .int) ∈ wsL_law := wi_22 _ (List.mem_of_getElem? (i := 9) rfl)
theorem w_22_10 : Cond.methodLink RX1 48 yJ9_floorMod_7cf53 ∈ wsL_law := wi_22 _ (List.mem_of_getElem? (i := 10) rfl)
theorem w_22_11 : Cond.methodLink RX1 45 yX1_neighbours ∈ wsL_law := wi_22 _ (List.mem_of_getElem? (i := 11) rfl)
theorem w_22_12 : Cond.instanceMethod yX1_neighbours ∈ wsL_law := wi_22 _ (List.mem_of_getElem? (i := 12) rfl)
theorem w_22_13 : Cond.selects RX1 yX1_neighbours yX1_neighbours ∈ wsL_law := wi_22 _ (List.mem_of_getElem? (i := 13) rfl)
theorem w_22_14 : Cond.code yX1_neighbours cX1_neighbours 5 (some .int) ∈ wsL_law := wi_22 _ (List.mem_of_getElem? (i := 14) rfl)
theorem w_22_15 : Cond.methodLink RL 62 yX11_all ∈ wsL_law := wi_22 _ (List.mem_of_getElem? (i := 15) rfl)
theorem w_22_16 : Cond.instanceMethod yX11_all ∈ wsL_law := wi_22 _ (List.mem_of_getElem? (i := 16) rfl)
theorem w_22_17 : Cond.selects RX11 yX11_all yX11_all ∈ wsL_law := wi_22 _ (List.mem_of_getElem? (i := 17) rfl)
theorem w_22_18 : Cond.code yX11_all cX11_all 9 (some .int) ∈ wsL_law := wi_22 _ (List.mem_of_getElem? (i := 18) rfl)
theorem w_22_19 : Cond.methodLink RX11 195 yX11_neighbours ∈ wsL_law := wi_22 _ (List.mem_of_getElem? (i := 19) rfl)
theorem w_22_20 : Cond.instanceMethod yX11_neighbours ∈ wsL_law := wi_22 _ (List.mem_of_getElem? (i := 20) rfl)
theorem w_22_21 : Cond.selects RX11 yX11_neighbours yX11_neighbours ∈ wsL_law := wi_22 _ (List.mem_of_getElem? (i := 21) rfl)
theorem w_22_22 : Cond.code yX11_neighbours cX11_neighbours 7 (some .int) ∈ wsL_law := wi_22 _ (List.mem_of_getElem? (i := 22) rfl)
theorem w_22_23 : Cond.methodLink RL 63 yX10_loops ∈ wsL_law := wi_22 _ (List.mem_of_getElem? (i := 23) rfl)
theorem w_23_0 : Cond.instanceMethod yX10_loops ∈ wsL_law := wi_23 _ (List.mem_of_getElem? (i := 0) rfl)
theorem w_23_1 : Cond.selects RX10 yX10_loops yX10_loops ∈ wsL_law := wi_23 _ (List.mem_of_getElem? (i := 1) rfl)
theorem w_23_2 : Cond.code yX10_loops cX10_loops 4 (some .int) ∈ wsL_law := wi_23 _ (List.mem_of_getElem? (i := 2) rfl)
theorem w_23_3 : Cond.methodLink RX10 196 yX8_followSeen ∈ wsL_law := wi_23 _ (List.mem_of_getElem? (i := 3) rfl)
theorem w_23_4 : Cond.instanceMethod yX8_followSeen ∈ wsL_law := wi_23 _ (List.mem_of_getElem? (i := 4) rfl)
theorem w_23_5 : Cond.selects RX8 yX8_followSeen yX8_followSeen ∈ wsL_law := wi_23 _ (List.mem_of_getElem? (i := 5) rfl)
theorem w_23_6 : Cond.code yX8_followSeen cX8_followSeen 5 none ∈ wsL_law := wi_23 _ (List.mem_of_getElem? (i := 6) rfl)
theorem w_23_7 : Cond.methodLink RX8 33 yX5_wayBack ∈ wsL_law := wi_23 _ (List.mem_of_getElem? (i := 7) rfl)
theorem w_23_8 : Cond.methodLink RX8 36 yX0_xBehind ∈ wsL_law := wi_23 _ (List.mem_of_getElem? (i := 8) rfl)
theorem w_23_9 : Cond.methodLink RX8 42 yX0_yBehind ∈ wsL_law := wi_23 _ (List.mem_of_getElem? (i := 9) rfl)
theorem w_23_10 : Cond.methodLink RX10 200 yX8_crossesItself ∈ wsL_law := wi_23 _ (List.mem_of_getElem? (i := 10) rfl)
theorem w_23_11 : Cond.instanceMethod yX8_crossesItself ∈ wsL_law := wi_23 _ (List.mem_of_getElem? (i := 11) rfl)
theorem w_23_12 : Cond.selects RX8 yX8_crossesItself yX8_crossesItself ∈ wsL_law := wi_23 _ (List.mem_of_getElem? (i := 12) rfl)
theorem w_23_13 : Cond.code yX8_crossesItself cX8_crossesItself 3 (some .boolean) ∈ wsL_law := wi_23 _ (List.mem_of_getElem? (i := 13) rfl)
theorem w_23_14 : Cond.methodLink RX8 45 yX8_linesMeet ∈ wsL_law := wi_23 _ (List.mem_of_getElem? (i := 14) rfl)
theorem w_23_15 : Cond.instanceMethod yX8_linesMeet ∈ wsL_law := wi_23 _ (List.mem_of_getElem? (i := 15) rfl)
theorem w_23_16 : Cond.selects RX8 yX8_linesMeet yX8_linesMeet ∈ wsL_law := wi_23 _ (List.mem_of_getElem? (i := 16) rfl)
theorem w_23_17 : Cond.code yX8_linesMeet cX8_linesMeet 3 (some .boolean) ∈ wsL_law := wi_23 _ (List.mem_of_getElem? (i := 17) rfl)
theorem w_23_18 : Cond.methodLink RX8 49 yX8_spansMeet ∈ wsL_law := wi_23 _ (List.mem_of_getElem? (i := 18) rfl)
theorem w_23_19 : Cond.static yX8_spansMeet ∈ wsL_law := wi_23 _ (List.mem_of_getElem? (i := 19) rfl)
theorem w_23_20 : Cond.code yX8_spansMeet cX8_spansMeet 3 (some .boolean) ∈ wsL_law := wi_23 _ (List.mem_of_getElem? (i := 20) rfl)
theorem w_23_21 : Cond.methodLink RX8 56 Lib.MathLoose.min_long.x ∈ wsL_law := wi_23 _ (List.mem_of_getElem? (i := 21) rfl)
theorem w_23_22 : Cond.static Lib.MathLoose.min_long.x ∈ wsL_law := wi_23 _ (List.mem_of_getElem? (i := 22) rfl)
theorem w_23_23 : Cond.code Lib.MathLoose.min_long.x Lib.MathLoose.min_long.code 4 (some .long) ∈ wsL_law := wi_23 _ (List.mem_of_getElem? (i := 23) rfl)
theorem w_24_0 : Cond.methodLink RX8 62 Lib.MathLoose.max_long.x ∈ wsL_law := wi_24 _ (List.mem_of_getElem? (i := 0) rfl)
theorem w_24_1 : Cond.methodLink RX8 53 yX8_isAcross ∈ wsL_law := wi_24 _ (List.mem_of_getElem? (i := 1) rfl)
theorem w_24_2 : Cond.instanceMethod yX8_isAcross ∈ wsL_law := wi_24 _ (List.mem_of_getElem? (i := 2) rfl)
theorem w_24_3 : Cond.selects RX8 yX8_isAcross yX8_isAcross ∈ wsL_law := wi_24 _ (List.mem_of_getElem? (i := 3) rfl)
theorem w_24_4 : Cond.code yX8_isAcross cX8_isAcross 3 (some .boolean) ∈ wsL_law := wi_24 _ (List.mem_of_getElem? (i := 4) rfl)
theorem w_24_5 : Cond.methodLink RX8 65 yX8_side ∈ wsL_law := wi_24 _ (List.mem_of_getElem? (i := 5) rfl)
theorem w_24_6 : Cond.instanceMethod yX8_side ∈ wsL_law := wi_24 _ (List.mem_of_getElem? (i := 6) rfl)
theorem w_24_7 : Cond.selects RX8 yX8_side yX8_side ∈ wsL_law := wi_24 _ (List.mem_of_getElem? (i := 7) rfl)
theorem w_24_8 : Cond.code yX8_side cX8_side 3 (some .long) ∈ wsL_law := wi_24 _ (List.mem_of_getElem? (i := 8) rfl)
theorem w_24_9 : Cond.methodLink RX8 69 yJ13_signum_95d88 ∈ wsL_law := wi_24 _ (List.mem_of_getElem? (i := 9) rfl)
theorem w_24_10 : Cond.static yJ13_signum_95d88 ∈ wsL_law := wi_24 _ (List.mem_of_getElem? (i := 10) rfl)
theorem w_24_11 : Cond.initialized RJ13 ∈ wsL_law := wi_24 _ (List.mem_of_getElem? (i := 11) rfl)
theorem w_24_12 : Cond.code yJ13_signum_95d88 cJ13_signum_95d88 2 (some .int) ∈ wsL_law := wi_24 _ (List.mem_of_getElem? (i := 12) rfl)
theorem w_24_13 : Cond.methodLink RL 66 yX11_loops ∈ wsL_law := wi_24 _ (List.mem_of_getElem? (i := 13) rfl)
theorem w_24_14 : Cond.instanceMethod yX11_loops ∈ wsL_law := wi_24 _ (List.mem_of_getElem? (i := 14) rfl)
theorem w_24_15 : Cond.selects RX11 yX11_loops yX11_loops ∈ wsL_law := wi_24 _ (List.mem_of_getElem? (i := 15) rfl)
theorem w_24_16 : Cond.code yX11_loops cX11_loops 7 (some .int) ∈ wsL_law := wi_24 _ (List.mem_of_getElem? (i := 16) rfl)
theorem w_24_17 : Cond.methodLink RX11 209 yX11_meet ∈ wsL_law := wi_24 _ (List.mem_of_getElem? (i := 17) rfl)
theorem w_24_18 : Cond.instanceMethod yX11_meet ∈ wsL_law := wi_24 _ (List.mem_of_getElem? (i := 18) rfl)
theorem w_24_19 : Cond.selects RX11 yX11_meet yX11_meet ∈ wsL_law := wi_24 _ (List.mem_of_getElem? (i := 19) rfl)
theorem w_24_20 : Cond.code yX11_meet cX11_meet 9 (some .boolean) ∈ wsL_law := wi_24 _ (List.mem_of_getElem? (i := 20) rfl)
theorem w_24_21 : Cond.methodLink RX11 202 yX11_side ∈ wsL_law := wi_24 _ (List.mem_of_getElem? (i := 21) rfl)
theorem w_24_22 : Cond.instanceMethod yX11_side ∈ wsL_law := wi_24 _ (List.mem_of_getElem? (i := 22) rfl)
theorem w_24_23 : Cond.selects RX11 yX11_side yX11_side ∈ wsL_law := wi_24 _ (List.mem_of_getElem? (i := 23) rfl)
theorem w_25_0 : Cond.code yX11_side cX11_side 6 (some .int) ∈ wsL_law := wi_25 _ (List.mem_of_getElem? (i := 0) rfl)
theorem w_25_1 : Cond.methodLink RX11 206 yX11_lies ∈ wsL_law := wi_25 _ (List.mem_of_getElem? (i := 1) rfl)
theorem w_25_2 : Cond.instanceMethod yX11_lies ∈ wsL_law := wi_25 _ (List.mem_of_getElem? (i := 2) rfl)
theorem w_25_3 : Cond.selects RX11 yX11_lies yX11_lies ∈ wsL_law := wi_25 _ (List.mem_of_getElem? (i := 3) rfl)
theorem w_25_4 : Cond.code yX11_lies cX11_lies 4 (some .boolean) ∈ wsL_law := wi_25 _ (List.mem_of_getElem? (i := 4) rfl)
theorem w_25_5 : Cond.methodLink RX11 198 yX11_isBetween ∈ wsL_law := wi_25 _ (List.mem_of_getElem? (i := 5) rfl)
theorem w_25_6 : Cond.static yX11_isBetween ∈ wsL_law := wi_25 _ (List.mem_of_getElem? (i := 6) rfl)
theorem w_25_7 : Cond.code yX11_isBetween cX11_isBetween 3 (some .boolean) ∈ wsL_law := wi_25 _ (List.mem_of_getElem? (i := 7) rfl)
theorem w_25_8 : Cond.methodLink RL 67 yX10_rolled ∈ wsL_law := wi_25 _ (List.mem_of_getElem? (i := 8) rfl)
theorem w_25_9 : Cond.instanceMethod yX10_rolled ∈ wsL_law := wi_25 _ (List.mem_of_getElem? (i := 9) rfl)
theorem w_25_10 : Cond.selects RX10 yX10_rolled yX10_rolled ∈ wsL_law := wi_25 _ (List.mem_of_getElem? (i := 10) rfl)
theorem w_25_11 : Cond.code yX10_rolled cX10_rolled 8 (some .int) ∈ wsL_law := wi_25 _ (List.mem_of_getElem? (i := 11) rfl)
theorem w_25_12 : Cond.fieldLink RX10 213 "RoundThrow$Ball" "x" "J" ∈ wsL_law := wi_25 _ (List.mem_of_getElem? (i := 12) rfl)
theorem w_25_13 : Cond.fieldLink RX10 217 "RoundThrow$Ball" "y" "J" ∈ wsL_law := wi_25 _ (List.mem_of_getElem? (i := 13) rfl)
theorem w_25_14 : Cond.methodLink RX10 204 yX10_isPlace ∈ wsL_law := wi_25 _ (List.mem_of_getElem? (i := 14) rfl)
theorem w_25_15 : Cond.static yX10_isPlace ∈ wsL_law := wi_25 _ (List.mem_of_getElem? (i := 15) rfl)
theorem w_25_16 : Cond.code yX10_isPlace cX10_isPlace 2 (some .boolean) ∈ wsL_law := wi_25 _ (List.mem_of_getElem? (i := 16) rfl)
theorem w_25_17 : Cond.methodLink RX10 207 yX7_rub ∈ wsL_law := wi_25 _ (List.mem_of_getElem? (i := 17) rfl)
theorem w_25_18 : Cond.instanceMethod yX7_rub ∈ wsL_law := wi_25 _ (List.mem_of_getElem? (i := 18) rfl)
theorem w_25_19 : Cond.selects RX7 yX7_rub yX7_rub ∈ wsL_law := wi_25 _ (List.mem_of_getElem? (i := 19) rfl)
theorem w_25_20 : Cond.code yX7_rub cX7_rub 1 (some .int) ∈ wsL_law := wi_25 _ (List.mem_of_getElem? (i := 20) rfl)
theorem w_25_21 : Cond.methodLink RX10 210 yX0_rollOn ∈ wsL_law := wi_25 _ (List.mem_of_getElem? (i := 21) rfl)
theorem w_25_22 : Cond.instanceMethod yX0_rollOn ∈ wsL_law := wi_25 _ (List.mem_of_getElem? (i := 22) rfl)
theorem w_25_23 : Cond.selects RX0 yX0_rollOn yX0_rollOn ∈ wsL_law := wi_25 _ (List.mem_of_getElem? (i := 23) rfl)
theorem w_26_0 : Cond.code yX0_rollOn cX0_rollOn 15 none ∈ wsL_law := wi_26 _ (List.mem_of_getElem? (i := 0) rfl)
theorem w_26_1 : Cond.constantLong RX0 82 (100) ∈ wsL_law := wi_26 _ (List.mem_of_getElem? (i := 1) rfl)
theorem w_26_2 : Cond.methodLink RX0 79 yX5_wayBack ∈ wsL_law := wi_26 _ (List.mem_of_getElem? (i := 2) rfl)
theorem w_26_3 : Cond.methodLink RL 71 yX11_rolled ∈ wsL_law := wi_26 _ (List.mem_of_getElem? (i := 3) rfl)
theorem w_26_4 : Cond.instanceMethod yX11_rolled ∈ wsL_law := wi_26 _ (List.mem_of_getElem? (i := 4) rfl)
theorem w_26_5 : Cond.selects RX11 yX11_rolled yX11_rolled ∈ wsL_law := wi_26 _ (List.mem_of_getElem? (i := 5) rfl)
theorem w_26_6 : Cond.code yX11_rolled cX11_rolled 7 (some .int) ∈ wsL_law := wi_26 _ (List.mem_of_getElem? (i := 6) rfl)
theorem w_26_7 : Cond.fieldLink RX11 218 "RoundThrowModel" "rollTick" "I" ∈ wsL_law := wi_26 _ (List.mem_of_getElem? (i := 7) rfl)
theorem w_26_8 : Cond.fieldLink RX11 212 "RoundThrowModel" "rollX" "I" ∈ wsL_law := wi_26 _ (List.mem_of_getElem? (i := 8) rfl)
theorem w_26_9 : Cond.fieldLink RX11 215 "RoundThrowModel" "rollY" "I" ∈ wsL_law := wi_26 _ (List.mem_of_getElem? (i := 9) rfl)
theorem w_26_10 : Cond.methodLink RX11 221 yX11_isPlace ∈ wsL_law := wi_26 _ (List.mem_of_getElem? (i := 10) rfl)
theorem w_26_11 : Cond.static yX11_isPlace ∈ wsL_law := wi_26 _ (List.mem_of_getElem? (i := 11) rfl)
theorem w_26_12 : Cond.code yX11_isPlace cX11_isPlace 3 (some .boolean) ∈ wsL_law := wi_26 _ (List.mem_of_getElem? (i := 12) rfl)
theorem w_26_13 : Cond.methodLink RX11 224 yX11_beginRoll ∈ wsL_law := wi_26 _ (List.mem_of_getElem? (i := 13) rfl)
theorem w_26_14 : Cond.instanceMethod yX11_beginRoll ∈ wsL_law := wi_26 _ (List.mem_of_getElem? (i := 14) rfl)
theorem w_26_15 : Cond.selects RX11 yX11_beginRoll yX11_beginRoll ∈ wsL_law := wi_26 _ (List.mem_of_getElem? (i := 15) rfl)
theorem w_26_16 : Cond.code yX11_beginRoll cX11_beginRoll 5 none ∈ wsL_law := wi_26 _ (List.mem_of_getElem? (i := 16) rfl)
theorem w_26_17 : Cond.methodLink RX11 228 yX11_roll ∈ wsL_law := wi_26 _ (List.mem_of_getElem? (i := 17) rfl)
theorem w_26_18 : Cond.instanceMethod yX11_roll ∈ wsL_law := wi_26 _ (List.mem_of_getElem? (i := 18) rfl)
theorem w_26_19 : Cond.selects RX11 yX11_roll yX11_roll ∈ wsL_law := wi_26 _ (List.mem_of_getElem? (i := 19) rfl)
theorem w_26_20 : Cond.code yX11_roll cX11_roll 5 none ∈ wsL_law := wi_26 _ (List.mem_of_getElem? (i := 20) rfl)
theorem w_26_21 : Cond.methodLink RL 72 yX10_off ∈ wsL_law := wi_26 _ (List.mem_of_getElem? (i := 21) rfl)
theorem w_26_22 : Cond.instanceMethod yX10_off ∈ wsL_law := wi_26 _ (List.mem_of_getElem? (i := 22) rfl)
theorem w_26_23 : Cond.selects RX10 yX10_off yX10_off ∈ wsL_law := wi_26 _ (List.mem_of_getElem? (i := 23) rfl)
theorem w_27_0 : Cond.code yX10_off cX10_off 6 (some .int) ∈ wsL_law := wi_27 _ (List.mem_of_getElem? (i := 0) rfl)
theorem w_27_1 : Cond.methodLink RX10 220 yX7_rim ∈ wsL_law := wi_27 _ (List.mem_of_getElem? (i := 1) rfl)
theorem w_27_2 : Cond.instanceMethod yX7_rim ∈ wsL_law := wi_27 _ (List.mem_of_getElem? (i := 2) rfl)
theorem w_27_3 : Cond.selects RX7 yX7_rim yX7_rim ∈ wsL_law := wi_27 _ (List.mem_of_getElem? (i := 3) rfl)
theorem w_27_4 : Cond.code yX7_rim cX7_rim 1 (some .int) ∈ wsL_law := wi_27 _ (List.mem_of_getElem? (i := 4) rfl)
theorem w_27_5 : Cond.methodLink RX10 223 yX0_isBeyond ∈ wsL_law := wi_27 _ (List.mem_of_getElem? (i := 5) rfl)
theorem w_27_6 : Cond.instanceMethod yX0_isBeyond ∈ wsL_law := wi_27 _ (List.mem_of_getElem? (i := 6) rfl)
theorem w_27_7 : Cond.selects RX0 yX0_isBeyond yX0_isBeyond ∈ wsL_law := wi_27 _ (List.mem_of_getElem? (i := 7) rfl)
theorem w_27_8 : Cond.code yX0_isBeyond cX0_isBeyond 3 (some .boolean) ∈ wsL_law := wi_27 _ (List.mem_of_getElem? (i := 8) rfl)
theorem w_27_9 : Cond.methodLink RL 75 yX11_off ∈ wsL_law := wi_27 _ (List.mem_of_getElem? (i := 9) rfl)
theorem w_27_10 : Cond.instanceMethod yX11_off ∈ wsL_law := wi_27 _ (List.mem_of_getElem? (i := 10) rfl)
theorem w_27_11 : Cond.selects RX11 yX11_off yX11_off ∈ wsL_law := wi_27 _ (List.mem_of_getElem? (i := 11) rfl)
theorem w_27_12 : Cond.code yX11_off cX11_off 5 (some .int) ∈ wsL_law := wi_27 _ (List.mem_of_getElem? (i := 12) rfl)
theorem w_27_13 : Cond.methodLink RX11 231 yX11_isOff ∈ wsL_law := wi_27 _ (List.mem_of_getElem? (i := 13) rfl)
theorem w_27_14 : Cond.instanceMethod yX11_isOff ∈ wsL_law := wi_27 _ (List.mem_of_getElem? (i := 14) rfl)
theorem w_27_15 : Cond.selects RX11 yX11_isOff yX11_isOff ∈ wsL_law := wi_27 _ (List.mem_of_getElem? (i := 15) rfl)
theorem w_27_16 : Cond.code yX11_isOff cX11_isOff 1 (some .boolean) ∈ wsL_law := wi_27 _ (List.mem_of_getElem? (i := 16) rfl)
theorem w_27_17 : Cond.methodLink RL 76 yX10_leans ∈ wsL_law := wi_27 _ (List.mem_of_getElem? (i := 17) rfl)
theorem w_27_18 : Cond.instanceMethod yX10_leans ∈ wsL_law := wi_27 _ (List.mem_of_getElem? (i := 18) rfl)
theorem w_27_19 : Cond.selects RX10 yX10_leans yX10_leans ∈ wsL_law := wi_27 _ (List.mem_of_getElem? (i := 19) rfl)
theorem w_27_20 : Cond.code yX10_leans cX10_leans 2 (some .int) ∈ wsL_law := wi_27 _ (List.mem_of_getElem? (i := 20) rfl)
theorem w_27_21 : Cond.methodLink RX10 227 yX10_lean ∈ wsL_law := wi_27 _ (List.mem_of_getElem? (i := 21) rfl)
theorem w_27_22 : Cond.static yX10_lean ∈ wsL_law := wi_27 _ (List.mem_of_getElem? (i := 22) rfl)
theorem w_27_23 : Cond.code yX10_lean cX10_lean 2 (some .int) ∈ wsL_law := wi_27 _ (List.mem_of_getElem? (i := 23) rfl)
theorem w_28_0 : Cond.methodLink RL 79 yX11_leans ∈ wsL_law := wi_28 _ (List.mem_of_getElem? (i := 0) rfl)
theorem w_28_1 : Cond.instanceMethod yX11_leans ∈ wsL_law := wi_28 _ (List.mem_of_getElem? (i := 1) rfl)
theorem w_28_2 : Cond.selects RX11 yX11_leans yX11_leans ∈ wsL_law := wi_28 _ (List.mem_of_getElem? (i := 2) rfl)
theorem w_28_3 : Cond.code yX11_leans cX11_leans 2 (some .int) ∈ wsL_law := wi_28 _ (List.mem_of_getElem? (i := 3) rfl)
theorem w_28_4 : Cond.methodLink RX11 235 yX11_leansOf ∈ wsL_law := wi_28 _ (List.mem_of_getElem? (i := 4) rfl)
theorem w_28_5 : Cond.instanceMethod yX11_leansOf ∈ wsL_law := wi_28 _ (List.mem_of_getElem? (i := 5) rfl)
theorem w_28_6 : Cond.selects RX11 yX11_leansOf yX11_leansOf ∈ wsL_law := wi_28 _ (List.mem_of_getElem? (i := 6) rfl)
theorem w_28_7 : Cond.code yX11_leansOf cX11_leansOf 2 (some .int) ∈ wsL_law := wi_28 _ (List.mem_of_getElem? (i := 7) rfl)
theorem w_28_8 : Cond.methodLink RL 80 yX10_stays ∈ wsL_law := wi_28 _ (List.mem_of_getElem? (i := 8) rfl)
theorem w_28_9 : Cond.instanceMethod yX10_stays ∈ wsL_law := wi_28 _ (List.mem_of_getElem? (i := 9) rfl)
theorem w_28_10 : Cond.selects RX10 yX10_stays yX10_stays ∈ wsL_law := wi_28 _ (List.mem_of_getElem? (i := 10) rfl)
theorem w_28_11 : Cond.code yX10_stays cX10_stays 3 (some .int) ∈ wsL_law := wi_28 _ (List.mem_of_getElem? (i := 11) rfl)
theorem w_28_12 : Cond.methodLink RL 83 yX11_stays ∈ wsL_law := wi_28 _ (List.mem_of_getElem? (i := 12) rfl)
theorem w_28_13 : Cond.instanceMethod yX11_stays ∈ wsL_law := wi_28 _ (List.mem_of_getElem? (i := 13) rfl)
theorem w_28_14 : Cond.selects RX11 yX11_stays yX11_stays ∈ wsL_law := wi_28 _ (List.mem_of_getElem? (i := 14) rfl)
theorem w_28_15 : Cond.code yX11_stays cX11_stays 3 (some .int) ∈ wsL_law := wi_28 _ (List.mem_of_getElem? (i := 15) rfl)
theorem w_28_16 : Cond.constantLong RX11 238 (9999) ∈ wsL_law := wi_28 _ (List.mem_of_getElem? (i := 16) rfl)
theorem w_28_17 : Cond.methodLink RL 84 yX10_hut ∈ wsL_law := wi_28 _ (List.mem_of_getElem? (i := 17) rfl)
theorem w_28_18 : Cond.instanceMethod yX10_hut ∈ wsL_law := wi_28 _ (List.mem_of_getElem? (i := 18) rfl)
theorem w_28_19 : Cond.selects RX10 yX10_hut yX10_hut ∈ wsL_law := wi_28 _ (List.mem_of_getElem? (i := 19) rfl)
theorem w_28_20 : Cond.code yX10_hut cX10_hut 6 (some .int) ∈ wsL_law := wi_28 _ (List.mem_of_getElem? (i := 20) rfl)
theorem w_28_21 : Cond.methodLink RL 87 yX11_hut ∈ wsL_law := wi_28 _ (List.mem_of_getElem? (i := 21) rfl)
theorem w_28_22 : Cond.instanceMethod yX11_hut ∈ wsL_law := wi_28 _ (List.mem_of_getElem? (i := 22) rfl)
theorem w_28_23 : Cond.selects RX11 yX11_hut yX11_hut ∈ wsL_law := wi_28 _ (List.mem_of_getElem? (i := 23) rfl)
theorem w_29_0 : Cond.code yX11_hut cX11_hut 6 (some .int) ∈ wsL_law := wi_29 _ (List.mem_of_getElem? (i := 0) rfl)
theorem w_29_1 : Cond.methodLink RL 88 yX10_film ∈ wsL_law := wi_29 _ (List.mem_of_getElem? (i := 1) rfl)
theorem w_29_2 : Cond.instanceMethod yX10_film ∈ wsL_law := wi_29 _ (List.mem_of_getElem? (i := 2) rfl)
theorem w_29_3 : Cond.selects RX10 yX10_film yX10_film ∈ wsL_law := wi_29 _ (List.mem_of_getElem? (i := 3) rfl)
theorem w_29_4 : Cond.code yX10_film cX10_film 3 (some .int) ∈ wsL_law := wi_29 _ (List.mem_of_getElem? (i := 4) rfl)
theorem w_29_5 : Cond.fieldLink RX10 232 "RoundThrow$Setup" "film" "LRoundThrow$Film;" ∈ wsL_law := wi_29 _ (List.mem_of_getElem? (i := 5) rfl)
theorem w_29_6 : Cond.fieldLink RX10 238 "RoundThrow$Film" "points" "I" ∈ wsL_law := wi_29 _ (List.mem_of_getElem? (i := 6) rfl)
theorem w_29_7 : Cond.methodLink RX10 236 yX2_add ∈ wsL_law := wi_29 _ (List.mem_of_getElem? (i := 7) rfl)
theorem w_29_8 : Cond.instanceMethod yX2_add ∈ wsL_law := wi_29 _ (List.mem_of_getElem? (i := 8) rfl)
theorem w_29_9 : Cond.selects RX2 yX2_add yX2_add ∈ wsL_law := wi_29 _ (List.mem_of_getElem? (i := 9) rfl)
theorem w_29_10 : Cond.code yX2_add cX2_add 3 (some .boolean) ∈ wsL_law := wi_29 _ (List.mem_of_getElem? (i := 10) rfl)
theorem w_29_11 : Cond.fieldLink RX2 16 "RoundThrow$Film" "points" "I" ∈ wsL_law := wi_29 _ (List.mem_of_getElem? (i := 11) rfl)
theorem w_29_12 : Cond.methodLink RL 91 yX11_film ∈ wsL_law := wi_29 _ (List.mem_of_getElem? (i := 12) rfl)
theorem w_29_13 : Cond.instanceMethod yX11_film ∈ wsL_law := wi_29 _ (List.mem_of_getElem? (i := 13) rfl)
theorem w_29_14 : Cond.selects RX11 yX11_film yX11_film ∈ wsL_law := wi_29 _ (List.mem_of_getElem? (i := 14) rfl)
theorem w_29_15 : Cond.code yX11_film cX11_film 3 (some .int) ∈ wsL_law := wi_29 _ (List.mem_of_getElem? (i := 15) rfl)
theorem w_29_16 : Cond.fieldLink RX11 240 "RoundThrowModel" "filmMany" "I" ∈ wsL_law := wi_29 _ (List.mem_of_getElem? (i := 16) rfl)
theorem w_29_17 : Cond.methodLink RL 92 yX10_clear ∈ wsL_law := wi_29 _ (List.mem_of_getElem? (i := 17) rfl)
theorem w_29_18 : Cond.instanceMethod yX10_clear ∈ wsL_law := wi_29 _ (List.mem_of_getElem? (i := 18) rfl)
theorem w_29_19 : Cond.selects RX10 yX10_clear yX10_clear ∈ wsL_law := wi_29 _ (List.mem_of_getElem? (i := 19) rfl)
theorem w_29_20 : Cond.code yX10_clear cX10_clear 2 (some .int) ∈ wsL_law := wi_29 _ (List.mem_of_getElem? (i := 20) rfl)
theorem w_29_21 : Cond.methodLink RL 95 yX11_clear ∈ wsL_law := wi_29 _ (List.mem_of_getElem? (i := 21) rfl)
theorem w_29_22 : Cond.instanceMethod yX11_clear ∈ wsL_law := wi_29 _ (List.mem_of_getElem? (i := 22) rfl)
theorem w_29_23 : Cond.selects RX11 yX11_clear yX11_clear ∈ wsL_law := wi_29 _ (List.mem_of_getElem? (i := 23) rfl)
theorem w_30_0 : Cond.code yX11_clear cX11_clear 2 (some .int) ∈ wsL_law := wi_30 _ (List.mem_of_getElem? (i := 0) rfl)
theorem w_30_1 : Cond.methodLink RL 96 yX10_bent ∈ wsL_law := wi_30 _ (List.mem_of_getElem? (i := 1) rfl)
theorem w_30_2 : Cond.instanceMethod yX10_bent ∈ wsL_law := wi_30 _ (List.mem_of_getElem? (i := 2) rfl)
theorem w_30_3 : Cond.selects RX10 yX10_bent yX10_bent ∈ wsL_law := wi_30 _ (List.mem_of_getElem? (i := 3) rfl)
theorem w_30_4 : Cond.code yX10_bent cX10_bent 2 (some .int) ∈ wsL_law := wi_30 _ (List.mem_of_getElem? (i := 4) rfl)
theorem w_30_5 : Cond.methodLink RX10 241 yX2_bend ∈ wsL_law := wi_30 _ (List.mem_of_getElem? (i := 5) rfl)
theorem w_30_6 : Cond.instanceMethod yX2_bend ∈ wsL_law := wi_30 _ (List.mem_of_getElem? (i := 6) rfl)
theorem w_30_7 : Cond.selects RX2 yX2_bend yX2_bend ∈ wsL_law := wi_30 _ (List.mem_of_getElem? (i := 7) rfl)
theorem w_30_8 : Cond.code yX2_bend cX2_bend 5 (some .int) ∈ wsL_law := wi_30 _ (List.mem_of_getElem? (i := 8) rfl)
theorem w_30_9 : Cond.constantLong RX2 24 (2) ∈ wsL_law := wi_30 _ (List.mem_of_getElem? (i := 9) rfl)
theorem w_30_10 : Cond.methodLink RX2 26 Lib.MathLoose.abs_long.x ∈ wsL_law := wi_30 _ (List.mem_of_getElem? (i := 10) rfl)
theorem w_30_11 : Cond.methodLink RX2 20 yX2_groundX ∈ wsL_law := wi_30 _ (List.mem_of_getElem? (i := 11) rfl)
theorem w_30_12 : Cond.instanceMethod yX2_groundX ∈ wsL_law := wi_30 _ (List.mem_of_getElem? (i := 12) rfl)
theorem w_30_13 : Cond.selects RX2 yX2_groundX yX2_groundX ∈ wsL_law := wi_30 _ (List.mem_of_getElem? (i := 13) rfl)
theorem w_30_14 : Cond.code yX2_groundX cX2_groundX 3 (some .long) ∈ wsL_law := wi_30 _ (List.mem_of_getElem? (i := 14) rfl)
theorem w_30_15 : Cond.methodLink RX2 35 yX5_wayOf ∈ wsL_law := wi_30 _ (List.mem_of_getElem? (i := 15) rfl)
theorem w_30_16 : Cond.methodLink RX2 41 yX9_turnX ∈ wsL_law := wi_30 _ (List.mem_of_getElem? (i := 16) rfl)
theorem w_30_17 : Cond.methodLink RX2 32 yX2_groundY ∈ wsL_law := wi_30 _ (List.mem_of_getElem? (i := 17) rfl)
theorem w_30_18 : Cond.instanceMethod yX2_groundY ∈ wsL_law := wi_30 _ (List.mem_of_getElem? (i := 18) rfl)
theorem w_30_19 : Cond.selects RX2 yX2_groundY yX2_groundY ∈ wsL_law := wi_30 _ (List.mem_of_getElem? (i := 19) rfl)
theorem w_30_20 : Cond.code yX2_groundY cX2_groundY 3 (some .long) ∈ wsL_law := wi_30 _ (List.mem_of_getElem? (i := 20) rfl)
theorem w_30_21 : Cond.methodLink RX2 47 yX9_turnY ∈ wsL_law := wi_30 _ (List.mem_of_getElem? (i := 21) rfl)
theorem w_30_22 : Cond.methodLink RL 99 yX11_bent ∈ wsL_law := wi_30 _ (List.mem_of_getElem? (i := 22) rfl)
theorem w_30_23 : Cond.instanceMethod yX11_bent ∈ wsL_law := wi_30 _ (List.mem_of_getElem? (i := 23) rfl)
theorem w_31_0 : Cond.selects RX11 yX11_bent yX11_bent ∈ wsL_law := wi_31 _ (List.mem_of_getElem? (i := 0) rfl)
theorem w_31_1 : Cond.code yX11_bent cX11_bent 2 (some .int) ∈ wsL_law := wi_31 _ (List.mem_of_getElem? (i := 1) rfl)
theorem w_31_2 : Cond.constantLong RX11 243 (-60) ∈ wsL_law := wi_31 _ (List.mem_of_getElem? (i := 2) rfl)
theorem w_31_3 : Cond.methodLink RX11 245 yX11_bentOf ∈ wsL_law := wi_31 _ (List.mem_of_getElem? (i := 3) rfl)
theorem w_31_4 : Cond.instanceMethod yX11_bentOf ∈ wsL_law := wi_31 _ (List.mem_of_getElem? (i := 4) rfl)
theorem w_31_5 : Cond.selects RX11 yX11_bentOf yX11_bentOf ∈ wsL_law := wi_31 _ (List.mem_of_getElem? (i := 5) rfl)
theorem w_31_6 : Cond.code yX11_bentOf cX11_bentOf 6 (some .int) ∈ wsL_law := wi_31 _ (List.mem_of_getElem? (i := 6) rfl)
theorem w_31_7 : Cond.methodLink RL 100 yX10_turned ∈ wsL_law := wi_31 _ (List.mem_of_getElem? (i := 7) rfl)
theorem w_31_8 : Cond.instanceMethod yX10_turned ∈ wsL_law := wi_31 _ (List.mem_of_getElem? (i := 8) rfl)
theorem w_31_9 : Cond.selects RX10 yX10_turned yX10_turned ∈ wsL_law := wi_31 _ (List.mem_of_getElem? (i := 9) rfl)
theorem w_31_10 : Cond.code yX10_turned cX10_turned 1 (some .int) ∈ wsL_law := wi_31 _ (List.mem_of_getElem? (i := 10) rfl)
theorem w_31_11 : Cond.constant RX10 250 (-100000003) ∈ wsL_law := wi_31 _ (List.mem_of_getElem? (i := 11) rfl)
theorem w_31_12 : Cond.methodLink RX10 244 yX2_tells ∈ wsL_law := wi_31 _ (List.mem_of_getElem? (i := 12) rfl)
theorem w_31_13 : Cond.instanceMethod yX2_tells ∈ wsL_law := wi_31 _ (List.mem_of_getElem? (i := 13) rfl)
theorem w_31_14 : Cond.selects RX2 yX2_tells yX2_tells ∈ wsL_law := wi_31 _ (List.mem_of_getElem? (i := 14) rfl)
theorem w_31_15 : Cond.code yX2_tells cX2_tells 1 (some .boolean) ∈ wsL_law := wi_31 _ (List.mem_of_getElem? (i := 15) rfl)
theorem w_31_16 : Cond.methodLink RX10 247 yX2_likeliestPace ∈ wsL_law := wi_31 _ (List.mem_of_getElem? (i := 16) rfl)
theorem w_31_17 : Cond.instanceMethod yX2_likeliestPace ∈ wsL_law := wi_31 _ (List.mem_of_getElem? (i := 17) rfl)
theorem w_31_18 : Cond.selects RX2 yX2_likeliestPace yX2_likeliestPace ∈ wsL_law := wi_31 _ (List.mem_of_getElem? (i := 18) rfl)
theorem w_31_19 : Cond.code yX2_likeliestPace cX2_likeliestPace 7 (some .int) ∈ wsL_law := wi_31 _ (List.mem_of_getElem? (i := 19) rfl)
theorem w_31_20 : Cond.methodLink RX2 50 yX2_bend ∈ wsL_law := wi_31 _ (List.mem_of_getElem? (i := 20) rfl)
theorem w_31_21 : Cond.methodLink RL 103 yX11_turned ∈ wsL_law := wi_31 _ (List.mem_of_getElem? (i := 21) rfl)
theorem w_31_22 : Cond.instanceMethod yX11_turned ∈ wsL_law := wi_31 _ (List.mem_of_getElem? (i := 22) rfl)
theorem w_31_23 : Cond.selects RX11 yX11_turned yX11_turned ∈ wsL_law := wi_31 _ (List.mem_of_getElem? (i := 23) rfl)
theorem w_32_0 : Cond.code yX11_turned cX11_turned 1 (some .int) ∈ wsL_law := wi_32 _ (List.mem_of_getElem? (i := 0) rfl)
theorem w_32_1 : Cond.constant RX11 248 (-100000003) ∈ wsL_law := wi_32 _ (List.mem_of_getElem? (i := 1) rfl)
theorem w_32_2 : Cond.methodLink RX11 249 yX11_turnedBy ∈ wsL_law := wi_32 _ (List.mem_of_getElem? (i := 2) rfl)
theorem w_32_3 : Cond.instanceMethod yX11_turnedBy ∈ wsL_law := wi_32 _ (List.mem_of_getElem? (i := 3) rfl)
theorem w_32_4 : Cond.selects RX11 yX11_turnedBy yX11_turnedBy ∈ wsL_law := wi_32 _ (List.mem_of_getElem? (i := 4) rfl)
theorem w_32_5 : Cond.code yX11_turnedBy cX11_turnedBy 3 (some .int) ∈ wsL_law := wi_32 _ (List.mem_of_getElem? (i := 5) rfl)
theorem w_32_6 : Cond.methodLink RL 104 yX10_span ∈ wsL_law := wi_32 _ (List.mem_of_getElem? (i := 6) rfl)
theorem w_32_7 : Cond.instanceMethod yX10_span ∈ wsL_law := wi_32 _ (List.mem_of_getElem? (i := 7) rfl)
theorem w_32_8 : Cond.selects RX10 yX10_span yX10_span ∈ wsL_law := wi_32 _ (List.mem_of_getElem? (i := 8) rfl)
theorem w_32_9 : Cond.code yX10_span cX10_span 3 (some .int) ∈ wsL_law := wi_32 _ (List.mem_of_getElem? (i := 9) rfl)
theorem w_32_10 : Cond.methodLink RX10 251 yX2_farthestPace ∈ wsL_law := wi_32 _ (List.mem_of_getElem? (i := 10) rfl)
theorem w_32_11 : Cond.instanceMethod yX2_farthestPace ∈ wsL_law := wi_32 _ (List.mem_of_getElem? (i := 11) rfl)
theorem w_32_12 : Cond.selects RX2 yX2_farthestPace yX2_farthestPace ∈ wsL_law := wi_32 _ (List.mem_of_getElem? (i := 12) rfl)
theorem w_32_13 : Cond.code yX2_farthestPace cX2_farthestPace 6 (some .int) ∈ wsL_law := wi_32 _ (List.mem_of_getElem? (i := 13) rfl)
theorem w_32_14 : Cond.methodLink RX2 53 yX2_likeliestPace ∈ wsL_law := wi_32 _ (List.mem_of_getElem? (i := 14) rfl)
theorem w_32_15 : Cond.methodLink RL 107 yX11_span ∈ wsL_law := wi_32 _ (List.mem_of_getElem? (i := 15) rfl)
theorem w_32_16 : Cond.instanceMethod yX11_span ∈ wsL_law := wi_32 _ (List.mem_of_getElem? (i := 16) rfl)
theorem w_32_17 : Cond.selects RX11 yX11_span yX11_span ∈ wsL_law := wi_32 _ (List.mem_of_getElem? (i := 17) rfl)
theorem w_32_18 : Cond.code yX11_span cX11_span 6 (some .int) ∈ wsL_law := wi_32 _ (List.mem_of_getElem? (i := 18) rfl)
theorem w_32_19 : Cond.methodLink RL 108 yX10_learns ∈ wsL_law := wi_32 _ (List.mem_of_getElem? (i := 19) rfl)
theorem w_32_20 : Cond.instanceMethod yX10_learns ∈ wsL_law := wi_32 _ (List.mem_of_getElem? (i := 20) rfl)
theorem w_32_21 : Cond.selects RX10 yX10_learns yX10_learns ∈ wsL_law := wi_32 _ (List.mem_of_getElem? (i := 21) rfl)
theorem w_32_22 : Cond.code yX10_learns cX10_learns 5 (some .int) ∈ wsL_law := wi_32 _ (List.mem_of_getElem? (i := 22) rfl)
theorem w_32_23 : Cond.fieldLink RX10 260 "RoundThrow$Learner" "tries" "I" ∈ wsL_law := wi_32 _ (List.mem_of_getElem? (i := 23) rfl)
theorem w_33_0 : Cond.fieldLink RX10 263 "RoundThrow$Learner" "way" "I" ∈ wsL_law := wi_33 _ (List.mem_of_getElem? (i := 0) rfl)
theorem w_33_1 : Cond.methodLink RX10 254 yX10_areTwo ∈ wsL_law := wi_33 _ (List.mem_of_getElem? (i := 1) rfl)
theorem w_33_2 : Cond.instanceMethod yX10_areTwo ∈ wsL_law := wi_33 _ (List.mem_of_getElem? (i := 2) rfl)
theorem w_33_3 : Cond.selects RX10 yX10_areTwo yX10_areTwo ∈ wsL_law := wi_33 _ (List.mem_of_getElem? (i := 3) rfl)
theorem w_33_4 : Cond.code yX10_areTwo cX10_areTwo 3 (some .boolean) ∈ wsL_law := wi_33 _ (List.mem_of_getElem? (i := 4) rfl)
theorem w_33_5 : Cond.methodLink RX10 257 yX10_learnsAtFirst ∈ wsL_law := wi_33 _ (List.mem_of_getElem? (i := 5) rfl)
theorem w_33_6 : Cond.instanceMethod yX10_learnsAtFirst ∈ wsL_law := wi_33 _ (List.mem_of_getElem? (i := 6) rfl)
theorem w_33_7 : Cond.selects RX10 yX10_learnsAtFirst yX10_learnsAtFirst ∈ wsL_law := wi_33 _ (List.mem_of_getElem? (i := 7) rfl)
theorem w_33_8 : Cond.code yX10_learnsAtFirst cX10_learnsAtFirst 4 (some .boolean) ∈ wsL_law := wi_33 _ (List.mem_of_getElem? (i := 8) rfl)
theorem w_33_9 : Cond.methodLink RX10 276 yX3_aim ∈ wsL_law := wi_33 _ (List.mem_of_getElem? (i := 9) rfl)
theorem w_33_10 : Cond.instanceMethod yX3_aim ∈ wsL_law := wi_33 _ (List.mem_of_getElem? (i := 10) rfl)
theorem w_33_11 : Cond.selects RX3 yX3_aim yX3_aim ∈ wsL_law := wi_33 _ (List.mem_of_getElem? (i := 11) rfl)
theorem w_33_12 : Cond.code yX3_aim cX3_aim 5 none ∈ wsL_law := wi_33 _ (List.mem_of_getElem? (i := 12) rfl)
theorem w_33_13 : Cond.fieldLink RX3 9 "RoundThrow$Learner" "way" "I" ∈ wsL_law := wi_33 _ (List.mem_of_getElem? (i := 13) rfl)
theorem w_33_14 : Cond.methodLink RX3 15 yX3_product ∈ wsL_law := wi_33 _ (List.mem_of_getElem? (i := 14) rfl)
theorem w_33_15 : Cond.static yX3_product ∈ wsL_law := wi_33 _ (List.mem_of_getElem? (i := 15) rfl)
theorem w_33_16 : Cond.code yX3_product cX3_product 4 (some .long) ∈ wsL_law := wi_33 _ (List.mem_of_getElem? (i := 16) rfl)
theorem w_33_17 : Cond.methodLink RX3 19 yX9_turnX ∈ wsL_law := wi_33 _ (List.mem_of_getElem? (i := 17) rfl)
theorem w_33_18 : Cond.methodLink RX3 25 yX9_turnY ∈ wsL_law := wi_33 _ (List.mem_of_getElem? (i := 18) rfl)
theorem w_33_19 : Cond.methodLink RX10 266 yX10_tries ∈ wsL_law := wi_33 _ (List.mem_of_getElem? (i := 19) rfl)
theorem w_33_20 : Cond.instanceMethod yX10_tries ∈ wsL_law := wi_33 _ (List.mem_of_getElem? (i := 20) rfl)
theorem w_33_21 : Cond.selects RX10 yX10_tries yX10_tries ∈ wsL_law := wi_33 _ (List.mem_of_getElem? (i := 21) rfl)
theorem w_33_22 : Cond.code yX10_tries cX10_tries 5 (some .boolean) ∈ wsL_law := wi_33 _ (List.mem_of_getElem? (i := 22) rfl)
theorem w_33_23 : Cond.methodLink RX10 280 yX3_practise ∈ wsL_law := wi_33 _ (List.mem_of_getElem? (i := 23) rfl)
theorem w_34_0 : Cond.instanceMethod yX3_practise ∈ wsL_law := wi_34 _ (List.mem_of_getElem? (i := 0) rfl)
theorem w_34_1 : Cond.selects RX3 yX3_practise yX3_practise ∈ wsL_law := wi_34 _ (List.mem_of_getElem? (i := 1) rfl)
theorem w_34_2 : Cond.code yX3_practise cX3_practise 7 (some .boolean) ∈ wsL_law := wi_34 _ (List.mem_of_getElem? (i := 2) rfl)
theorem w_34_3 : Cond.fieldLink RX3 28 "RoundThrow$Learner" "tries" "I" ∈ wsL_law := wi_34 _ (List.mem_of_getElem? (i := 3) rfl)
theorem w_34_4 : Cond.methodLink RX3 31 yX0_throwAnew ∈ wsL_law := wi_34 _ (List.mem_of_getElem? (i := 4) rfl)
theorem w_34_5 : Cond.methodLink RX3 37 yX0_tickCaught ∈ wsL_law := wi_34 _ (List.mem_of_getElem? (i := 5) rfl)
theorem w_34_6 : Cond.methodLink RX3 41 yX0_tickNearest ∈ wsL_law := wi_34 _ (List.mem_of_getElem? (i := 6) rfl)
theorem w_34_7 : Cond.instanceMethod yX0_tickNearest ∈ wsL_law := wi_34 _ (List.mem_of_getElem? (i := 7) rfl)
theorem w_34_8 : Cond.selects RX0 yX0_tickNearest yX0_tickNearest ∈ wsL_law := wi_34 _ (List.mem_of_getElem? (i := 8) rfl)
theorem w_34_9 : Cond.code yX0_tickNearest cX0_tickNearest 8 (some .int) ∈ wsL_law := wi_34 _ (List.mem_of_getElem? (i := 9) rfl)
theorem w_34_10 : Cond.methodLink RX3 45 yX0_isRightOf ∈ wsL_law := wi_34 _ (List.mem_of_getElem? (i := 10) rfl)
theorem w_34_11 : Cond.instanceMethod yX0_isRightOf ∈ wsL_law := wi_34 _ (List.mem_of_getElem? (i := 11) rfl)
theorem w_34_12 : Cond.selects RX0 yX0_isRightOf yX0_isRightOf ∈ wsL_law := wi_34 _ (List.mem_of_getElem? (i := 12) rfl)
theorem w_34_13 : Cond.code yX0_isRightOf cX0_isRightOf 3 (some .boolean) ∈ wsL_law := wi_34 _ (List.mem_of_getElem? (i := 13) rfl)
theorem w_34_14 : Cond.methodLink RX3 49 yJ9_floorMod_7cf53 ∈ wsL_law := wi_34 _ (List.mem_of_getElem? (i := 14) rfl)
theorem w_34_15 : Cond.methodLink RL 111 yX11_learns ∈ wsL_law := wi_34 _ (List.mem_of_getElem? (i := 15) rfl)
theorem w_34_16 : Cond.instanceMethod yX11_learns ∈ wsL_law := wi_34 _ (List.mem_of_getElem? (i := 16) rfl)
theorem w_34_17 : Cond.selects RX11 yX11_learns yX11_learns ∈ wsL_law := wi_34 _ (List.mem_of_getElem? (i := 17) rfl)
theorem w_34_18 : Cond.code yX11_learns cX11_learns 6 (some .int) ∈ wsL_law := wi_34 _ (List.mem_of_getElem? (i := 18) rfl)
theorem w_34_19 : Cond.fieldLink RX11 252 "RoundThrowModel" "lastWay" "I" ∈ wsL_law := wi_34 _ (List.mem_of_getElem? (i := 19) rfl)
theorem w_34_20 : Cond.methodLink RX11 258 yX11_areTwo ∈ wsL_law := wi_34 _ (List.mem_of_getElem? (i := 20) rfl)
theorem w_34_21 : Cond.instanceMethod yX11_areTwo ∈ wsL_law := wi_34 _ (List.mem_of_getElem? (i := 21) rfl)
theorem w_34_22 : Cond.selects RX11 yX11_areTwo yX11_areTwo ∈ wsL_law := wi_34 _ (List.mem_of_getElem? (i := 22) rfl)
theorem w_34_23 : Cond.code yX11_areTwo cX11_areTwo 3 (some .boolean) ∈ wsL_law := wi_34 _ (List.mem_of_getElem? (i := 23) rfl)
theorem w_35_0 : Cond.methodLink RX11 261 yX11_firstWay ∈ wsL_law := wi_35 _ (List.mem_of_getElem? (i := 0) rfl)
theorem w_35_1 : Cond.instanceMethod yX11_firstWay ∈ wsL_law := wi_35 _ (List.mem_of_getElem? (i := 1) rfl)
theorem w_35_2 : Cond.selects RX11 yX11_firstWay yX11_firstWay ∈ wsL_law := wi_35 _ (List.mem_of_getElem? (i := 2) rfl)
theorem w_35_3 : Cond.code yX11_firstWay cX11_firstWay 10 (some .int) ∈ wsL_law := wi_35 _ (List.mem_of_getElem? (i := 3) rfl)
theorem w_35_4 : Cond.methodLink RX11 264 yX11_triesFrom ∈ wsL_law := wi_35 _ (List.mem_of_getElem? (i := 4) rfl)
theorem w_35_5 : Cond.instanceMethod yX11_triesFrom ∈ wsL_law := wi_35 _ (List.mem_of_getElem? (i := 5) rfl)
theorem w_35_6 : Cond.selects RX11 yX11_triesFrom yX11_triesFrom ∈ wsL_law := wi_35 _ (List.mem_of_getElem? (i := 6) rfl)
theorem w_35_7 : Cond.code yX11_triesFrom cX11_triesFrom 6 (some .int) ∈ wsL_law := wi_35 _ (List.mem_of_getElem? (i := 7) rfl)
theorem w_35_8 : Cond.methodLink RX11 255 yX11_nextWay ∈ wsL_law := wi_35 _ (List.mem_of_getElem? (i := 8) rfl)
theorem w_35_9 : Cond.instanceMethod yX11_nextWay ∈ wsL_law := wi_35 _ (List.mem_of_getElem? (i := 9) rfl)
theorem w_35_10 : Cond.selects RX11 yX11_nextWay yX11_nextWay ∈ wsL_law := wi_35 _ (List.mem_of_getElem? (i := 10) rfl)
theorem w_35_11 : Cond.code yX11_nextWay cX11_nextWay 7 (some .int) ∈ wsL_law := wi_35 _ (List.mem_of_getElem? (i := 11) rfl)
theorem w_35_12 : Cond.methodLink RL 112 yX10_along ∈ wsL_law := wi_35 _ (List.mem_of_getElem? (i := 12) rfl)
theorem w_35_13 : Cond.instanceMethod yX10_along ∈ wsL_law := wi_35 _ (List.mem_of_getElem? (i := 13) rfl)
theorem w_35_14 : Cond.selects RX10 yX10_along yX10_along ∈ wsL_law := wi_35 _ (List.mem_of_getElem? (i := 14) rfl)
theorem w_35_15 : Cond.code yX10_along cX10_along 5 (some .int) ∈ wsL_law := wi_35 _ (List.mem_of_getElem? (i := 15) rfl)
theorem w_35_16 : Cond.methodLink RL 115 yX11_along ∈ wsL_law := wi_35 _ (List.mem_of_getElem? (i := 16) rfl)
theorem w_35_17 : Cond.instanceMethod yX11_along ∈ wsL_law := wi_35 _ (List.mem_of_getElem? (i := 17) rfl)
theorem w_35_18 : Cond.selects RX11 yX11_along yX11_along ∈ wsL_law := wi_35 _ (List.mem_of_getElem? (i := 18) rfl)
theorem w_35_19 : Cond.code yX11_along cX11_along 7 (some .int) ∈ wsL_law := wi_35 _ (List.mem_of_getElem? (i := 19) rfl)
theorem w_35_20 : Cond.constantLong RX11 267 (198) ∈ wsL_law := wi_35 _ (List.mem_of_getElem? (i := 20) rfl)
theorem w_35_21 : Cond.methodLink RL 116 yX10_image ∈ wsL_law := wi_35 _ (List.mem_of_getElem? (i := 21) rfl)
theorem w_35_22 : Cond.instanceMethod yX10_image ∈ wsL_law := wi_35 _ (List.mem_of_getElem? (i := 22) rfl)
theorem w_35_23 : Cond.selects RX10 yX10_image yX10_image ∈ wsL_law := wi_35 _ (List.mem_of_getElem? (i := 23) rfl)
theorem w_36_0 : Cond.code yX10_image cX10_image 2 (some .int) ∈ wsL_law := wi_36 _ (List.mem_of_getElem? (i := 0) rfl)
theorem w_36_1 : Cond.methodLink RX10 269 yX10_isImage ∈ wsL_law := wi_36 _ (List.mem_of_getElem? (i := 1) rfl)
theorem w_36_2 : Cond.static yX10_isImage ∈ wsL_law := wi_36 _ (List.mem_of_getElem? (i := 2) rfl)
theorem w_36_3 : Cond.code yX10_isImage cX10_isImage 1 (some .boolean) ∈ wsL_law := wi_36 _ (List.mem_of_getElem? (i := 3) rfl)
theorem w_36_4 : Cond.methodLink RX10 272 yX7_become ∈ wsL_law := wi_36 _ (List.mem_of_getElem? (i := 4) rfl)
theorem w_36_5 : Cond.instanceMethod yX7_become ∈ wsL_law := wi_36 _ (List.mem_of_getElem? (i := 5) rfl)
theorem w_36_6 : Cond.selects RX7 yX7_become yX7_become ∈ wsL_law := wi_36 _ (List.mem_of_getElem? (i := 6) rfl)
theorem w_36_7 : Cond.code yX7_become cX7_become 2 none ∈ wsL_law := wi_36 _ (List.mem_of_getElem? (i := 7) rfl)
theorem w_36_8 : Cond.methodLink RX7 66 arraycopyName ∈ wsL_law := wi_36 _ (List.mem_of_getElem? (i := 8) rfl)
theorem w_36_9 : Cond.native arraycopyName ∈ wsL_law := wi_36 _ (List.mem_of_getElem? (i := 9) rfl)
theorem w_36_10 : Cond.static arraycopyName ∈ wsL_law := wi_36 _ (List.mem_of_getElem? (i := 10) rfl)
theorem w_36_11 : Cond.initialized "java/lang/System" ∈ wsL_law := wi_36 _ (List.mem_of_getElem? (i := 11) rfl)
theorem w_36_12 : Cond.methodLink RX7 72 yX6_become ∈ wsL_law := wi_36 _ (List.mem_of_getElem? (i := 12) rfl)
theorem w_36_13 : Cond.instanceMethod yX6_become ∈ wsL_law := wi_36 _ (List.mem_of_getElem? (i := 13) rfl)
theorem w_36_14 : Cond.selects RX6 yX6_become yX6_become ∈ wsL_law := wi_36 _ (List.mem_of_getElem? (i := 14) rfl)
theorem w_36_15 : Cond.code yX6_become cX6_become 2 none ∈ wsL_law := wi_36 _ (List.mem_of_getElem? (i := 15) rfl)
theorem w_36_16 : Cond.methodLink RX6 50 arraycopyName ∈ wsL_law := wi_36 _ (List.mem_of_getElem? (i := 16) rfl)
theorem w_36_17 : Cond.methodLink RX7 76 yX2_become ∈ wsL_law := wi_36 _ (List.mem_of_getElem? (i := 17) rfl)
theorem w_36_18 : Cond.instanceMethod yX2_become ∈ wsL_law := wi_36 _ (List.mem_of_getElem? (i := 18) rfl)
theorem w_36_19 : Cond.selects RX2 yX2_become yX2_become ∈ wsL_law := wi_36 _ (List.mem_of_getElem? (i := 19) rfl)
theorem w_36_20 : Cond.code yX2_become cX2_become 2 none ∈ wsL_law := wi_36 _ (List.mem_of_getElem? (i := 20) rfl)
theorem w_36_21 : Cond.methodLink RX2 57 arraycopyName ∈ wsL_law := wi_36 _ (List.mem_of_getElem? (i := 21) rfl)
theorem w_36_22 : Cond.methodLink RL 119 yX11_image ∈ wsL_law := wi_36 _ (List.mem_of_getElem? (i := 22) rfl)
theorem w_36_23 : Cond.instanceMethod yX11_image ∈ wsL_law := wi_36 _ (List.mem_of_getElem? (i := 23) rfl)
theorem w_37_0 : Cond.selects RX11 yX11_image yX11_image ∈ wsL_law := wi_37 _ (List.mem_of_getElem? (i := 0) rfl)
theorem w_37_1 : Cond.code yX11_image cX11_image 2 (some .int) ∈ wsL_law := wi_37 _ (List.mem_of_getElem? (i := 1) rfl)
theorem w_37_2 : Cond.fieldLink RX11 273 "RoundThrowModel" "keptAt" "I" ∈ wsL_law := wi_37 _ (List.mem_of_getElem? (i := 2) rfl)
theorem w_37_3 : Cond.fieldLink RX11 269 "RoundThrowModel" "isWriting" "Z" ∈ wsL_law := wi_37 _ (List.mem_of_getElem? (i := 3) rfl)
theorem w_37_4 : Cond.methodLink RX11 279 yX11_passAll ∈ wsL_law := wi_37 _ (List.mem_of_getElem? (i := 4) rfl)
theorem w_37_5 : Cond.instanceMethod yX11_passAll ∈ wsL_law := wi_37 _ (List.mem_of_getElem? (i := 5) rfl)
theorem w_37_6 : Cond.selects RX11 yX11_passAll yX11_passAll ∈ wsL_law := wi_37 _ (List.mem_of_getElem? (i := 6) rfl)
theorem w_37_7 : Cond.code yX11_passAll cX11_passAll 2 none ∈ wsL_law := wi_37 _ (List.mem_of_getElem? (i := 7) rfl)
theorem w_37_8 : Cond.methodLink RX11 276 yX11_pass ∈ wsL_law := wi_37 _ (List.mem_of_getElem? (i := 8) rfl)
theorem w_37_9 : Cond.instanceMethod yX11_pass ∈ wsL_law := wi_37 _ (List.mem_of_getElem? (i := 9) rfl)
theorem w_37_10 : Cond.selects RX11 yX11_pass yX11_pass ∈ wsL_law := wi_37 _ (List.mem_of_getElem? (i := 10) rfl)
theorem w_37_11 : Cond.code yX11_pass cX11_pass 3 (some .int) ∈ wsL_law := wi_37 _ (List.mem_of_getElem? (i := 11) rfl)
theorem w_37_12 : Cond.methodLink RL 120 yX10_restore ∈ wsL_law := wi_37 _ (List.mem_of_getElem? (i := 12) rfl)
theorem w_37_13 : Cond.instanceMethod yX10_restore ∈ wsL_law := wi_37 _ (List.mem_of_getElem? (i := 13) rfl)
theorem w_37_14 : Cond.selects RX10 yX10_restore yX10_restore ∈ wsL_law := wi_37 _ (List.mem_of_getElem? (i := 14) rfl)
theorem w_37_15 : Cond.code yX10_restore cX10_restore 2 (some .int) ∈ wsL_law := wi_37 _ (List.mem_of_getElem? (i := 15) rfl)
theorem w_37_16 : Cond.methodLink RL 123 yX11_restore ∈ wsL_law := wi_37 _ (List.mem_of_getElem? (i := 16) rfl)
theorem w_37_17 : Cond.instanceMethod yX11_restore ∈ wsL_law := wi_37 _ (List.mem_of_getElem? (i := 17) rfl)
theorem w_37_18 : Cond.selects RX11 yX11_restore yX11_restore ∈ wsL_law := wi_37 _ (List.mem_of_getElem? (i := 18) rfl)
theorem w_37_19 : Cond.code yX11_restore cX11_restore 2 (some .int) ∈ wsL_law := wi_37 _ (List.mem_of_getElem? (i := 19) rfl)
theorem w_37_20 : Cond.methodLink RL 124 yX10_told ∈ wsL_law := wi_37 _ (List.mem_of_getElem? (i := 20) rfl)
theorem w_37_21 : Cond.instanceMethod yX10_told ∈ wsL_law := wi_37 _ (List.mem_of_getElem? (i := 21) rfl)
theorem w_37_22 : Cond.selects RX10 yX10_told yX10_told ∈ wsL_law := wi_37 _ (List.mem_of_getElem? (i := 22) rfl)
theorem w_37_23 : Cond.code yX10_told cX10_told 2 (some .int) ∈ wsL_law := wi_37 _ (List.mem_of_getElem? (i := 23) rfl)
theorem w_38_0 : Cond.methodLink RL 127 yX11_told ∈ wsL_law := wi_38 _ (List.mem_of_getElem? (i := 0) rfl)
theorem w_38_1 : Cond.instanceMethod yX11_told ∈ wsL_law := wi_38 _ (List.mem_of_getElem? (i := 1) rfl)
theorem w_38_2 : Cond.selects RX11 yX11_told yX11_told ∈ wsL_law := wi_38 _ (List.mem_of_getElem? (i := 2) rfl)
theorem w_38_3 : Cond.code yX11_told cX11_told 2 (some .int) ∈ wsL_law := wi_38 _ (List.mem_of_getElem? (i := 3) rfl)
theorem w_38_4 : Cond.constantLong RX11 282 (8) ∈ wsL_law := wi_38 _ (List.mem_of_getElem? (i := 4) rfl)
end
