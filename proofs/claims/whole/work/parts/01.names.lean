-- ===== PART A: goes FIRST, ahead of the names: the tables' words, and 'selects' of the private methods out of them =====
/-- a private method of a class that the tables say can be made, by its rows of tables_1 -/
def lw_okq (q : MethodName × Nat) : Prop := (q.1.cls ≠ "java/lang/invoke/MethodHandle" ∧ q.1.cls ≠ "java/lang/invoke/VarHandle") ∧ Cond.instantiable q.1.cls q.2 ∈ tables_1 ∧ Cond.privateMethod q.1 ∈ tables_1 ∧ Cond.instanceMethod q.1 ∈ tables_1
theorem lw_p0 : lw_okq (⟨"RoundThrow$Ball", "gap", "(LRoundThrow$Track;I)J"⟩, 6) := ⟨⟨by decide +kernel, by decide +kernel⟩, List.mem_of_getElem? (i := 137) (by decide +kernel), List.mem_of_getElem? (i := 428) (by decide +kernel), List.mem_of_getElem? (i := 429) (by decide +kernel)⟩
theorem lw_p1 : lw_okq (⟨"RoundThrow$CatchTable", "bit", "(II)I"⟩, 4) := ⟨⟨by decide +kernel, by decide +kernel⟩, List.mem_of_getElem? (i := 180) (by decide +kernel), List.mem_of_getElem? (i := 464) (by decide +kernel), List.mem_of_getElem? (i := 465) (by decide +kernel)⟩
theorem lw_p2 : lw_okq (⟨"RoundThrow$CatchTable", "neighbours", "(II)I"⟩, 4) := ⟨⟨by decide +kernel, by decide +kernel⟩, List.mem_of_getElem? (i := 180) (by decide +kernel), List.mem_of_getElem? (i := 469) (by decide +kernel), List.mem_of_getElem? (i := 470) (by decide +kernel)⟩
theorem lw_p3 : lw_okq (⟨"RoundThrow$Track", "linesMeet", "(II)Z"⟩, 2) := ⟨⟨by decide +kernel, by decide +kernel⟩, List.mem_of_getElem? (i := 164) (by decide +kernel), List.mem_of_getElem? (i := 488) (by decide +kernel), List.mem_of_getElem? (i := 489) (by decide +kernel)⟩
theorem lw_p4 : lw_okq (⟨"RoundThrow$Track", "isAcross", "(II)Z"⟩, 2) := ⟨⟨by decide +kernel, by decide +kernel⟩, List.mem_of_getElem? (i := 164) (by decide +kernel), List.mem_of_getElem? (i := 499) (by decide +kernel), List.mem_of_getElem? (i := 500) (by decide +kernel)⟩
theorem lw_p5 : lw_okq (⟨"RoundThrow$Track", "side", "(II)J"⟩, 2) := ⟨⟨by decide +kernel, by decide +kernel⟩, List.mem_of_getElem? (i := 164) (by decide +kernel), List.mem_of_getElem? (i := 503) (by decide +kernel), List.mem_of_getElem? (i := 504) (by decide +kernel)⟩
theorem lw_p6 : lw_okq (⟨"RoundThrow$Film", "groundX", "(II)J"⟩, 3) := ⟨⟨by decide +kernel, by decide +kernel⟩, List.mem_of_getElem? (i := 78) (by decide +kernel), List.mem_of_getElem? (i := 574) (by decide +kernel), List.mem_of_getElem? (i := 575) (by decide +kernel)⟩
theorem lw_p7 : lw_okq (⟨"RoundThrow$Film", "groundY", "(II)J"⟩, 3) := ⟨⟨by decide +kernel, by decide +kernel⟩, List.mem_of_getElem? (i := 78) (by decide +kernel), List.mem_of_getElem? (i := 582) (by decide +kernel), List.mem_of_getElem? (i := 583) (by decide +kernel)⟩
theorem lw_p8 : lw_okq (⟨"RoundThrow", "areTwo", "(II)Z"⟩, 8) := ⟨⟨by decide +kernel, by decide +kernel⟩, List.mem_of_getElem? (i := 18) (by decide +kernel), List.mem_of_getElem? (i := 614) (by decide +kernel), List.mem_of_getElem? (i := 615) (by decide +kernel)⟩
theorem lw_p9 : lw_okq (⟨"RoundThrow", "learnsAtFirst", "(III)Z"⟩, 8) := ⟨⟨by decide +kernel, by decide +kernel⟩, List.mem_of_getElem? (i := 18) (by decide +kernel), List.mem_of_getElem? (i := 618) (by decide +kernel), List.mem_of_getElem? (i := 619) (by decide +kernel)⟩
theorem lw_p10 : lw_okq (⟨"RoundThrow", "tries", "(IIII)Z"⟩, 8) := ⟨⟨by decide +kernel, by decide +kernel⟩, List.mem_of_getElem? (i := 18) (by decide +kernel), List.mem_of_getElem? (i := 631) (by decide +kernel), List.mem_of_getElem? (i := 632) (by decide +kernel)⟩
theorem lw_p11 : lw_okq (⟨"RoundThrowModel", "setNow", "(I)I"⟩, 35) := ⟨⟨by decide +kernel, by decide +kernel⟩, List.mem_of_getElem? (i := 686) (by decide +kernel), List.mem_of_getElem? (i := 807) (by decide +kernel), List.mem_of_getElem? (i := 808) (by decide +kernel)⟩
theorem lw_p12 : lw_okq (⟨"RoundThrowModel", "layTurns", "()V"⟩, 35) := ⟨⟨by decide +kernel, by decide +kernel⟩, List.mem_of_getElem? (i := 686) (by decide +kernel), List.mem_of_getElem? (i := 847) (by decide +kernel), List.mem_of_getElem? (i := 848) (by decide +kernel)⟩
theorem lw_p13 : lw_okq (⟨"RoundThrowModel", "turnPoint", "(III)V"⟩, 35) := ⟨⟨by decide +kernel, by decide +kernel⟩, List.mem_of_getElem? (i := 686) (by decide +kernel), List.mem_of_getElem? (i := 863) (by decide +kernel), List.mem_of_getElem? (i := 864) (by decide +kernel)⟩
theorem lw_p14 : lw_okq (⟨"RoundThrowModel", "isOne", "(I)Z"⟩, 35) := ⟨⟨by decide +kernel, by decide +kernel⟩, List.mem_of_getElem? (i := 686) (by decide +kernel), List.mem_of_getElem? (i := 872) (by decide +kernel), List.mem_of_getElem? (i := 873) (by decide +kernel)⟩
theorem lw_p15 : lw_okq (⟨"RoundThrowModel", "layOne", "(II)V"⟩, 35) := ⟨⟨by decide +kernel, by decide +kernel⟩, List.mem_of_getElem? (i := 686) (by decide +kernel), List.mem_of_getElem? (i := 879) (by decide +kernel), List.mem_of_getElem? (i := 880) (by decide +kernel)⟩
def lw_privs_1 : List (MethodName × Nat) := [(⟨"RoundThrow$Ball", "gap", "(LRoundThrow$Track;I)J"⟩, 6), (⟨"RoundThrow$CatchTable", "bit", "(II)I"⟩, 4), (⟨"RoundThrow$CatchTable", "neighbours", "(II)I"⟩, 4), (⟨"RoundThrow$Track", "linesMeet", "(II)Z"⟩, 2), (⟨"RoundThrow$Track", "isAcross", "(II)Z"⟩, 2), (⟨"RoundThrow$Track", "side", "(II)J"⟩, 2), (⟨"RoundThrow$Film", "groundX", "(II)J"⟩, 3), (⟨"RoundThrow$Film", "groundY", "(II)J"⟩, 3), (⟨"RoundThrow", "areTwo", "(II)Z"⟩, 8), (⟨"RoundThrow", "learnsAtFirst", "(III)Z"⟩, 8), (⟨"RoundThrow", "tries", "(IIII)Z"⟩, 8), (⟨"RoundThrowModel", "setNow", "(I)I"⟩, 35), (⟨"RoundThrowModel", "layTurns", "()V"⟩, 35), (⟨"RoundThrowModel", "turnPoint", "(III)V"⟩, 35), (⟨"RoundThrowModel", "isOne", "(I)Z"⟩, 35), (⟨"RoundThrowModel", "layOne", "(II)V"⟩, 35)]
theorem lw_r1 : ∀ q ∈ lw_privs_1, lw_okq q := List.forall_mem_cons.mpr ⟨lw_p0, List.forall_mem_cons.mpr ⟨lw_p1, List.forall_mem_cons.mpr ⟨lw_p2, List.forall_mem_cons.mpr ⟨lw_p3, List.forall_mem_cons.mpr ⟨lw_p4, List.forall_mem_cons.mpr ⟨lw_p5, List.forall_mem_cons.mpr ⟨lw_p6, List.forall_mem_cons.mpr ⟨lw_p7, List.forall_mem_cons.mpr ⟨lw_p8, List.forall_mem_cons.mpr ⟨lw_p9, List.forall_mem_cons.mpr ⟨lw_p10, List.forall_mem_cons.mpr ⟨lw_p11, List.forall_mem_cons.mpr ⟨lw_p12, List.forall_mem_cons.mpr ⟨lw_p13, List.forall_mem_cons.mpr ⟨lw_p14, List.forall_mem_cons.mpr ⟨lw_p15, fun _ h => absurd h List.not_mem_nil⟩⟩⟩⟩⟩⟩⟩⟩⟩⟩⟩⟩⟩⟩⟩⟩
theorem lw_p16 : lw_okq (⟨"RoundThrowModel", "wayAt", "(I)I"⟩, 35) := ⟨⟨by decide +kernel, by decide +kernel⟩, List.mem_of_getElem? (i := 686) (by decide +kernel), List.mem_of_getElem? (i := 883) (by decide +kernel), List.mem_of_getElem? (i := 884) (by decide +kernel)⟩
theorem lw_p17 : lw_okq (⟨"RoundThrowModel", "layThrow", "(III)V"⟩, 35) := ⟨⟨by decide +kernel, by decide +kernel⟩, List.mem_of_getElem? (i := 686) (by decide +kernel), List.mem_of_getElem? (i := 895) (by decide +kernel), List.mem_of_getElem? (i := 896) (by decide +kernel)⟩
theorem lw_p18 : lw_okq (⟨"RoundThrowModel", "ballX", "(I)I"⟩, 35) := ⟨⟨by decide +kernel, by decide +kernel⟩, List.mem_of_getElem? (i := 686) (by decide +kernel), List.mem_of_getElem? (i := 899) (by decide +kernel), List.mem_of_getElem? (i := 900) (by decide +kernel)⟩
theorem lw_p19 : lw_okq (⟨"RoundThrowModel", "ballY", "(I)I"⟩, 35) := ⟨⟨by decide +kernel, by decide +kernel⟩, List.mem_of_getElem? (i := 686) (by decide +kernel), List.mem_of_getElem? (i := 903) (by decide +kernel), List.mem_of_getElem? (i := 904) (by decide +kernel)⟩
theorem lw_p20 : lw_okq (⟨"RoundThrowModel", "seeBall", "(I)V"⟩, 35) := ⟨⟨by decide +kernel, by decide +kernel⟩, List.mem_of_getElem? (i := 686) (by decide +kernel), List.mem_of_getElem? (i := 907) (by decide +kernel), List.mem_of_getElem? (i := 908) (by decide +kernel)⟩
theorem lw_p21 : lw_okq (⟨"RoundThrowModel", "caughtOf", "(IIII)I"⟩, 35) := ⟨⟨by decide +kernel, by decide +kernel⟩, List.mem_of_getElem? (i := 686) (by decide +kernel), List.mem_of_getElem? (i := 915) (by decide +kernel), List.mem_of_getElem? (i := 916) (by decide +kernel)⟩
theorem lw_p22 : lw_okq (⟨"RoundThrowModel", "farFrom", "(II)I"⟩, 35) := ⟨⟨by decide +kernel, by decide +kernel⟩, List.mem_of_getElem? (i := 686) (by decide +kernel), List.mem_of_getElem? (i := 919) (by decide +kernel), List.mem_of_getElem? (i := 920) (by decide +kernel)⟩
theorem lw_p23 : lw_okq (⟨"RoundThrowModel", "neighbours", "(II)I"⟩, 35) := ⟨⟨by decide +kernel, by decide +kernel⟩, List.mem_of_getElem? (i := 686) (by decide +kernel), List.mem_of_getElem? (i := 930) (by decide +kernel), List.mem_of_getElem? (i := 931) (by decide +kernel)⟩
theorem lw_p24 : lw_okq (⟨"RoundThrowModel", "meet", "(II)Z"⟩, 35) := ⟨⟨by decide +kernel, by decide +kernel⟩, List.mem_of_getElem? (i := 686) (by decide +kernel), List.mem_of_getElem? (i := 938) (by decide +kernel), List.mem_of_getElem? (i := 939) (by decide +kernel)⟩
theorem lw_p25 : lw_okq (⟨"RoundThrowModel", "side", "(III)I"⟩, 35) := ⟨⟨by decide +kernel, by decide +kernel⟩, List.mem_of_getElem? (i := 686) (by decide +kernel), List.mem_of_getElem? (i := 942) (by decide +kernel), List.mem_of_getElem? (i := 943) (by decide +kernel)⟩
theorem lw_p26 : lw_okq (⟨"RoundThrowModel", "lies", "(III)Z"⟩, 35) := ⟨⟨by decide +kernel, by decide +kernel⟩, List.mem_of_getElem? (i := 686) (by decide +kernel), List.mem_of_getElem? (i := 946) (by decide +kernel), List.mem_of_getElem? (i := 947) (by decide +kernel)⟩
theorem lw_p27 : lw_okq (⟨"RoundThrowModel", "beginRoll", "(IIII)V"⟩, 35) := ⟨⟨by decide +kernel, by decide +kernel⟩, List.mem_of_getElem? (i := 686) (by decide +kernel), List.mem_of_getElem? (i := 960) (by decide +kernel), List.mem_of_getElem? (i := 961) (by decide +kernel)⟩
theorem lw_p28 : lw_okq (⟨"RoundThrowModel", "roll", "()V"⟩, 35) := ⟨⟨by decide +kernel, by decide +kernel⟩, List.mem_of_getElem? (i := 686) (by decide +kernel), List.mem_of_getElem? (i := 964) (by decide +kernel), List.mem_of_getElem? (i := 965) (by decide +kernel)⟩
theorem lw_p29 : lw_okq (⟨"RoundThrowModel", "isOff", "()Z"⟩, 35) := ⟨⟨by decide +kernel, by decide +kernel⟩, List.mem_of_getElem? (i := 686) (by decide +kernel), List.mem_of_getElem? (i := 972) (by decide +kernel), List.mem_of_getElem? (i := 973) (by decide +kernel)⟩
theorem lw_p30 : lw_okq (⟨"RoundThrowModel", "leansOf", "(I)I"⟩, 35) := ⟨⟨by decide +kernel, by decide +kernel⟩, List.mem_of_getElem? (i := 686) (by decide +kernel), List.mem_of_getElem? (i := 980) (by decide +kernel), List.mem_of_getElem? (i := 981) (by decide +kernel)⟩
theorem lw_p31 : lw_okq (⟨"RoundThrowModel", "bentOf", "(I)I"⟩, 35) := ⟨⟨by decide +kernel, by decide +kernel⟩, List.mem_of_getElem? (i := 686) (by decide +kernel), List.mem_of_getElem? (i := 1006) (by decide +kernel), List.mem_of_getElem? (i := 1007) (by decide +kernel)⟩
def lw_privs_2 : List (MethodName × Nat) := [(⟨"RoundThrowModel", "wayAt", "(I)I"⟩, 35), (⟨"RoundThrowModel", "layThrow", "(III)V"⟩, 35), (⟨"RoundThrowModel", "ballX", "(I)I"⟩, 35), (⟨"RoundThrowModel", "ballY", "(I)I"⟩, 35), (⟨"RoundThrowModel", "seeBall", "(I)V"⟩, 35), (⟨"RoundThrowModel", "caughtOf", "(IIII)I"⟩, 35), (⟨"RoundThrowModel", "farFrom", "(II)I"⟩, 35), (⟨"RoundThrowModel", "neighbours", "(II)I"⟩, 35), (⟨"RoundThrowModel", "meet", "(II)Z"⟩, 35), (⟨"RoundThrowModel", "side", "(III)I"⟩, 35), (⟨"RoundThrowModel", "lies", "(III)Z"⟩, 35), (⟨"RoundThrowModel", "beginRoll", "(IIII)V"⟩, 35), (⟨"RoundThrowModel", "roll", "()V"⟩, 35), (⟨"RoundThrowModel", "isOff", "()Z"⟩, 35), (⟨"RoundThrowModel", "leansOf", "(I)I"⟩, 35), (⟨"RoundThrowModel", "bentOf", "(I)I"⟩, 35)]
theorem lw_r2 : ∀ q ∈ lw_privs_2, lw_okq q := List.forall_mem_cons.mpr ⟨lw_p16, List.forall_mem_cons.mpr ⟨lw_p17, List.forall_mem_cons.mpr ⟨lw_p18, List.forall_mem_cons.mpr ⟨lw_p19, List.forall_mem_cons.mpr ⟨lw_p20, List.forall_mem_cons.mpr ⟨lw_p21, List.forall_mem_cons.mpr ⟨lw_p22, List.forall_mem_cons.mpr ⟨lw_p23, List.forall_mem_cons.mpr ⟨lw_p24, List.forall_mem_cons.mpr ⟨lw_p25, List.forall_mem_cons.mpr ⟨lw_p26, List.forall_mem_cons.mpr ⟨lw_p27, List.forall_mem_cons.mpr ⟨lw_p28, List.forall_mem_cons.mpr ⟨lw_p29, List.forall_mem_cons.mpr ⟨lw_p30, List.forall_mem_cons.mpr ⟨lw_p31, fun _ h => absurd h List.not_mem_nil⟩⟩⟩⟩⟩⟩⟩⟩⟩⟩⟩⟩⟩⟩⟩⟩
theorem lw_p32 : lw_okq (⟨"RoundThrowModel", "turnedBy", "()I"⟩, 35) := ⟨⟨by decide +kernel, by decide +kernel⟩, List.mem_of_getElem? (i := 686) (by decide +kernel), List.mem_of_getElem? (i := 1015) (by decide +kernel), List.mem_of_getElem? (i := 1016) (by decide +kernel)⟩
theorem lw_p33 : lw_okq (⟨"RoundThrowModel", "areTwo", "(II)Z"⟩, 35) := ⟨⟨by decide +kernel, by decide +kernel⟩, List.mem_of_getElem? (i := 686) (by decide +kernel), List.mem_of_getElem? (i := 1027) (by decide +kernel), List.mem_of_getElem? (i := 1028) (by decide +kernel)⟩
theorem lw_p34 : lw_okq (⟨"RoundThrowModel", "firstWay", "(III)I"⟩, 35) := ⟨⟨by decide +kernel, by decide +kernel⟩, List.mem_of_getElem? (i := 686) (by decide +kernel), List.mem_of_getElem? (i := 1031) (by decide +kernel), List.mem_of_getElem? (i := 1032) (by decide +kernel)⟩
theorem lw_p35 : lw_okq (⟨"RoundThrowModel", "triesFrom", "(IIII)I"⟩, 35) := ⟨⟨by decide +kernel, by decide +kernel⟩, List.mem_of_getElem? (i := 686) (by decide +kernel), List.mem_of_getElem? (i := 1035) (by decide +kernel), List.mem_of_getElem? (i := 1036) (by decide +kernel)⟩
theorem lw_p36 : lw_okq (⟨"RoundThrowModel", "nextWay", "(II)I"⟩, 35) := ⟨⟨by decide +kernel, by decide +kernel⟩, List.mem_of_getElem? (i := 686) (by decide +kernel), List.mem_of_getElem? (i := 1039) (by decide +kernel), List.mem_of_getElem? (i := 1040) (by decide +kernel)⟩
theorem lw_p37 : lw_okq (⟨"RoundThrowModel", "passAll", "()V"⟩, 35) := ⟨⟨by decide +kernel, by decide +kernel⟩, List.mem_of_getElem? (i := 686) (by decide +kernel), List.mem_of_getElem? (i := 1052) (by decide +kernel), List.mem_of_getElem? (i := 1053) (by decide +kernel)⟩
theorem lw_p38 : lw_okq (⟨"RoundThrowModel", "pass", "(I)I"⟩, 35) := ⟨⟨by decide +kernel, by decide +kernel⟩, List.mem_of_getElem? (i := 686) (by decide +kernel), List.mem_of_getElem? (i := 1056) (by decide +kernel), List.mem_of_getElem? (i := 1057) (by decide +kernel)⟩
def lw_privs_3 : List (MethodName × Nat) := [(⟨"RoundThrowModel", "turnedBy", "()I"⟩, 35), (⟨"RoundThrowModel", "areTwo", "(II)Z"⟩, 35), (⟨"RoundThrowModel", "firstWay", "(III)I"⟩, 35), (⟨"RoundThrowModel", "triesFrom", "(IIII)I"⟩, 35), (⟨"RoundThrowModel", "nextWay", "(II)I"⟩, 35), (⟨"RoundThrowModel", "passAll", "()V"⟩, 35), (⟨"RoundThrowModel", "pass", "(I)I"⟩, 35)]
theorem lw_r3 : ∀ q ∈ lw_privs_3, lw_okq q := List.forall_mem_cons.mpr ⟨lw_p32, List.forall_mem_cons.mpr ⟨lw_p33, List.forall_mem_cons.mpr ⟨lw_p34, List.forall_mem_cons.mpr ⟨lw_p35, List.forall_mem_cons.mpr ⟨lw_p36, List.forall_mem_cons.mpr ⟨lw_p37, List.forall_mem_cons.mpr ⟨lw_p38, fun _ h => absurd h List.not_mem_nil⟩⟩⟩⟩⟩⟩⟩
def lw_privs : List (MethodName × Nat) := lw_privs_1 ++ (lw_privs_2 ++ (lw_privs_3))
def lw_tbl : List Cond := k2_sels lw_privs ++ tables_1
theorem lw_privs_ok : ∀ q ∈ lw_privs, lw_okq q := by
  show ∀ q ∈ lw_privs_1 ++ (lw_privs_2 ++ (lw_privs_3)), lw_okq q
  exact List.forall_mem_append.mpr ⟨lw_r1, List.forall_mem_append.mpr ⟨lw_r2, lw_r3⟩⟩
/-! ===== BEGIN words of one list among another's, by their places ===== -/
theorem goodIn_r {big : List Cond} (ws : List Cond) (ps : List Nat) (hp : ws = ps.filterMap (fun i => big[i]?)) (h : ws.all goodWord = true) : GoodIn big ws := by
  intro w hw
  have h1 := List.all_eq_true.mp h w hw
  rw [hp] at hw
  obtain ⟨i, -, hi⟩ := List.mem_filterMap.mp hw
  have hm : w ∈ big := by first | exact List.mem_of_getElem? hi | exact List.getElem?_mem hi
  exact ⟨hm, good_of_word h1⟩
theorem goodIn_app {big a b : List Cond} (ha : GoodIn big a) (hb : GoodIn big b) : GoodIn big (a ++ b) := fun w h => (List.mem_append.mp h).elim (ha w) (hb w)
theorem goodIn_ca {big a b : List Cond} {c : Cond} (ha : GoodIn big (c :: a)) (hb : GoodIn big b) : GoodIn big (c :: (a ++ b)) := fun w h => (List.mem_cons.mp h).elim (fun e => ha w (List.mem_cons.mpr (Or.inl e))) (fun h => (List.mem_append.mp h).elim (fun h => ha w (List.mem_cons.mpr (Or.inr h))) (hb w))
theorem goodIn_sub {big ws : List Cond} (hm : ∀ w ∈ ws, w ∈ big) (h : ws.all goodWord = true) : GoodIn big ws := fun w hw => ⟨hm w hw, good_of_word (List.all_eq_true.mp h w hw)⟩
/-! ===== END ===== -/

/-! ===== BEGIN printed: names, fields, word lists, decode rows ===== -/
def RX0 : String := "RoundThrow$Ball"
def TX0 : u_T := fun k => match k with
  | 0 => ("RoundThrow$Ball", "x", "J", false)
  | 1 => ("RoundThrow$Ball", "y", "J", false)
  | 2 => ("RoundThrow$Ball", "stepX", "J", false)
  | 3 => ("RoundThrow$Ball", "stepY", "J", false)
  | 4 => ("RoundThrow$Ball", "besidesX", "J", false)
  | _ => ("RoundThrow$Ball", "besidesY", "J", false)
def tyX0 : Nat → FieldType := fun k => match k with
  | 0 => .long
  | 1 => .long
  | 2 => .long
  | 3 => .long
  | 4 => .long
  | _ => .long
abbrev wsX00 : List Cond := u_ws RX0 TX0 6
theorem nmX0 : ∀ a, a < 6 → ∀ b, b < 6 → a ≠ b → (TX0 a).2.1 ≠ (TX0 b).2.1 := by decide +kernel
theorem tyX0_ok : ∀ k, k < 6 → parseFieldDescriptor (TX0 k).2.2.1 = some (tyX0 k) := by decide +kernel
abbrev cX0_init : ByteArray := prog_2_method_1_code
def yX0_init : MethodName := ⟨RX0, "<init>", "()V"⟩
abbrev cX0_launch : ByteArray := prog_2_method_2_code
def yX0_launch : MethodName := ⟨RX0, "launch", "(IIIILRoundThrow$Platform;)V"⟩
abbrev cX0_throwAnew : ByteArray := prog_2_method_3_code
def yX0_throwAnew : MethodName := ⟨RX0, "throwAnew", "(II)V"⟩
abbrev cX0_xBehind : ByteArray := prog_2_method_4_code
def yX0_xBehind : MethodName := ⟨RX0, "xBehind", "(I)J"⟩
abbrev cX0_yBehind : ByteArray := prog_2_method_5_code
def yX0_yBehind : MethodName := ⟨RX0, "yBehind", "(I)J"⟩
abbrev cX0_gap : ByteArray := prog_2_method_6_code
def yX0_gap : MethodName := ⟨RX0, "gap", "(LRoundThrow$Track;I)J"⟩
abbrev cX0_tickCaught : ByteArray := prog_2_method_7_code
def yX0_tickCaught : MethodName := ⟨RX0, "tickCaught", "(LRoundThrow$Track;I)I"⟩
abbrev cX0_tickNearest : ByteArray := prog_2_method_8_code
def yX0_tickNearest : MethodName := ⟨RX0, "tickNearest", "(LRoundThrow$Track;)I"⟩
abbrev cX0_isRightOf : ByteArray := prog_2_method_9_code
def yX0_isRightOf : MethodName := ⟨RX0, "isRightOf", "(LRoundThrow$Track;I)Z"⟩
abbrev cX0_rollOn : ByteArray := prog_2_method_10_code
def yX0_rollOn : MethodName := ⟨RX0, "rollOn", "(IILRoundThrow$Platform;)V"⟩
abbrev cX0_isBeyond : ByteArray := prog_2_method_11_code
def yX0_isBeyond : MethodName := ⟨RX0, "isBeyond", "(J)Z"⟩
def RX1 : String := "RoundThrow$CatchTable"
def TX1 : u_T := fun k => match k with
  | 0 => ("RoundThrow$CatchTable", "rows", "[I", true)
  | 1 => ("RoundThrow$CatchTable", "safeSpeed", "I", false)
  | 2 => ("RoundThrow$CatchTable", "safeWay", "I", false)
  | _ => ("RoundThrow$CatchTable", "safeNeighbours", "I", false)
def tyX1 : Nat → FieldType := fun k => match k with
  | 0 => .array .int
  | 1 => .int
  | 2 => .int
  | _ => .int
abbrev wsX10 : List Cond := u_ws RX1 TX1 4
theorem nmX1 : ∀ a, a < 4 → ∀ b, b < 4 → a ≠ b → (TX1 a).2.1 ≠ (TX1 b).2.1 := by decide +kernel
theorem tyX1_ok : ∀ k, k < 4 → parseFieldDescriptor (TX1 k).2.2.1 = some (tyX1 k) := by decide +kernel
abbrev cX1_init : ByteArray := prog_3_method_1_code
def yX1_init : MethodName := ⟨RX1, "<init>", "()V"⟩
abbrev cX1_fill : ByteArray := prog_3_method_2_code
def yX1_fill : MethodName := ⟨RX1, "fill", "(LRoundThrow$Ball;LRoundThrow$Track;I)V"⟩
abbrev cX1_howMany : ByteArray := prog_3_method_3_code
def yX1_howMany : MethodName := ⟨RX1, "howMany", "()I"⟩
abbrev cX1_findSafe : ByteArray := prog_3_method_4_code
def yX1_findSafe : MethodName := ⟨RX1, "findSafe", "()V"⟩
abbrev cX1_neighbours : ByteArray := prog_3_method_5_code
def yX1_neighbours : MethodName := ⟨RX1, "neighbours", "(II)I"⟩
abbrev cX1_bit : ByteArray := prog_3_method_6_code
def yX1_bit : MethodName := ⟨RX1, "bit", "(II)I"⟩
def RX2 : String := "RoundThrow$Film"
def TX2 : u_T := fun k => match k with
  | 0 => ("RoundThrow$Film", "xs", "[I", true)
  | 1 => ("RoundThrow$Film", "ys", "[I", true)
  | _ => ("RoundThrow$Film", "points", "I", false)
def tyX2 : Nat → FieldType := fun k => match k with
  | 0 => .array .int
  | 1 => .array .int
  | _ => .int
abbrev wsX20 : List Cond := u_ws RX2 TX2 3
theorem nmX2 : ∀ a, a < 3 → ∀ b, b < 3 → a ≠ b → (TX2 a).2.1 ≠ (TX2 b).2.1 := by decide +kernel
theorem tyX2_ok : ∀ k, k < 3 → parseFieldDescriptor (TX2 k).2.2.1 = some (tyX2 k) := by decide +kernel
abbrev cX2_init : ByteArray := prog_4_method_1_code
def yX2_init : MethodName := ⟨RX2, "<init>", "()V"⟩
abbrev cX2_add : ByteArray := prog_4_method_2_code
def yX2_add : MethodName := ⟨RX2, "add", "(II)Z"⟩
abbrev cX2_tells : ByteArray := prog_4_method_3_code
def yX2_tells : MethodName := ⟨RX2, "tells", "()Z"⟩
abbrev cX2_bend : ByteArray := prog_4_method_4_code
def yX2_bend : MethodName := ⟨RX2, "bend", "(I)I"⟩
abbrev cX2_groundX : ByteArray := prog_4_method_5_code
def yX2_groundX : MethodName := ⟨RX2, "groundX", "(II)J"⟩
abbrev cX2_groundY : ByteArray := prog_4_method_6_code
def yX2_groundY : MethodName := ⟨RX2, "groundY", "(II)J"⟩
abbrev cX2_likeliestPace : ByteArray := prog_4_method_7_code
def yX2_likeliestPace : MethodName := ⟨RX2, "likeliestPace", "()I"⟩
abbrev cX2_farthestPace : ByteArray := prog_4_method_8_code
def yX2_farthestPace : MethodName := ⟨RX2, "farthestPace", "(II)I"⟩
abbrev cX2_become : ByteArray := prog_4_method_9_code
def yX2_become : MethodName := ⟨RX2, "become", "(LRoundThrow$Film;)V"⟩
def RX3 : String := "RoundThrow$Learner"
def TX3 : u_T := fun k => match k with
  | 0 => ("RoundThrow$Learner", "way", "I", false)
  | _ => ("RoundThrow$Learner", "tries", "I", false)
def tyX3 : Nat → FieldType := fun k => match k with
  | 0 => .int
  | _ => .int
abbrev wsX30 : List Cond := u_ws RX3 TX3 2
theorem nmX3 : ∀ a, a < 2 → ∀ b, b < 2 → a ≠ b → (TX3 a).2.1 ≠ (TX3 b).2.1 := by decide +kernel
theorem tyX3_ok : ∀ k, k < 2 → parseFieldDescriptor (TX3 k).2.2.1 = some (tyX3 k) := by decide +kernel
abbrev cX3_init : ByteArray := prog_5_method_1_code
def yX3_init : MethodName := ⟨RX3, "<init>", "()V"⟩
abbrev cX3_aim : ByteArray := prog_5_method_2_code
def yX3_aim : MethodName := ⟨RX3, "aim", "(III)V"⟩
abbrev cX3_product : ByteArray := prog_5_method_3_code
def yX3_product : MethodName := ⟨RX3, "product", "(IIII)J"⟩
abbrev cX3_practise : ByteArray := prog_5_method_4_code
def yX3_practise : MethodName := ⟨RX3, "practise", "(LRoundThrow$Ball;ILRoundThrow$Track;I)Z"⟩
def RX4 : String := "RoundThrow$Pad"
def TX4 : u_T := fun k => match k with
  | 0 => ("RoundThrow$Pad", "signs", "[I", true)
  | _ => ("RoundThrow$Pad", "length", "I", false)
def tyX4 : Nat → FieldType := fun k => match k with
  | 0 => .array .int
  | _ => .int
abbrev wsX40 : List Cond := u_ws RX4 TX4 2
theorem nmX4 : ∀ a, a < 2 → ∀ b, b < 2 → a ≠ b → (TX4 a).2.1 ≠ (TX4 b).2.1 := by decide +kernel
theorem tyX4_ok : ∀ k, k < 2 → parseFieldDescriptor (TX4 k).2.2.1 = some (tyX4 k) := by decide +kernel
abbrev cX4_init : ByteArray := prog_6_method_1_code
def yX4_init : MethodName := ⟨RX4, "<init>", "()V"⟩
abbrev cX4_add : ByteArray := prog_6_method_2_code
def yX4_add : MethodName := ⟨RX4, "add", "(I)Z"⟩
abbrev cX4_faultPlace : ByteArray := prog_6_method_3_code
def yX4_faultPlace : MethodName := ⟨RX4, "faultPlace", "()I"⟩
abbrev cX4_behind : ByteArray := prog_6_method_4_code
def yX4_behind : MethodName := ⟨RX4, "behind", "(II)I"⟩
abbrev cX4_isDigit : ByteArray := prog_6_method_5_code
def yX4_isDigit : MethodName := ⟨RX4, "isDigit", "(I)Z"⟩
def RX5 : String := "RoundThrow$Platform"
def TX5 : u_T := fun k => match k with
  | 0 => ("RoundThrow$Platform", "angles", "[I", true)
  | _ => ("RoundThrow$Platform", "paces", "[I", true)
def tyX5 : Nat → FieldType := fun k => match k with
  | 0 => .array .int
  | _ => .array .int
abbrev wsX50 : List Cond := u_ws RX5 TX5 2
theorem nmX5 : ∀ a, a < 2 → ∀ b, b < 2 → a ≠ b → (TX5 a).2.1 ≠ (TX5 b).2.1 := by decide +kernel
theorem tyX5_ok : ∀ k, k < 2 → parseFieldDescriptor (TX5 k).2.2.1 = some (tyX5 k) := by decide +kernel
abbrev cX5_init : ByteArray := prog_7_method_1_code
def yX5_init : MethodName := ⟨RX5, "<init>", "()V"⟩
abbrev cX5_run : ByteArray := prog_7_method_2_code
def yX5_run : MethodName := ⟨RX5, "run", "(LRoundThrow$Setup;I)V"⟩
abbrev cX5_nearerToZero : ByteArray := prog_7_method_3_code
def yX5_nearerToZero : MethodName := ⟨RX5, "nearerToZero", "(II)I"⟩
abbrev cX5_wayOf : ByteArray := prog_7_method_4_code
def yX5_wayOf : MethodName := ⟨RX5, "wayOf", "(I)I"⟩
abbrev cX5_wayBehind : ByteArray := prog_7_method_5_code
def yX5_wayBehind : MethodName := ⟨RX5, "wayBehind", "(I)I"⟩
abbrev cX5_wayBack : ByteArray := prog_7_method_6_code
def yX5_wayBack : MethodName := ⟨RX5, "wayBack", "(I)I"⟩
def RX6 : String := "RoundThrow$Pushes"
def TX6 : u_T := fun k => match k with
  | 0 => ("RoundThrow$Pushes", "ticks", "[I", true)
  | 1 => ("RoundThrow$Pushes", "sizes", "[I", true)
  | 2 => ("RoundThrow$Pushes", "count", "I", false)
  | _ => ("RoundThrow$Pushes", "parts", "I", false)
def tyX6 : Nat → FieldType := fun k => match k with
  | 0 => .array .int
  | 1 => .array .int
  | 2 => .int
  | _ => .int
abbrev wsX60 : List Cond := u_ws RX6 TX6 4
theorem nmX6 : ∀ a, a < 4 → ∀ b, b < 4 → a ≠ b → (TX6 a).2.1 ≠ (TX6 b).2.1 := by decide +kernel
theorem tyX6_ok : ∀ k, k < 4 → parseFieldDescriptor (TX6 k).2.2.1 = some (tyX6 k) := by decide +kernel
abbrev cX6_init : ByteArray := prog_8_method_1_code
def yX6_init : MethodName := ⟨RX6, "<init>", "()V"⟩
abbrev cX6_read : ByteArray := prog_8_method_2_code
def yX6_read : MethodName := ⟨RX6, "read", "(LRoundThrow$Pad;)V"⟩
abbrev cX6_numberBehind : ByteArray := prog_8_method_3_code
def yX6_numberBehind : MethodName := ⟨RX6, "numberBehind", "(LRoundThrow$Pad;I)I"⟩
abbrev cX6_paceAt : ByteArray := prog_8_method_4_code
def yX6_paceAt : MethodName := ⟨RX6, "paceAt", "(II)I"⟩
abbrev cX6_become : ByteArray := prog_8_method_5_code
def yX6_become : MethodName := ⟨RX6, "become", "(LRoundThrow$Pushes;)V"⟩
def RX7 : String := "RoundThrow$Setup"
def TX7 : u_T := fun k => match k with
  | 0 => ("RoundThrow$Setup", "settings", "[I", true)
  | 1 => ("RoundThrow$Setup", "pushes", "LRoundThrow$Pushes;", true)
  | 2 => ("RoundThrow$Setup", "film", "LRoundThrow$Film;", true)
  | 3 => ("RoundThrow$Setup", "oneX", "[I", true)
  | 4 => ("RoundThrow$Setup", "oneY", "[I", true)
  | _ => ("RoundThrow$Setup", "ones", "I", false)
def tyX7 : Nat → FieldType := fun k => match k with
  | 0 => .array .int
  | 1 => .object "RoundThrow$Pushes"
  | 2 => .object "RoundThrow$Film"
  | 3 => .array .int
  | 4 => .array .int
  | _ => .int
abbrev wsX70 : List Cond := u_ws RX7 TX7 6
theorem nmX7 : ∀ a, a < 6 → ∀ b, b < 6 → a ≠ b → (TX7 a).2.1 ≠ (TX7 b).2.1 := by decide +kernel
theorem tyX7_ok : ∀ k, k < 6 → parseFieldDescriptor (TX7 k).2.2.1 = some (tyX7 k) := by decide +kernel
abbrev cX7_init : ByteArray := prog_9_method_1_code
def yX7_init : MethodName := ⟨RX7, "<init>", "()V"⟩
abbrev cX7_takes : ByteArray := prog_9_method_2_code
def yX7_takes : MethodName := ⟨RX7, "takes", "(II)Z"⟩
abbrev cX7_pace : ByteArray := prog_9_method_3_code
def yX7_pace : MethodName := ⟨RX7, "pace", "()I"⟩
abbrev cX7_slows : ByteArray := prog_9_method_4_code
def yX7_slows : MethodName := ⟨RX7, "slows", "()I"⟩
abbrev cX7_reach : ByteArray := prog_9_method_5_code
def yX7_reach : MethodName := ⟨RX7, "reach", "()I"⟩
abbrev cX7_rub : ByteArray := prog_9_method_6_code
def yX7_rub : MethodName := ⟨RX7, "rub", "()I"⟩
abbrev cX7_rim : ByteArray := prog_9_method_7_code
def yX7_rim : MethodName := ⟨RX7, "rim", "()I"⟩
abbrev cX7_hasOne : ByteArray := prog_9_method_8_code
def yX7_hasOne : MethodName := ⟨RX7, "hasOne", "(I)Z"⟩
abbrev cX7_seat : ByteArray := prog_9_method_9_code
def yX7_seat : MethodName := ⟨RX7, "seat", "(II)I"⟩
abbrev cX7_become : ByteArray := prog_9_method_10_code
def yX7_become : MethodName := ⟨RX7, "become", "(LRoundThrow$Setup;)V"⟩
def RX8 : String := "RoundThrow$Track"
def TX8 : u_T := fun k => match k with
  | 0 => ("RoundThrow$Track", "xs", "[J", true)
  | _ => ("RoundThrow$Track", "ys", "[J", true)
def tyX8 : Nat → FieldType := fun k => match k with
  | 0 => .array .long
  | _ => .array .long
abbrev wsX80 : List Cond := u_ws RX8 TX8 2
theorem nmX8 : ∀ a, a < 2 → ∀ b, b < 2 → a ≠ b → (TX8 a).2.1 ≠ (TX8 b).2.1 := by decide +kernel
theorem tyX8_ok : ∀ k, k < 2 → parseFieldDescriptor (TX8 k).2.2.1 = some (tyX8 k) := by decide +kernel
abbrev cX8_init : ByteArray := prog_10_method_1_code
def yX8_init : MethodName := ⟨RX8, "<init>", "()V"⟩
abbrev cX8_followSeat : ByteArray := prog_10_method_2_code
def yX8_followSeat : MethodName := ⟨RX8, "followSeat", "(IILRoundThrow$Platform;)V"⟩
abbrev cX8_followSeen : ByteArray := prog_10_method_3_code
def yX8_followSeen : MethodName := ⟨RX8, "followSeen", "(LRoundThrow$Ball;LRoundThrow$Platform;)V"⟩
abbrev cX8_crossesItself : ByteArray := prog_10_method_4_code
def yX8_crossesItself : MethodName := ⟨RX8, "crossesItself", "()Z"⟩
abbrev cX8_linesMeet : ByteArray := prog_10_method_5_code
def yX8_linesMeet : MethodName := ⟨RX8, "linesMeet", "(II)Z"⟩
abbrev cX8_spansMeet : ByteArray := prog_10_method_6_code
def yX8_spansMeet : MethodName := ⟨RX8, "spansMeet", "([JII)Z"⟩
abbrev cX8_isAcross : ByteArray := prog_10_method_7_code
def yX8_isAcross : MethodName := ⟨RX8, "isAcross", "(II)Z"⟩
abbrev cX8_side : ByteArray := prog_10_method_8_code
def yX8_side : MethodName := ⟨RX8, "side", "(II)J"⟩
def RX9 : String := "RoundThrow$Ways"
def TX9 : u_T := fun k => match k with
  | _ => ("", "", "", false)
def tyX9 : Nat → FieldType := fun k => match k with
  | _ => .int
abbrev wsX90 : List Cond := u_ws RX9 TX9 0
theorem nmX9 : ∀ a, a < 0 → ∀ b, b < 0 → a ≠ b → (TX9 a).2.1 ≠ (TX9 b).2.1 := by decide +kernel
theorem tyX9_ok : ∀ k, k < 0 → parseFieldDescriptor (TX9 k).2.2.1 = some (tyX9 k) := by decide +kernel
abbrev cX9_sine : ByteArray := prog_11_method_2_code
def yX9_sine : MethodName := ⟨RX9, "sine", "(I)J"⟩
abbrev cX9_cosine : ByteArray := prog_11_method_3_code
def yX9_cosine : MethodName := ⟨RX9, "cosine", "(I)J"⟩
abbrev cX9_turnX : ByteArray := prog_11_method_4_code
def yX9_turnX : MethodName := ⟨RX9, "turnX", "(JJI)J"⟩
abbrev cX9_turnY : ByteArray := prog_11_method_5_code
def yX9_turnY : MethodName := ⟨RX9, "turnY", "(JJI)J"⟩
def RX10 : String := "RoundThrow"
def TX10 : u_T := fun k => match k with
  | 0 => ("RoundThrow", "pad", "LRoundThrow$Pad;", true)
  | 1 => ("RoundThrow", "setup", "LRoundThrow$Setup;", true)
  | 2 => ("RoundThrow", "images", "[LRoundThrow$Setup;", true)
  | 3 => ("RoundThrow", "platform", "LRoundThrow$Platform;", true)
  | 4 => ("RoundThrow", "thrown", "LRoundThrow$Ball;", true)
  | 5 => ("RoundThrow", "track", "LRoundThrow$Track;", true)
  | 6 => ("RoundThrow", "table", "LRoundThrow$CatchTable;", true)
  | _ => ("RoundThrow", "learner", "LRoundThrow$Learner;", true)
def tyX10 : Nat → FieldType := fun k => match k with
  | 0 => .object "RoundThrow$Pad"
  | 1 => .object "RoundThrow$Setup"
  | 2 => .array (.object "RoundThrow$Setup")
  | 3 => .object "RoundThrow$Platform"
  | 4 => .object "RoundThrow$Ball"
  | 5 => .object "RoundThrow$Track"
  | 6 => .object "RoundThrow$CatchTable"
  | _ => .object "RoundThrow$Learner"
abbrev wsX100 : List Cond := u_ws RX10 TX10 8
theorem nmX10 : ∀ a, a < 8 → ∀ b, b < 8 → a ≠ b → (TX10 a).2.1 ≠ (TX10 b).2.1 := by decide +kernel
theorem tyX10_ok : ∀ k, k < 8 → parseFieldDescriptor (TX10 k).2.2.1 = some (tyX10 k) := by decide +kernel
abbrev cX10_init : ByteArray := prog_1_method_1_code
def yX10_init : MethodName := ⟨RX10, "<init>", "()V"⟩
abbrev cX10_set : ByteArray := prog_1_method_2_code
def yX10_set : MethodName := ⟨RX10, "set", "(II)I"⟩
abbrev cX10_say : ByteArray := prog_1_method_3_code
def yX10_say : MethodName := ⟨RX10, "say", "(I)I"⟩
abbrev cX10_wipe : ByteArray := prog_1_method_4_code
def yX10_wipe : MethodName := ⟨RX10, "wipe", "()I"⟩
abbrev cX10_fault : ByteArray := prog_1_method_5_code
def yX10_fault : MethodName := ⟨RX10, "fault", "()I"⟩
abbrev cX10_push : ByteArray := prog_1_method_6_code
def yX10_push : MethodName := ⟨RX10, "push", "()I"⟩
abbrev cX10_turn : ByteArray := prog_1_method_7_code
def yX10_turn : MethodName := ⟨RX10, "turn", "(II)I"⟩
abbrev cX10_sit : ByteArray := prog_1_method_8_code
def yX10_sit : MethodName := ⟨RX10, "sit", "(II)I"⟩
abbrev cX10_point : ByteArray := prog_1_method_9_code
def yX10_point : MethodName := ⟨RX10, "point", "(III)I"⟩
abbrev cX10_ball : ByteArray := prog_1_method_10_code
def yX10_ball : MethodName := ⟨RX10, "ball", "(IIIII)I"⟩
abbrev cX10_caught : ByteArray := prog_1_method_11_code
def yX10_caught : MethodName := ⟨RX10, "caught", "(IIII)I"⟩
abbrev cX10_all : ByteArray := prog_1_method_12_code
def yX10_all : MethodName := ⟨RX10, "all", "(III)I"⟩
abbrev cX10_loops : ByteArray := prog_1_method_13_code
def yX10_loops : MethodName := ⟨RX10, "loops", "(III)I"⟩
abbrev cX10_rolled : ByteArray := prog_1_method_14_code
def yX10_rolled : MethodName := ⟨RX10, "rolled", "(IIIIII)I"⟩
abbrev cX10_off : ByteArray := prog_1_method_15_code
def yX10_off : MethodName := ⟨RX10, "off", "(IIII)I"⟩
abbrev cX10_leans : ByteArray := prog_1_method_16_code
def yX10_leans : MethodName := ⟨RX10, "leans", "(I)I"⟩
abbrev cX10_stays : ByteArray := prog_1_method_17_code
def yX10_stays : MethodName := ⟨RX10, "stays", "(I)I"⟩
abbrev cX10_hut : ByteArray := prog_1_method_18_code
def yX10_hut : MethodName := ⟨RX10, "hut", "(III)I"⟩
abbrev cX10_film : ByteArray := prog_1_method_19_code
def yX10_film : MethodName := ⟨RX10, "film", "(II)I"⟩
abbrev cX10_clear : ByteArray := prog_1_method_20_code
def yX10_clear : MethodName := ⟨RX10, "clear", "()I"⟩
abbrev cX10_bent : ByteArray := prog_1_method_21_code
def yX10_bent : MethodName := ⟨RX10, "bent", "(I)I"⟩
abbrev cX10_turned : ByteArray := prog_1_method_22_code
def yX10_turned : MethodName := ⟨RX10, "turned", "()I"⟩
abbrev cX10_span : ByteArray := prog_1_method_23_code
def yX10_span : MethodName := ⟨RX10, "span", "(II)I"⟩
abbrev cX10_learns : ByteArray := prog_1_method_24_code
def yX10_learns : MethodName := ⟨RX10, "learns", "(IIII)I"⟩
abbrev cX10_along : ByteArray := prog_1_method_25_code
def yX10_along : MethodName := ⟨RX10, "along", "(IIII)I"⟩
abbrev cX10_image : ByteArray := prog_1_method_26_code
def yX10_image : MethodName := ⟨RX10, "image", "(I)I"⟩
abbrev cX10_restore : ByteArray := prog_1_method_27_code
def yX10_restore : MethodName := ⟨RX10, "restore", "(I)I"⟩
abbrev cX10_told : ByteArray := prog_1_method_28_code
def yX10_told : MethodName := ⟨RX10, "told", "(I)I"⟩
abbrev cX10_learnsAtFirst : ByteArray := prog_1_method_29_code
def yX10_learnsAtFirst : MethodName := ⟨RX10, "learnsAtFirst", "(III)Z"⟩
abbrev cX10_tries : ByteArray := prog_1_method_30_code
def yX10_tries : MethodName := ⟨RX10, "tries", "(IIII)Z"⟩
abbrev cX10_areTwo : ByteArray := prog_1_method_31_code
def yX10_areTwo : MethodName := ⟨RX10, "areTwo", "(II)Z"⟩
abbrev cX10_within : ByteArray := prog_1_method_32_code
def yX10_within : MethodName := ⟨RX10, "within", "(III)Z"⟩
abbrev cX10_isWay : ByteArray := prog_1_method_33_code
def yX10_isWay : MethodName := ⟨RX10, "isWay", "(I)Z"⟩
abbrev cX10_isTick : ByteArray := prog_1_method_34_code
def yX10_isTick : MethodName := ⟨RX10, "isTick", "(I)Z"⟩
abbrev cX10_isThrow : ByteArray := prog_1_method_35_code
def yX10_isThrow : MethodName := ⟨RX10, "isThrow", "(II)Z"⟩
abbrev cX10_isPlace : ByteArray := prog_1_method_36_code
def yX10_isPlace : MethodName := ⟨RX10, "isPlace", "(II)Z"⟩
abbrev cX10_isImage : ByteArray := prog_1_method_37_code
def yX10_isImage : MethodName := ⟨RX10, "isImage", "(I)Z"⟩
abbrev cX10_lean : ByteArray := prog_1_method_38_code
def yX10_lean : MethodName := ⟨RX10, "lean", "(II)I"⟩
def RX11 : String := "RoundThrowModel"
def TX11 : u_T := fun k => match k with
  | 0 => ("RoundThrowModel", "sines", "[I", true)
  | 1 => ("RoundThrowModel", "turnedX", "I", false)
  | 2 => ("RoundThrowModel", "turnedY", "I", false)
  | 3 => ("RoundThrowModel", "sets", "[I", true)
  | 4 => ("RoundThrowModel", "angles", "[I", true)
  | 5 => ("RoundThrowModel", "paces", "[I", true)
  | 6 => ("RoundThrowModel", "signs", "[I", true)
  | 7 => ("RoundThrowModel", "signMany", "I", false)
  | 8 => ("RoundThrowModel", "pushAt", "[I", true)
  | 9 => ("RoundThrowModel", "pushBy", "[I", true)
  | 10 => ("RoundThrowModel", "pushMany", "I", false)
  | 11 => ("RoundThrowModel", "partMany", "I", false)
  | 12 => ("RoundThrowModel", "oneX", "[I", true)
  | 13 => ("RoundThrowModel", "oneY", "[I", true)
  | 14 => ("RoundThrowModel", "ones", "I", false)
  | 15 => ("RoundThrowModel", "fromX", "I", false)
  | 16 => ("RoundThrowModel", "fromY", "I", false)
  | 17 => ("RoundThrowModel", "goX", "I", false)
  | 18 => ("RoundThrowModel", "goY", "I", false)
  | 19 => ("RoundThrowModel", "isCaught", "[Z", true)
  | 20 => ("RoundThrowModel", "seenX", "[I", true)
  | 21 => ("RoundThrowModel", "seenY", "[I", true)
  | 22 => ("RoundThrowModel", "rollX", "I", false)
  | 23 => ("RoundThrowModel", "rollY", "I", false)
  | 24 => ("RoundThrowModel", "rollTick", "I", false)
  | 25 => ("RoundThrowModel", "filmX", "[I", true)
  | 26 => ("RoundThrowModel", "filmY", "[I", true)
  | 27 => ("RoundThrowModel", "filmMany", "I", false)
  | 28 => ("RoundThrowModel", "groundX", "[I", true)
  | 29 => ("RoundThrowModel", "groundY", "[I", true)
  | 30 => ("RoundThrowModel", "lastWay", "I", false)
  | 31 => ("RoundThrowModel", "kept", "[I", true)
  | 32 => ("RoundThrowModel", "isKept", "[Z", true)
  | 33 => ("RoundThrowModel", "keptAt", "I", false)
  | _ => ("RoundThrowModel", "isWriting", "Z", false)
def tyX11 : Nat → FieldType := fun k => match k with
  | 0 => .array .int
  | 1 => .int
  | 2 => .int
  | 3 => .array .int
  | 4 => .array .int
  | 5 => .array .int
  | 6 => .array .int
  | 7 => .int
  | 8 => .array .int
  | 9 => .array .int
  | 10 => .int
  | 11 => .int
  | 12 => .array .int
  | 13 => .array .int
  | 14 => .int
  | 15 => .int
  | 16 => .int
  | 17 => .int
  | 18 => .int
  | 19 => .array .boolean
  | 20 => .array .int
  | 21 => .array .int
  | 22 => .int
  | 23 => .int
  | 24 => .int
  | 25 => .array .int
  | 26 => .array .int
  | 27 => .int
  | 28 => .array .int
  | 29 => .array .int
  | 30 => .int
  | 31 => .array .int
  | 32 => .array .boolean
  | 33 => .int
  | _ => .boolean
abbrev wsX110 : List Cond := u_ws RX11 TX11 35
theorem nmX11 : ∀ a, a < 35 → ∀ b, b < 35 → a ≠ b → (TX11 a).2.1 ≠ (TX11 b).2.1 := by decide +kernel
theorem tyX11_ok : ∀ k, k < 35 → parseFieldDescriptor (TX11 k).2.2.1 = some (tyX11 k) := by decide +kernel
abbrev cX11_init : ByteArray := prog_13_method_1_code
def yX11_init : MethodName := ⟨RX11, "<init>", "()V"⟩
abbrev cX11_in : ByteArray := prog_13_method_3_code
def yX11_in : MethodName := ⟨RX11, "in", "(JJJ)Z"⟩
abbrev cX11_size : ByteArray := prog_13_method_4_code
def yX11_size : MethodName := ⟨RX11, "size", "(I)I"⟩
abbrev cX11_isWay : ByteArray := prog_13_method_5_code
def yX11_isWay : MethodName := ⟨RX11, "isWay", "(I)Z"⟩
abbrev cX11_isTick : ByteArray := prog_13_method_6_code
def yX11_isTick : MethodName := ⟨RX11, "isTick", "(I)Z"⟩
abbrev cX11_isEnd : ByteArray := prog_13_method_7_code
def yX11_isEnd : MethodName := ⟨RX11, "isEnd", "(I)Z"⟩
abbrev cX11_turnPoint : ByteArray := prog_13_method_8_code
def yX11_turnPoint : MethodName := ⟨RX11, "turnPoint", "(III)V"⟩
abbrev cX11_set : ByteArray := prog_13_method_9_code
def yX11_set : MethodName := ⟨RX11, "set", "(II)I"⟩
abbrev cX11_setNow : ByteArray := prog_13_method_10_code
def yX11_setNow : MethodName := ⟨RX11, "setNow", "(I)I"⟩
abbrev cX11_say : ByteArray := prog_13_method_11_code
def yX11_say : MethodName := ⟨RX11, "say", "(I)I"⟩
abbrev cX11_wipe : ByteArray := prog_13_method_12_code
def yX11_wipe : MethodName := ⟨RX11, "wipe", "()I"⟩
abbrev cX11_isDigit : ByteArray := prog_13_method_13_code
def yX11_isDigit : MethodName := ⟨RX11, "isDigit", "(I)Z"⟩
abbrev cX11_fault : ByteArray := prog_13_method_14_code
def yX11_fault : MethodName := ⟨RX11, "fault", "()I"⟩
abbrev cX11_push : ByteArray := prog_13_method_15_code
def yX11_push : MethodName := ⟨RX11, "push", "()I"⟩
abbrev cX11_held : ByteArray := prog_13_method_16_code
def yX11_held : MethodName := ⟨RX11, "held", "(I)I"⟩
abbrev cX11_layTurns : ByteArray := prog_13_method_17_code
def yX11_layTurns : MethodName := ⟨RX11, "layTurns", "()V"⟩
abbrev cX11_wayAt : ByteArray := prog_13_method_18_code
def yX11_wayAt : MethodName := ⟨RX11, "wayAt", "(I)I"⟩
abbrev cX11_turn : ByteArray := prog_13_method_19_code
def yX11_turn : MethodName := ⟨RX11, "turn", "(II)I"⟩
abbrev cX11_sit : ByteArray := prog_13_method_20_code
def yX11_sit : MethodName := ⟨RX11, "sit", "(II)I"⟩
abbrev cX11_isOne : ByteArray := prog_13_method_21_code
def yX11_isOne : MethodName := ⟨RX11, "isOne", "(I)Z"⟩
abbrev cX11_layOne : ByteArray := prog_13_method_22_code
def yX11_layOne : MethodName := ⟨RX11, "layOne", "(II)V"⟩
abbrev cX11_point : ByteArray := prog_13_method_23_code
def yX11_point : MethodName := ⟨RX11, "point", "(III)I"⟩
abbrev cX11_layThrow : ByteArray := prog_13_method_24_code
def yX11_layThrow : MethodName := ⟨RX11, "layThrow", "(III)V"⟩
abbrev cX11_ballX : ByteArray := prog_13_method_25_code
def yX11_ballX : MethodName := ⟨RX11, "ballX", "(I)I"⟩
abbrev cX11_ballY : ByteArray := prog_13_method_26_code
def yX11_ballY : MethodName := ⟨RX11, "ballY", "(I)I"⟩
abbrev cX11_seeBall : ByteArray := prog_13_method_27_code
def yX11_seeBall : MethodName := ⟨RX11, "seeBall", "(I)V"⟩
abbrev cX11_isThrow : ByteArray := prog_13_method_28_code
def yX11_isThrow : MethodName := ⟨RX11, "isThrow", "(II)Z"⟩
abbrev cX11_ball : ByteArray := prog_13_method_29_code
def yX11_ball : MethodName := ⟨RX11, "ball", "(IIIII)I"⟩
abbrev cX11_farFrom : ByteArray := prog_13_method_30_code
def yX11_farFrom : MethodName := ⟨RX11, "farFrom", "(II)I"⟩
abbrev cX11_caughtOf : ByteArray := prog_13_method_31_code
def yX11_caughtOf : MethodName := ⟨RX11, "caughtOf", "(IIII)I"⟩
abbrev cX11_caught : ByteArray := prog_13_method_32_code
def yX11_caught : MethodName := ⟨RX11, "caught", "(IIII)I"⟩
abbrev cX11_neighbours : ByteArray := prog_13_method_33_code
def yX11_neighbours : MethodName := ⟨RX11, "neighbours", "(II)I"⟩
abbrev cX11_all : ByteArray := prog_13_method_34_code
def yX11_all : MethodName := ⟨RX11, "all", "(III)I"⟩
abbrev cX11_side : ByteArray := prog_13_method_35_code
def yX11_side : MethodName := ⟨RX11, "side", "(III)I"⟩
abbrev cX11_isBetween : ByteArray := prog_13_method_36_code
def yX11_isBetween : MethodName := ⟨RX11, "isBetween", "(III)Z"⟩
abbrev cX11_lies : ByteArray := prog_13_method_37_code
def yX11_lies : MethodName := ⟨RX11, "lies", "(III)Z"⟩
abbrev cX11_meet : ByteArray := prog_13_method_38_code
def yX11_meet : MethodName := ⟨RX11, "meet", "(II)Z"⟩
abbrev cX11_loops : ByteArray := prog_13_method_39_code
def yX11_loops : MethodName := ⟨RX11, "loops", "(III)I"⟩
abbrev cX11_beginRoll : ByteArray := prog_13_method_40_code
def yX11_beginRoll : MethodName := ⟨RX11, "beginRoll", "(IIII)V"⟩
abbrev cX11_roll : ByteArray := prog_13_method_41_code
def yX11_roll : MethodName := ⟨RX11, "roll", "()V"⟩
abbrev cX11_isPlace : ByteArray := prog_13_method_42_code
def yX11_isPlace : MethodName := ⟨RX11, "isPlace", "(III)Z"⟩
abbrev cX11_rolled : ByteArray := prog_13_method_43_code
def yX11_rolled : MethodName := ⟨RX11, "rolled", "(IIIIII)I"⟩
abbrev cX11_isOff : ByteArray := prog_13_method_44_code
def yX11_isOff : MethodName := ⟨RX11, "isOff", "()Z"⟩
abbrev cX11_off : ByteArray := prog_13_method_45_code
def yX11_off : MethodName := ⟨RX11, "off", "(IIII)I"⟩
abbrev cX11_leansOf : ByteArray := prog_13_method_46_code
def yX11_leansOf : MethodName := ⟨RX11, "leansOf", "(I)I"⟩
abbrev cX11_leans : ByteArray := prog_13_method_47_code
def yX11_leans : MethodName := ⟨RX11, "leans", "(I)I"⟩
abbrev cX11_stays : ByteArray := prog_13_method_48_code
def yX11_stays : MethodName := ⟨RX11, "stays", "(I)I"⟩
abbrev cX11_hut : ByteArray := prog_13_method_49_code
def yX11_hut : MethodName := ⟨RX11, "hut", "(III)I"⟩
abbrev cX11_film : ByteArray := prog_13_method_50_code
def yX11_film : MethodName := ⟨RX11, "film", "(II)I"⟩
abbrev cX11_clear : ByteArray := prog_13_method_51_code
def yX11_clear : MethodName := ⟨RX11, "clear", "()I"⟩
abbrev cX11_bentOf : ByteArray := prog_13_method_52_code
def yX11_bentOf : MethodName := ⟨RX11, "bentOf", "(I)I"⟩
abbrev cX11_bent : ByteArray := prog_13_method_53_code
def yX11_bent : MethodName := ⟨RX11, "bent", "(I)I"⟩
abbrev cX11_turnedBy : ByteArray := prog_13_method_54_code
def yX11_turnedBy : MethodName := ⟨RX11, "turnedBy", "()I"⟩
abbrev cX11_turned : ByteArray := prog_13_method_55_code
def yX11_turned : MethodName := ⟨RX11, "turned", "()I"⟩
abbrev cX11_span : ByteArray := prog_13_method_56_code
def yX11_span : MethodName := ⟨RX11, "span", "(II)I"⟩
abbrev cX11_firstWay : ByteArray := prog_13_method_57_code
def yX11_firstWay : MethodName := ⟨RX11, "firstWay", "(III)I"⟩
abbrev cX11_nextWay : ByteArray := prog_13_method_58_code
def yX11_nextWay : MethodName := ⟨RX11, "nextWay", "(II)I"⟩
abbrev cX11_triesFrom : ByteArray := prog_13_method_59_code
def yX11_triesFrom : MethodName := ⟨RX11, "triesFrom", "(IIII)I"⟩
abbrev cX11_areTwo : ByteArray := prog_13_method_60_code
def yX11_areTwo : MethodName := ⟨RX11, "areTwo", "(II)Z"⟩
abbrev cX11_learns : ByteArray := prog_13_method_61_code
def yX11_learns : MethodName := ⟨RX11, "learns", "(IIII)I"⟩
abbrev cX11_along : ByteArray := prog_13_method_62_code
def yX11_along : MethodName := ⟨RX11, "along", "(IIII)I"⟩
abbrev cX11_pass : ByteArray := prog_13_method_63_code
def yX11_pass : MethodName := ⟨RX11, "pass", "(I)I"⟩
abbrev cX11_passAll : ByteArray := prog_13_method_64_code
def yX11_passAll : MethodName := ⟨RX11, "passAll", "()V"⟩
abbrev cX11_image : ByteArray := prog_13_method_65_code
def yX11_image : MethodName := ⟨RX11, "image", "(I)I"⟩
abbrev cX11_restore : ByteArray := prog_13_method_66_code
def yX11_restore : MethodName := ⟨RX11, "restore", "(I)I"⟩
abbrev cX11_told : ByteArray := prog_13_method_67_code
def yX11_told : MethodName := ⟨RX11, "told", "(I)I"⟩
def RJx8e188 : String := "java/lang/Cloneable"
def TJx8e188 : u_T := fun k => match k with
  | _ => ("", "", "", false)
def tyJx8e188 : Nat → FieldType := fun k => match k with
  | _ => .int
abbrev wsJx8e1880 : List Cond := u_ws RJx8e188 TJx8e188 0
theorem nmJx8e188 : ∀ a, a < 0 → ∀ b, b < 0 → a ≠ b → (TJx8e188 a).2.1 ≠ (TJx8e188 b).2.1 := by decide +kernel
theorem tyJx8e188_ok : ∀ k, k < 0 → parseFieldDescriptor (TJx8e188 k).2.2.1 = some (tyJx8e188 k) := by decide +kernel
def RJ6 : String := "java/lang/Integer"
def TJ6 : u_T := fun k => match k with
  | _ => ("", "", "", false)
def tyJ6 : Nat → FieldType := fun k => match k with
  | _ => .int
abbrev wsJ60 : List Cond := u_ws RJ6 TJ6 0
theorem nmJ6 : ∀ a, a < 0 → ∀ b, b < 0 → a ≠ b → (TJ6 a).2.1 ≠ (TJ6 b).2.1 := by decide +kernel
theorem tyJ6_ok : ∀ k, k < 0 → parseFieldDescriptor (TJ6 k).2.2.1 = some (tyJ6 k) := by decide +kernel
abbrev cJ6_bitCount_0f7a4 : ByteArray := prog_15_method_49_code
def yJ6_bitCount_0f7a4 : MethodName := ⟨RJ6, "bitCount", "(I)I"⟩
def RJ13 : String := "java/lang/Long"
def TJ13 : u_T := fun k => match k with
  | _ => ("", "", "", false)
def tyJ13 : Nat → FieldType := fun k => match k with
  | _ => .int
abbrev wsJ130 : List Cond := u_ws RJ13 TJ13 0
theorem nmJ13 : ∀ a, a < 0 → ∀ b, b < 0 → a ≠ b → (TJ13 a).2.1 ≠ (TJ13 b).2.1 := by decide +kernel
theorem tyJ13_ok : ∀ k, k < 0 → parseFieldDescriptor (TJ13 k).2.2.1 = some (tyJ13 k) := by decide +kernel
abbrev cJ13_signum_95d88 : ByteArray := prog_16_method_57_code
def yJ13_signum_95d88 : MethodName := ⟨RJ13, "signum", "(J)I"⟩
def RJ9 : String := "java/lang/Math"
def TJ9 : u_T := fun k => match k with
  | _ => ("", "", "", false)
def tyJ9 : Nat → FieldType := fun k => match k with
  | _ => .int
abbrev wsJ90 : List Cond := u_ws RJ9 TJ9 0
theorem nmJ9 : ∀ a, a < 0 → ∀ b, b < 0 → a ≠ b → (TJ9 a).2.1 ≠ (TJ9 b).2.1 := by decide +kernel
theorem tyJ9_ok : ∀ k, k < 0 → parseFieldDescriptor (TJ9 k).2.2.1 = some (tyJ9 k) := by decide +kernel
abbrev cJ9_floorMod_7cf53 : ByteArray := prog_17_method_50_code
def yJ9_floorMod_7cf53 : MethodName := ⟨RJ9, "floorMod", "(II)I"⟩
abbrev cJ9_abs_067f4 : ByteArray := prog_17_method_61_code
def yJ9_abs_067f4 : MethodName := ⟨RJ9, "abs", "(J)J"⟩
abbrev cJ9_max_7cf53 : ByteArray := prog_17_method_65_code
def yJ9_max_7cf53 : MethodName := ⟨RJ9, "max", "(II)I"⟩
abbrev cJ9_max_f86c9 : ByteArray := prog_17_method_66_code
def yJ9_max_f86c9 : MethodName := ⟨RJ9, "max", "(JJ)J"⟩
abbrev cJ9_min_7cf53 : ByteArray := prog_17_method_69_code
def yJ9_min_7cf53 : MethodName := ⟨RJ9, "min", "(II)I"⟩
abbrev cJ9_min_f86c9 : ByteArray := prog_17_method_70_code
def yJ9_min_f86c9 : MethodName := ⟨RJ9, "min", "(JJ)J"⟩
def RJ10 : String := "java/lang/System"
def TJ10 : u_T := fun k => match k with
  | _ => ("", "", "", false)
def tyJ10 : Nat → FieldType := fun k => match k with
  | _ => .int
abbrev wsJ100 : List Cond := u_ws RJ10 TJ10 0
theorem nmJ10 : ∀ a, a < 0 → ∀ b, b < 0 → a ≠ b → (TJ10 a).2.1 ≠ (TJ10 b).2.1 := by decide +kernel
theorem tyJ10_ok : ∀ k, k < 0 → parseFieldDescriptor (TJ10 k).2.2.1 = some (tyJ10 k) := by decide +kernel
def RL : String := "RoundThrowLaw"
abbrev cL_law : ByteArray := code
def yL_law : MethodName := ⟨RL, "law", "([I)Z"⟩
def wsL_law_r1 : List Cond := [Cond.classLink RL 7 RX10, Cond.instantiable RX10 8, Cond.initialized RX10, Cond.classLink RL 10 RX11, Cond.instantiable RX11 35, Cond.initialized RX11, Cond.methodLink RL 9 yX10_init, Cond.instanceMethod yX10_init, Cond.code yX10_init cX10_init 1 none, Cond.methodLink RX10 1 objectInit, Cond.instanceMethod objectInit, Cond.code objectInit ⟨#[0xb1]⟩ 1 none, Cond.classLink RX10 7 RX4, Cond.instantiable RX4 2, Cond.initialized RX4, Cond.fieldLink RX10 10 "RoundThrow" "pad" "LRoundThrow$Pad;", Cond.classLink RX10 16 RX7, Cond.instantiable RX7 6, Cond.initialized RX7, Cond.fieldLink RX10 19 "RoundThrow" "setup" "LRoundThrow$Setup;", Cond.fieldLink RX10 23 "RoundThrow" "images" "[LRoundThrow$Setup;", Cond.classLink RX10 27 RX5, Cond.instantiable RX5 2, Cond.initialized RX5]
def wsL_law_r2 : List Cond := [Cond.fieldLink RX10 30 "RoundThrow" "platform" "LRoundThrow$Platform;", Cond.classLink RX10 34 RX0, Cond.instantiable RX0 6, Cond.initialized RX0, Cond.fieldLink RX10 37 "RoundThrow" "thrown" "LRoundThrow$Ball;", Cond.classLink RX10 41 RX8, Cond.instantiable RX8 2, Cond.initialized RX8, Cond.fieldLink RX10 44 "RoundThrow" "track" "LRoundThrow$Track;", Cond.classLink RX10 48 RX1, Cond.instantiable RX1 4, Cond.initialized RX1, Cond.fieldLink RX10 51 "RoundThrow" "table" "LRoundThrow$CatchTable;", Cond.classLink RX10 55 RX3, Cond.instantiable RX3 2, Cond.initialized RX3, Cond.fieldLink RX10 58 "RoundThrow" "learner" "LRoundThrow$Learner;", Cond.instanceMethod yX4_init, Cond.code yX4_init cX4_init 1 none, Cond.methodLink RX4 3 objectInit, Cond.arrayClass .int, Cond.fieldLink RX4 11 "RoundThrow$Pad" "signs" "[I", Cond.instanceMethod yX7_init, Cond.code yX7_init cX7_init 1 none]
def wsL_law_r3 : List Cond := [Cond.methodLink RX7 1 objectInit, Cond.fieldLink RX7 7 "RoundThrow$Setup" "FIRST" "[I", Cond.methodLink RX7 13 ⟨"[I", "clone", "()Ljava/lang/Object;"⟩, Cond.sameMethod "[I" "java/lang/Object" "clone" "()Ljava/lang/Object;", Cond.native ⟨"java/lang/Object", "clone", "()Ljava/lang/Object;"⟩, Cond.instanceMethod ⟨"java/lang/Object", "clone", "()Ljava/lang/Object;"⟩, Cond.selects "[I" ⟨"[I", "clone", "()Ljava/lang/Object;"⟩ ⟨"java/lang/Object", "clone", "()Ljava/lang/Object;"⟩, Cond.classLink RX7 14 "[I", Cond.fieldLink RX7 18 "RoundThrow$Setup" "settings" "[I", Cond.classLink RX7 21 RX6, Cond.instantiable RX6 4, Cond.initialized RX6, Cond.fieldLink RX7 24 "RoundThrow$Setup" "pushes" "LRoundThrow$Pushes;", Cond.classLink RX7 28 RX2, Cond.instantiable RX2 3, Cond.initialized RX2, Cond.fieldLink RX7 31 "RoundThrow$Setup" "film" "LRoundThrow$Film;", Cond.fieldLink RX7 35 "RoundThrow$Setup" "oneX" "[I", Cond.fieldLink RX7 38 "RoundThrow$Setup" "oneY" "[I", Cond.instanceMethod yX6_init, Cond.code yX6_init cX6_init 1 none, Cond.methodLink RX6 5 objectInit, Cond.fieldLink RX6 13 "RoundThrow$Pushes" "ticks" "[I", Cond.fieldLink RX6 17 "RoundThrow$Pushes" "sizes" "[I"]
def wsL_law_r4 : List Cond := [Cond.instanceMethod yX2_init, Cond.code yX2_init cX2_init 1 none, Cond.methodLink RX2 1 objectInit, Cond.fieldLink RX2 9 "RoundThrow$Film" "xs" "[I", Cond.fieldLink RX2 13 "RoundThrow$Film" "ys" "[I", Cond.instanceMethod yX5_init, Cond.code yX5_init cX5_init 1 none, Cond.methodLink RX5 3 objectInit, Cond.fieldLink RX5 9 "RoundThrow$Platform" "angles" "[I", Cond.fieldLink RX5 15 "RoundThrow$Platform" "paces" "[I", Cond.instanceMethod yX0_init, Cond.code yX0_init cX0_init 1 none, Cond.methodLink RX0 3 objectInit, Cond.instanceMethod yX8_init, Cond.code yX8_init cX8_init 1 none, Cond.methodLink RX8 3 objectInit, Cond.arrayClass .long, Cond.fieldLink RX8 9 "RoundThrow$Track" "xs" "[J", Cond.fieldLink RX8 15 "RoundThrow$Track" "ys" "[J", Cond.instanceMethod yX1_init, Cond.code yX1_init cX1_init 1 none, Cond.methodLink RX1 3 objectInit, Cond.fieldLink RX1 11 "RoundThrow$CatchTable" "rows" "[I", Cond.instanceMethod yX3_init]
def wsL_law_r5 : List Cond := [Cond.code yX3_init cX3_init 1 none, Cond.methodLink RX3 3 objectInit, Cond.methodLink RL 12 yX11_init, Cond.instanceMethod yX11_init, Cond.code yX11_init cX11_init 2 none, Cond.methodLink RX11 1 objectInit, Cond.fieldLink RX11 7 "RoundThrowModel" "sines" "[I", Cond.fieldLink RX11 13 "RoundThrowModel" "sets" "[I", Cond.fieldLink RX11 16 "RoundThrowModel" "angles" "[I", Cond.fieldLink RX11 19 "RoundThrowModel" "paces" "[I", Cond.fieldLink RX11 22 "RoundThrowModel" "signs" "[I", Cond.fieldLink RX11 25 "RoundThrowModel" "pushAt" "[I", Cond.fieldLink RX11 28 "RoundThrowModel" "pushBy" "[I", Cond.fieldLink RX11 31 "RoundThrowModel" "oneX" "[I", Cond.fieldLink RX11 34 "RoundThrowModel" "oneY" "[I", Cond.arrayClass .boolean, Cond.fieldLink RX11 37 "RoundThrowModel" "isCaught" "[Z", Cond.fieldLink RX11 41 "RoundThrowModel" "seenX" "[I", Cond.fieldLink RX11 44 "RoundThrowModel" "seenY" "[I", Cond.fieldLink RX11 47 "RoundThrowModel" "filmX" "[I", Cond.fieldLink RX11 50 "RoundThrowModel" "filmY" "[I", Cond.fieldLink RX11 53 "RoundThrowModel" "groundX" "[I", Cond.fieldLink RX11 56 "RoundThrowModel" "groundY" "[I", Cond.fieldLink RX11 59 "RoundThrowModel" "kept" "[I"]
def wsL_law_r6 : List Cond := [Cond.fieldLink RX11 62 "RoundThrowModel" "isKept" "[Z", Cond.methodLink RL 13 yX10_set, Cond.instanceMethod yX10_set, Cond.selects RX10 yX10_set yX10_set, Cond.code yX10_set cX10_set 4 (some .int), Cond.fieldLink RX10 66 "RoundThrow$Setup" "settings" "[I", Cond.methodLink RX10 62 yX7_takes, Cond.static yX7_takes, Cond.code yX7_takes cX7_takes 2 (some .boolean), Cond.fieldLink RX7 47 "RoundThrow$Setup" "LEAST" "[I", Cond.fieldLink RX7 50 "RoundThrow$Setup" "MOST" "[I", Cond.static yX10_within, Cond.code yX10_within cX10_within 3 (some .boolean), Cond.methodLink RL 17 yX11_set, Cond.instanceMethod yX11_set, Cond.selects RX11 yX11_set yX11_set, Cond.code yX11_set cX11_set 6 (some .int), Cond.constantLong RX11 82 (4), Cond.methodLink RX11 67 yX11_in, Cond.static yX11_in, Cond.code yX11_in cX11_in 6 (some .boolean), Cond.methodLink RX11 84 yX11_setNow, Cond.instanceMethod yX11_setNow, Cond.selects RX11 yX11_setNow yX11_setNow]
def wsL_law_r7 : List Cond := [Cond.code yX11_setNow cX11_setNow 2 (some .int), Cond.methodLink RL 18 yX10_say, Cond.instanceMethod yX10_say, Cond.selects RX10 yX10_say yX10_say, Cond.code yX10_say cX10_say 2 (some .int), Cond.fieldLink RX10 78 "RoundThrow$Pad" "length" "I", Cond.methodLink RX10 70 yX10_within, Cond.methodLink RX10 74 yX4_add, Cond.instanceMethod yX4_add, Cond.selects RX4 yX4_add yX4_add, Cond.code yX4_add cX4_add 2 (some .boolean), Cond.fieldLink RX4 15 "RoundThrow$Pad" "length" "I", Cond.methodLink RL 22 yX11_say, Cond.instanceMethod yX11_say, Cond.selects RX11 yX11_say yX11_say, Cond.code yX11_say cX11_say 2 (some .int), Cond.constantLong RX11 88 (33), Cond.constantLong RX11 90 (126), Cond.fieldLink RX11 92 "RoundThrowModel" "signMany" "I", Cond.methodLink RL 23 yX10_wipe, Cond.instanceMethod yX10_wipe, Cond.selects RX10 yX10_wipe yX10_wipe, Cond.code yX10_wipe cX10_wipe 2 (some .int), Cond.methodLink RL 27 yX11_wipe]
def wsL_law_r8 : List Cond := [Cond.instanceMethod yX11_wipe, Cond.selects RX11 yX11_wipe yX11_wipe, Cond.code yX11_wipe cX11_wipe 2 (some .int), Cond.methodLink RL 28 yX10_fault, Cond.instanceMethod yX10_fault, Cond.selects RX10 yX10_fault yX10_fault, Cond.code yX10_fault cX10_fault 1 (some .int), Cond.methodLink RX10 82 yX4_faultPlace, Cond.instanceMethod yX4_faultPlace, Cond.selects RX4 yX4_faultPlace yX4_faultPlace, Cond.code yX4_faultPlace cX4_faultPlace 3 (some .int), Cond.methodLink RX4 19 yX4_behind, Cond.static yX4_behind, Cond.code yX4_behind cX4_behind 3 (some .int), Cond.methodLink RX4 23 yX4_isDigit, Cond.static yX4_isDigit, Cond.code yX4_isDigit cX4_isDigit 1 (some .boolean), Cond.methodLink RL 31 yX11_fault, Cond.instanceMethod yX11_fault, Cond.selects RX11 yX11_fault yX11_fault, Cond.code yX11_fault cX11_fault 4 (some .int), Cond.constantLong RX11 99 (49), Cond.constantLong RX11 97 (57), Cond.methodLink RX11 101 yX11_isDigit]
def wsL_law_r9 : List Cond := [Cond.static yX11_isDigit, Cond.code yX11_isDigit cX11_isDigit 1 (some .boolean), Cond.constantLong RX11 95 (48), Cond.methodLink RL 32 yX10_push, Cond.instanceMethod yX10_push, Cond.selects RX10 yX10_push yX10_push, Cond.code yX10_push cX10_push 1 (some .int), Cond.fieldLink RX10 86 "RoundThrow$Setup" "pushes" "LRoundThrow$Pushes;", Cond.fieldLink RX10 96 "RoundThrow$Pushes" "parts" "I", Cond.methodLink RX10 90 yX6_read, Cond.instanceMethod yX6_read, Cond.selects RX6 yX6_read yX6_read, Cond.code yX6_read cX6_read 6 none, Cond.fieldLink RX6 20 "RoundThrow$Pushes" "count" "I", Cond.fieldLink RX6 24 "RoundThrow$Pushes" "parts" "I", Cond.fieldLink RX6 27 "RoundThrow$Pad" "length" "I", Cond.fieldLink RX6 30 "RoundThrow$Pad" "signs" "[I", Cond.methodLink RX6 33 yX4_isDigit, Cond.methodLink RX6 37 yX6_numberBehind, Cond.static yX6_numberBehind, Cond.code yX6_numberBehind cX6_numberBehind 4 (some .int), Cond.methodLink RL 35 yX11_push, Cond.instanceMethod yX11_push, Cond.selects RX11 yX11_push yX11_push]
def wsL_law_r10 : List Cond := [Cond.code yX11_push cX11_push 5 (some .int), Cond.fieldLink RX11 109 "RoundThrowModel" "pushMany" "I", Cond.fieldLink RX11 112 "RoundThrowModel" "partMany" "I", Cond.methodLink RX11 105 yX11_fault, Cond.methodLink RL 36 yX10_turn, Cond.instanceMethod yX10_turn, Cond.selects RX10 yX10_turn yX10_turn, Cond.code yX10_turn cX10_turn 3 (some .int), Cond.fieldLink RX10 109 "RoundThrow$Platform" "angles" "[I", Cond.fieldLink RX10 112 "RoundThrow$Platform" "paces" "[I", Cond.methodLink RX10 99 yX10_isTick, Cond.static yX10_isTick, Cond.code yX10_isTick cX10_isTick 1 (some .boolean), Cond.methodLink RX10 102 yX7_pace, Cond.instanceMethod yX7_pace, Cond.selects RX7 yX7_pace yX7_pace, Cond.code yX7_pace cX7_pace 1 (some .int), Cond.methodLink RX10 105 yX5_run, Cond.instanceMethod yX5_run, Cond.selects RX5 yX5_run yX5_run, Cond.code yX5_run cX5_run 5 none, Cond.fieldLink RX5 18 "RoundThrow$Setup" "pushes" "LRoundThrow$Pushes;", Cond.methodLink RX5 24 yX6_paceAt, Cond.instanceMethod yX6_paceAt]
def wsL_law_r11 : List Cond := [Cond.selects RX6 yX6_paceAt yX6_paceAt, Cond.code yX6_paceAt cX6_paceAt 5 (some .int), Cond.methodLink RX6 41 Lib.Math.min.name, Cond.static Lib.Math.min.name, Cond.initialized "java/lang/Math", Cond.code Lib.Math.min.name Lib.Math.min.code 2 (some .int), Cond.methodLink RX6 47 Lib.Math.max.name, Cond.static Lib.Math.max.name, Cond.code Lib.Math.max.name Lib.Math.max.code 2 (some .int), Cond.methodLink RX5 30 yJ9_floorMod_7cf53, Cond.static yJ9_floorMod_7cf53, Cond.initialized RJ9, Cond.code yJ9_floorMod_7cf53 cJ9_floorMod_7cf53 3 (some .int), Cond.methodLink RX5 35 yX7_slows, Cond.instanceMethod yX7_slows, Cond.selects RX7 yX7_slows yX7_slows, Cond.code yX7_slows cX7_slows 1 (some .int), Cond.methodLink RX5 39 yX5_nearerToZero, Cond.static yX5_nearerToZero, Cond.code yX5_nearerToZero cX5_nearerToZero 2 (some .int), Cond.methodLink RX5 42 Lib.Math.max.name, Cond.methodLink RX5 45 Lib.Math.min.name, Cond.methodLink RL 39 yX11_turn, Cond.instanceMethod yX11_turn]
def wsL_law_r12 : List Cond := [Cond.selects RX11 yX11_turn yX11_turn, Cond.code yX11_turn cX11_turn 3 (some .int), Cond.methodLink RX11 118 yX11_isTick, Cond.static yX11_isTick, Cond.code yX11_isTick cX11_isTick 1 (some .boolean), Cond.constantLong RX11 71 (60), Cond.methodLink RX11 121 yX11_isEnd, Cond.static yX11_isEnd, Cond.code yX11_isEnd cX11_isEnd 1 (some .boolean), Cond.methodLink RX11 124 yX11_layTurns, Cond.instanceMethod yX11_layTurns, Cond.selects RX11 yX11_layTurns yX11_layTurns, Cond.code yX11_layTurns cX11_layTurns 5 none, Cond.methodLink RX11 115 yX11_held, Cond.static yX11_held, Cond.code yX11_held cX11_held 1 (some .int), Cond.methodLink RL 40 yX10_sit, Cond.instanceMethod yX10_sit, Cond.selects RX10 yX10_sit yX10_sit, Cond.code yX10_sit cX10_sit 3 (some .int), Cond.fieldLink RX10 118 "RoundThrow$Setup" "ones" "I", Cond.methodLink RX10 115 yX10_isWay, Cond.static yX10_isWay, Cond.code yX10_isWay cX10_isWay 1 (some .boolean)]
def wsL_law_r13 : List Cond := [Cond.methodLink RX10 121 yX7_seat, Cond.instanceMethod yX7_seat, Cond.selects RX7 yX7_seat yX7_seat, Cond.code yX7_seat cX7_seat 4 (some .int), Cond.fieldLink RX7 53 "RoundThrow$Setup" "ones" "I", Cond.methodLink RX7 57 yX9_turnX, Cond.static yX9_turnX, Cond.initialized RX9, Cond.code yX9_turnX cX9_turnX 5 (some .long), Cond.constantLong RX9 28 (10000), Cond.methodLink RX9 21 yX9_cosine, Cond.static yX9_cosine, Cond.code yX9_cosine cX9_cosine 1 (some .long), Cond.fieldLink RX9 9 "RoundThrow$Ways" "SINES" "[I", Cond.methodLink RX9 15 yJ9_floorMod_7cf53, Cond.methodLink RX9 25 yX9_sine, Cond.static yX9_sine, Cond.code yX9_sine cX9_sine 1 (some .long), Cond.methodLink RX7 63 yX9_turnY, Cond.static yX9_turnY, Cond.code yX9_turnY cX9_turnY 5 (some .long), Cond.methodLink RL 43 yX11_sit, Cond.instanceMethod yX11_sit, Cond.selects RX11 yX11_sit yX11_sit]
def wsL_law_r14 : List Cond := [Cond.code yX11_sit cX11_sit 3 (some .int), Cond.constantLong RX11 127 (1000), Cond.fieldLink RX11 132 "RoundThrowModel" "ones" "I", Cond.fieldLink RX11 75 "RoundThrowModel" "turnedX" "I", Cond.fieldLink RX11 79 "RoundThrowModel" "turnedY" "I", Cond.methodLink RX11 129 yX11_isWay, Cond.static yX11_isWay, Cond.code yX11_isWay cX11_isWay 1 (some .boolean), Cond.constantLong RX11 65 (23), Cond.methodLink RX11 135 yX11_turnPoint, Cond.instanceMethod yX11_turnPoint, Cond.selects RX11 yX11_turnPoint yX11_turnPoint, Cond.code yX11_turnPoint cX11_turnPoint 8 none, Cond.constantLong RX11 73 (10000), Cond.methodLink RL 44 yX10_point, Cond.instanceMethod yX10_point, Cond.selects RX10 yX10_point yX10_point, Cond.code yX10_point cX10_point 7 (some .int), Cond.constant RX10 128 (-100000001), Cond.constant RX10 129 (-100000002), Cond.fieldLink RX10 130 "RoundThrow$Setup" "oneX" "[I", Cond.fieldLink RX10 133 "RoundThrow$Setup" "oneY" "[I", Cond.methodLink RX10 125 yX7_hasOne, Cond.instanceMethod yX7_hasOne]
def wsL_law_r15 : List Cond := [Cond.selects RX7 yX7_hasOne yX7_hasOne, Cond.code yX7_hasOne cX7_hasOne 2 (some .boolean), Cond.methodLink RX10 136 yX5_wayBehind, Cond.instanceMethod yX5_wayBehind, Cond.selects RX5 yX5_wayBehind yX5_wayBehind, Cond.code yX5_wayBehind cX5_wayBehind 2 (some .int), Cond.methodLink RX5 48 yX5_wayOf, Cond.static yX5_wayOf, Cond.code yX5_wayOf cX5_wayOf 1 (some .int), Cond.methodLink RX10 140 yX9_turnX, Cond.methodLink RX10 146 yX9_turnY, Cond.methodLink RL 48 yX11_point, Cond.instanceMethod yX11_point, Cond.selects RX11 yX11_point yX11_point, Cond.code yX11_point cX11_point 4 (some .int), Cond.constant RX11 145 (-100000001), Cond.constantLong RX11 146 (3), Cond.constant RX11 148 (-100000002), Cond.methodLink RX11 142 yX11_isOne, Cond.instanceMethod yX11_isOne, Cond.selects RX11 yX11_isOne yX11_isOne, Cond.code yX11_isOne cX11_isOne 2 (some .boolean), Cond.methodLink RX11 149 yX11_layOne, Cond.instanceMethod yX11_layOne]
def wsL_law_r16 : List Cond := [Cond.selects RX11 yX11_layOne yX11_layOne, Cond.code yX11_layOne cX11_layOne 3 none, Cond.methodLink RX11 139 yX11_wayAt, Cond.instanceMethod yX11_wayAt, Cond.selects RX11 yX11_wayAt yX11_wayAt, Cond.code yX11_wayAt cX11_wayAt 2 (some .int), Cond.methodLink RL 49 yX10_ball, Cond.instanceMethod yX10_ball, Cond.selects RX10 yX10_ball yX10_ball, Cond.code yX10_ball cX10_ball 11 (some .int), Cond.methodLink RX10 149 yX10_isThrow, Cond.static yX10_isThrow, Cond.code yX10_isThrow cX10_isThrow 2 (some .boolean), Cond.methodLink RX10 152 yX0_launch, Cond.instanceMethod yX0_launch, Cond.selects RX0 yX0_launch yX0_launch, Cond.code yX0_launch cX0_launch 7 none, Cond.fieldLink RX0 15 "RoundThrow$Ball" "x" "J", Cond.fieldLink RX0 21 "RoundThrow$Ball" "y" "J", Cond.fieldLink RX0 30 "RoundThrow$Ball" "besidesX" "J", Cond.fieldLink RX0 36 "RoundThrow$Ball" "besidesY" "J", Cond.methodLink RX0 9 yX5_wayBehind, Cond.methodLink RX0 24 yX9_turnX, Cond.methodLink RX0 33 yX9_turnY]
def wsL_law_r17 : List Cond := [Cond.methodLink RX0 39 yX0_throwAnew, Cond.instanceMethod yX0_throwAnew, Cond.selects RX0 yX0_throwAnew yX0_throwAnew, Cond.code yX0_throwAnew cX0_throwAnew 3 none, Cond.fieldLink RX0 43 "RoundThrow$Ball" "stepX" "J", Cond.fieldLink RX0 46 "RoundThrow$Ball" "stepY" "J", Cond.methodLink RX10 156 yX0_xBehind, Cond.instanceMethod yX0_xBehind, Cond.selects RX0 yX0_xBehind yX0_xBehind, Cond.code yX0_xBehind cX0_xBehind 2 (some .long), Cond.methodLink RX10 160 yX0_yBehind, Cond.instanceMethod yX0_yBehind, Cond.selects RX0 yX0_yBehind yX0_yBehind, Cond.code yX0_yBehind cX0_yBehind 2 (some .long), Cond.methodLink RX10 163 yX5_wayBack, Cond.instanceMethod yX5_wayBack, Cond.selects RX5 yX5_wayBack yX5_wayBack, Cond.code yX5_wayBack cX5_wayBack 2 (some .int), Cond.methodLink RX5 52 yX5_wayBehind, Cond.methodLink RL 53 yX11_ball, Cond.instanceMethod yX11_ball, Cond.selects RX11 yX11_ball yX11_ball, Cond.code yX11_ball cX11_ball 6 (some .int), Cond.methodLink RX11 173 yX11_isThrow]
def wsL_law_r18 : List Cond := [Cond.static yX11_isThrow, Cond.code yX11_isThrow cX11_isThrow 2 (some .boolean), Cond.constantLong RX11 171 (200), Cond.methodLink RX11 177 yX11_layThrow, Cond.instanceMethod yX11_layThrow, Cond.selects RX11 yX11_layThrow yX11_layThrow, Cond.code yX11_layThrow cX11_layThrow 4 none, Cond.fieldLink RX11 153 "RoundThrowModel" "fromX" "I", Cond.fieldLink RX11 156 "RoundThrowModel" "fromY" "I", Cond.fieldLink RX11 159 "RoundThrowModel" "goX" "I", Cond.fieldLink RX11 162 "RoundThrowModel" "goY" "I", Cond.methodLink RX11 165 yX11_ballX, Cond.instanceMethod yX11_ballX, Cond.selects RX11 yX11_ballX yX11_ballX, Cond.code yX11_ballX cX11_ballX 2 (some .int), Cond.methodLink RX11 168 yX11_ballY, Cond.instanceMethod yX11_ballY, Cond.selects RX11 yX11_ballY yX11_ballY, Cond.code yX11_ballY cX11_ballY 2 (some .int), Cond.methodLink RX11 180 yX11_seeBall, Cond.instanceMethod yX11_seeBall, Cond.selects RX11 yX11_seeBall yX11_seeBall, Cond.code yX11_seeBall cX11_seeBall 2 none, Cond.methodLink RL 54 yX10_caught]
def wsL_law_r19 : List Cond := [Cond.instanceMethod yX10_caught, Cond.selects RX10 yX10_caught yX10_caught, Cond.code yX10_caught cX10_caught 5 (some .int), Cond.methodLink RX10 166 yX8_followSeat, Cond.instanceMethod yX8_followSeat, Cond.selects RX8 yX8_followSeat yX8_followSeat, Cond.code yX8_followSeat cX8_followSeat 6 none, Cond.methodLink RX8 18 yX5_wayBehind, Cond.methodLink RX8 24 yX9_turnX, Cond.methodLink RX8 30 yX9_turnY, Cond.methodLink RX10 170 yX7_reach, Cond.instanceMethod yX7_reach, Cond.selects RX7 yX7_reach yX7_reach, Cond.code yX7_reach cX7_reach 1 (some .int), Cond.methodLink RX10 173 yX0_tickCaught, Cond.instanceMethod yX0_tickCaught, Cond.selects RX0 yX0_tickCaught yX0_tickCaught, Cond.code yX0_tickCaught cX0_tickCaught 4 (some .int), Cond.methodLink RX0 75 yX0_gap, Cond.instanceMethod yX0_gap, Cond.selects RX0 yX0_gap yX0_gap, Cond.code yX0_gap cX0_gap 3 (some .long), Cond.fieldLink RX0 53 "RoundThrow$Track" "xs" "[J", Cond.methodLink RX0 59 Lib.MathLoose.abs_long.x]
def wsL_law_r20 : List Cond := [Cond.static Lib.MathLoose.abs_long.x, Cond.code Lib.MathLoose.abs_long.x Lib.MathLoose.abs_long.code 2 (some .long), Cond.fieldLink RX0 68 "RoundThrow$Track" "ys" "[J", Cond.methodLink RX0 71 Lib.MathLoose.max_long.x, Cond.static Lib.MathLoose.max_long.x, Cond.code Lib.MathLoose.max_long.x Lib.MathLoose.max_long.code 4 (some .long), Cond.methodLink RX0 49 yX0_xBehind, Cond.methodLink RX0 65 yX0_yBehind, Cond.methodLink RL 58 yX11_caught, Cond.instanceMethod yX11_caught, Cond.selects RX11 yX11_caught yX11_caught, Cond.code yX11_caught cX11_caught 5 (some .int), Cond.methodLink RX11 191 yX11_caughtOf, Cond.instanceMethod yX11_caughtOf, Cond.selects RX11 yX11_caughtOf yX11_caughtOf, Cond.code yX11_caughtOf cX11_caughtOf 6 (some .int), Cond.methodLink RX11 187 yX11_farFrom, Cond.instanceMethod yX11_farFrom, Cond.selects RX11 yX11_farFrom yX11_farFrom, Cond.code yX11_farFrom cX11_farFrom 5 (some .int), Cond.methodLink RX11 184 yX11_size, Cond.static yX11_size, Cond.code yX11_size cX11_size 1 (some .int), Cond.methodLink RL 59 yX10_all]
def wsL_law_r21 : List Cond := [Cond.instanceMethod yX10_all, Cond.selects RX10 yX10_all yX10_all, Cond.code yX10_all cX10_all 4 (some .int), Cond.fieldLink RX10 187 "RoundThrow$CatchTable" "safeSpeed" "I", Cond.fieldLink RX10 190 "RoundThrow$CatchTable" "safeWay" "I", Cond.fieldLink RX10 193 "RoundThrow$CatchTable" "safeNeighbours" "I", Cond.methodLink RX10 177 yX1_fill, Cond.instanceMethod yX1_fill, Cond.selects RX1 yX1_fill yX1_fill, Cond.code yX1_fill cX1_fill 7 none, Cond.methodLink RX1 15 yX0_throwAnew, Cond.methodLink RX1 21 yX0_tickCaught, Cond.methodLink RX10 181 yX1_howMany, Cond.instanceMethod yX1_howMany, Cond.selects RX1 yX1_howMany yX1_howMany, Cond.code yX1_howMany cX1_howMany 3 (some .int), Cond.methodLink RX1 25 yJ6_bitCount_0f7a4, Cond.static yJ6_bitCount_0f7a4, Cond.initialized RJ6, Cond.code yJ6_bitCount_0f7a4 cJ6_bitCount_0f7a4 1 (some .int), Cond.constant RJ6 265 (1431655765), Cond.constant RJ6 266 (858993459), Cond.constant RJ6 267 (252645135), Cond.methodLink RX10 184 yX1_findSafe]
def wsL_law_r22 : List Cond := [Cond.instanceMethod yX1_findSafe, Cond.selects RX1 yX1_findSafe yX1_findSafe, Cond.code yX1_findSafe cX1_findSafe 3 none, Cond.fieldLink RX1 31 "RoundThrow$CatchTable" "safeSpeed" "I", Cond.fieldLink RX1 35 "RoundThrow$CatchTable" "safeWay" "I", Cond.fieldLink RX1 38 "RoundThrow$CatchTable" "safeNeighbours" "I", Cond.methodLink RX1 41 yX1_bit, Cond.instanceMethod yX1_bit, Cond.selects RX1 yX1_bit yX1_bit, Cond.code yX1_bit cX1_bit 3 (some .int), Cond.methodLink RX1 48 yJ9_floorMod_7cf53, Cond.methodLink RX1 45 yX1_neighbours, Cond.instanceMethod yX1_neighbours, Cond.selects RX1 yX1_neighbours yX1_neighbours, Cond.code yX1_neighbours cX1_neighbours 5 (some .int), Cond.methodLink RL 62 yX11_all, Cond.instanceMethod yX11_all, Cond.selects RX11 yX11_all yX11_all, Cond.code yX11_all cX11_all 9 (some .int), Cond.methodLink RX11 195 yX11_neighbours, Cond.instanceMethod yX11_neighbours, Cond.selects RX11 yX11_neighbours yX11_neighbours, Cond.code yX11_neighbours cX11_neighbours 7 (some .int), Cond.methodLink RL 63 yX10_loops]
def wsL_law_r23 : List Cond := [Cond.instanceMethod yX10_loops, Cond.selects RX10 yX10_loops yX10_loops, Cond.code yX10_loops cX10_loops 4 (some .int), Cond.methodLink RX10 196 yX8_followSeen, Cond.instanceMethod yX8_followSeen, Cond.selects RX8 yX8_followSeen yX8_followSeen, Cond.code yX8_followSeen cX8_followSeen 5 none, Cond.methodLink RX8 33 yX5_wayBack, Cond.methodLink RX8 36 yX0_xBehind, Cond.methodLink RX8 42 yX0_yBehind, Cond.methodLink RX10 200 yX8_crossesItself, Cond.instanceMethod yX8_crossesItself, Cond.selects RX8 yX8_crossesItself yX8_crossesItself, Cond.code yX8_crossesItself cX8_crossesItself 3 (some .boolean), Cond.methodLink RX8 45 yX8_linesMeet, Cond.instanceMethod yX8_linesMeet, Cond.selects RX8 yX8_linesMeet yX8_linesMeet, Cond.code yX8_linesMeet cX8_linesMeet 3 (some .boolean), Cond.methodLink RX8 49 yX8_spansMeet, Cond.static yX8_spansMeet, Cond.code yX8_spansMeet cX8_spansMeet 3 (some .boolean), Cond.methodLink RX8 56 Lib.MathLoose.min_long.x, Cond.static Lib.MathLoose.min_long.x, Cond.code Lib.MathLoose.min_long.x Lib.MathLoose.min_long.code 4 (some .long)]
def wsL_law_r24 : List Cond := [Cond.methodLink RX8 62 Lib.MathLoose.max_long.x, Cond.methodLink RX8 53 yX8_isAcross, Cond.instanceMethod yX8_isAcross, Cond.selects RX8 yX8_isAcross yX8_isAcross, Cond.code yX8_isAcross cX8_isAcross 3 (some .boolean), Cond.methodLink RX8 65 yX8_side, Cond.instanceMethod yX8_side, Cond.selects RX8 yX8_side yX8_side, Cond.code yX8_side cX8_side 3 (some .long), Cond.methodLink RX8 69 yJ13_signum_95d88, Cond.static yJ13_signum_95d88, Cond.initialized RJ13, Cond.code yJ13_signum_95d88 cJ13_signum_95d88 2 (some .int), Cond.methodLink RL 66 yX11_loops, Cond.instanceMethod yX11_loops, Cond.selects RX11 yX11_loops yX11_loops, Cond.code yX11_loops cX11_loops 7 (some .int), Cond.methodLink RX11 209 yX11_meet, Cond.instanceMethod yX11_meet, Cond.selects RX11 yX11_meet yX11_meet, Cond.code yX11_meet cX11_meet 9 (some .boolean), Cond.methodLink RX11 202 yX11_side, Cond.instanceMethod yX11_side, Cond.selects RX11 yX11_side yX11_side]
def wsL_law_r25 : List Cond := [Cond.code yX11_side cX11_side 6 (some .int), Cond.methodLink RX11 206 yX11_lies, Cond.instanceMethod yX11_lies, Cond.selects RX11 yX11_lies yX11_lies, Cond.code yX11_lies cX11_lies 4 (some .boolean), Cond.methodLink RX11 198 yX11_isBetween, Cond.static yX11_isBetween, Cond.code yX11_isBetween cX11_isBetween 3 (some .boolean), Cond.methodLink RL 67 yX10_rolled, Cond.instanceMethod yX10_rolled, Cond.selects RX10 yX10_rolled yX10_rolled, Cond.code yX10_rolled cX10_rolled 8 (some .int), Cond.fieldLink RX10 213 "RoundThrow$Ball" "x" "J", Cond.fieldLink RX10 217 "RoundThrow$Ball" "y" "J", Cond.methodLink RX10 204 yX10_isPlace, Cond.static yX10_isPlace, Cond.code yX10_isPlace cX10_isPlace 2 (some .boolean), Cond.methodLink RX10 207 yX7_rub, Cond.instanceMethod yX7_rub, Cond.selects RX7 yX7_rub yX7_rub, Cond.code yX7_rub cX7_rub 1 (some .int), Cond.methodLink RX10 210 yX0_rollOn, Cond.instanceMethod yX0_rollOn, Cond.selects RX0 yX0_rollOn yX0_rollOn]
def wsL_law_r26 : List Cond := [Cond.code yX0_rollOn cX0_rollOn 15 none, Cond.constantLong RX0 82 (100), Cond.methodLink RX0 79 yX5_wayBack, Cond.methodLink RL 71 yX11_rolled, Cond.instanceMethod yX11_rolled, Cond.selects RX11 yX11_rolled yX11_rolled, Cond.code yX11_rolled cX11_rolled 7 (some .int), Cond.fieldLink RX11 218 "RoundThrowModel" "rollTick" "I", Cond.fieldLink RX11 212 "RoundThrowModel" "rollX" "I", Cond.fieldLink RX11 215 "RoundThrowModel" "rollY" "I", Cond.methodLink RX11 221 yX11_isPlace, Cond.static yX11_isPlace, Cond.code yX11_isPlace cX11_isPlace 3 (some .boolean), Cond.methodLink RX11 224 yX11_beginRoll, Cond.instanceMethod yX11_beginRoll, Cond.selects RX11 yX11_beginRoll yX11_beginRoll, Cond.code yX11_beginRoll cX11_beginRoll 5 none, Cond.methodLink RX11 228 yX11_roll, Cond.instanceMethod yX11_roll, Cond.selects RX11 yX11_roll yX11_roll, Cond.code yX11_roll cX11_roll 5 none, Cond.methodLink RL 72 yX10_off, Cond.instanceMethod yX10_off, Cond.selects RX10 yX10_off yX10_off]
def wsL_law_r27 : List Cond := [Cond.code yX10_off cX10_off 6 (some .int), Cond.methodLink RX10 220 yX7_rim, Cond.instanceMethod yX7_rim, Cond.selects RX7 yX7_rim yX7_rim, Cond.code yX7_rim cX7_rim 1 (some .int), Cond.methodLink RX10 223 yX0_isBeyond, Cond.instanceMethod yX0_isBeyond, Cond.selects RX0 yX0_isBeyond yX0_isBeyond, Cond.code yX0_isBeyond cX0_isBeyond 3 (some .boolean), Cond.methodLink RL 75 yX11_off, Cond.instanceMethod yX11_off, Cond.selects RX11 yX11_off yX11_off, Cond.code yX11_off cX11_off 5 (some .int), Cond.methodLink RX11 231 yX11_isOff, Cond.instanceMethod yX11_isOff, Cond.selects RX11 yX11_isOff yX11_isOff, Cond.code yX11_isOff cX11_isOff 1 (some .boolean), Cond.methodLink RL 76 yX10_leans, Cond.instanceMethod yX10_leans, Cond.selects RX10 yX10_leans yX10_leans, Cond.code yX10_leans cX10_leans 2 (some .int), Cond.methodLink RX10 227 yX10_lean, Cond.static yX10_lean, Cond.code yX10_lean cX10_lean 2 (some .int)]
def wsL_law_r28 : List Cond := [Cond.methodLink RL 79 yX11_leans, Cond.instanceMethod yX11_leans, Cond.selects RX11 yX11_leans yX11_leans, Cond.code yX11_leans cX11_leans 2 (some .int), Cond.methodLink RX11 235 yX11_leansOf, Cond.instanceMethod yX11_leansOf, Cond.selects RX11 yX11_leansOf yX11_leansOf, Cond.code yX11_leansOf cX11_leansOf 2 (some .int), Cond.methodLink RL 80 yX10_stays, Cond.instanceMethod yX10_stays, Cond.selects RX10 yX10_stays yX10_stays, Cond.code yX10_stays cX10_stays 3 (some .int), Cond.methodLink RL 83 yX11_stays, Cond.instanceMethod yX11_stays, Cond.selects RX11 yX11_stays yX11_stays, Cond.code yX11_stays cX11_stays 3 (some .int), Cond.constantLong RX11 238 (9999), Cond.methodLink RL 84 yX10_hut, Cond.instanceMethod yX10_hut, Cond.selects RX10 yX10_hut yX10_hut, Cond.code yX10_hut cX10_hut 6 (some .int), Cond.methodLink RL 87 yX11_hut, Cond.instanceMethod yX11_hut, Cond.selects RX11 yX11_hut yX11_hut]
def wsL_law_r29 : List Cond := [Cond.code yX11_hut cX11_hut 6 (some .int), Cond.methodLink RL 88 yX10_film, Cond.instanceMethod yX10_film, Cond.selects RX10 yX10_film yX10_film, Cond.code yX10_film cX10_film 3 (some .int), Cond.fieldLink RX10 232 "RoundThrow$Setup" "film" "LRoundThrow$Film;", Cond.fieldLink RX10 238 "RoundThrow$Film" "points" "I", Cond.methodLink RX10 236 yX2_add, Cond.instanceMethod yX2_add, Cond.selects RX2 yX2_add yX2_add, Cond.code yX2_add cX2_add 3 (some .boolean), Cond.fieldLink RX2 16 "RoundThrow$Film" "points" "I", Cond.methodLink RL 91 yX11_film, Cond.instanceMethod yX11_film, Cond.selects RX11 yX11_film yX11_film, Cond.code yX11_film cX11_film 3 (some .int), Cond.fieldLink RX11 240 "RoundThrowModel" "filmMany" "I", Cond.methodLink RL 92 yX10_clear, Cond.instanceMethod yX10_clear, Cond.selects RX10 yX10_clear yX10_clear, Cond.code yX10_clear cX10_clear 2 (some .int), Cond.methodLink RL 95 yX11_clear, Cond.instanceMethod yX11_clear, Cond.selects RX11 yX11_clear yX11_clear]
def wsL_law_r30 : List Cond := [Cond.code yX11_clear cX11_clear 2 (some .int), Cond.methodLink RL 96 yX10_bent, Cond.instanceMethod yX10_bent, Cond.selects RX10 yX10_bent yX10_bent, Cond.code yX10_bent cX10_bent 2 (some .int), Cond.methodLink RX10 241 yX2_bend, Cond.instanceMethod yX2_bend, Cond.selects RX2 yX2_bend yX2_bend, Cond.code yX2_bend cX2_bend 5 (some .int), Cond.constantLong RX2 24 (2), Cond.methodLink RX2 26 Lib.MathLoose.abs_long.x, Cond.methodLink RX2 20 yX2_groundX, Cond.instanceMethod yX2_groundX, Cond.selects RX2 yX2_groundX yX2_groundX, Cond.code yX2_groundX cX2_groundX 3 (some .long), Cond.methodLink RX2 35 yX5_wayOf, Cond.methodLink RX2 41 yX9_turnX, Cond.methodLink RX2 32 yX2_groundY, Cond.instanceMethod yX2_groundY, Cond.selects RX2 yX2_groundY yX2_groundY, Cond.code yX2_groundY cX2_groundY 3 (some .long), Cond.methodLink RX2 47 yX9_turnY, Cond.methodLink RL 99 yX11_bent, Cond.instanceMethod yX11_bent]
def wsL_law_r31 : List Cond := [Cond.selects RX11 yX11_bent yX11_bent, Cond.code yX11_bent cX11_bent 2 (some .int), Cond.constantLong RX11 243 (-60), Cond.methodLink RX11 245 yX11_bentOf, Cond.instanceMethod yX11_bentOf, Cond.selects RX11 yX11_bentOf yX11_bentOf, Cond.code yX11_bentOf cX11_bentOf 6 (some .int), Cond.methodLink RL 100 yX10_turned, Cond.instanceMethod yX10_turned, Cond.selects RX10 yX10_turned yX10_turned, Cond.code yX10_turned cX10_turned 1 (some .int), Cond.constant RX10 250 (-100000003), Cond.methodLink RX10 244 yX2_tells, Cond.instanceMethod yX2_tells, Cond.selects RX2 yX2_tells yX2_tells, Cond.code yX2_tells cX2_tells 1 (some .boolean), Cond.methodLink RX10 247 yX2_likeliestPace, Cond.instanceMethod yX2_likeliestPace, Cond.selects RX2 yX2_likeliestPace yX2_likeliestPace, Cond.code yX2_likeliestPace cX2_likeliestPace 7 (some .int), Cond.methodLink RX2 50 yX2_bend, Cond.methodLink RL 103 yX11_turned, Cond.instanceMethod yX11_turned, Cond.selects RX11 yX11_turned yX11_turned]
def wsL_law_r32 : List Cond := [Cond.code yX11_turned cX11_turned 1 (some .int), Cond.constant RX11 248 (-100000003), Cond.methodLink RX11 249 yX11_turnedBy, Cond.instanceMethod yX11_turnedBy, Cond.selects RX11 yX11_turnedBy yX11_turnedBy, Cond.code yX11_turnedBy cX11_turnedBy 3 (some .int), Cond.methodLink RL 104 yX10_span, Cond.instanceMethod yX10_span, Cond.selects RX10 yX10_span yX10_span, Cond.code yX10_span cX10_span 3 (some .int), Cond.methodLink RX10 251 yX2_farthestPace, Cond.instanceMethod yX2_farthestPace, Cond.selects RX2 yX2_farthestPace yX2_farthestPace, Cond.code yX2_farthestPace cX2_farthestPace 6 (some .int), Cond.methodLink RX2 53 yX2_likeliestPace, Cond.methodLink RL 107 yX11_span, Cond.instanceMethod yX11_span, Cond.selects RX11 yX11_span yX11_span, Cond.code yX11_span cX11_span 6 (some .int), Cond.methodLink RL 108 yX10_learns, Cond.instanceMethod yX10_learns, Cond.selects RX10 yX10_learns yX10_learns, Cond.code yX10_learns cX10_learns 5 (some .int), Cond.fieldLink RX10 260 "RoundThrow$Learner" "tries" "I"]
def wsL_law_r33 : List Cond := [Cond.fieldLink RX10 263 "RoundThrow$Learner" "way" "I", Cond.methodLink RX10 254 yX10_areTwo, Cond.instanceMethod yX10_areTwo, Cond.selects RX10 yX10_areTwo yX10_areTwo, Cond.code yX10_areTwo cX10_areTwo 3 (some .boolean), Cond.methodLink RX10 257 yX10_learnsAtFirst, Cond.instanceMethod yX10_learnsAtFirst, Cond.selects RX10 yX10_learnsAtFirst yX10_learnsAtFirst, Cond.code yX10_learnsAtFirst cX10_learnsAtFirst 4 (some .boolean), Cond.methodLink RX10 276 yX3_aim, Cond.instanceMethod yX3_aim, Cond.selects RX3 yX3_aim yX3_aim, Cond.code yX3_aim cX3_aim 5 none, Cond.fieldLink RX3 9 "RoundThrow$Learner" "way" "I", Cond.methodLink RX3 15 yX3_product, Cond.static yX3_product, Cond.code yX3_product cX3_product 4 (some .long), Cond.methodLink RX3 19 yX9_turnX, Cond.methodLink RX3 25 yX9_turnY, Cond.methodLink RX10 266 yX10_tries, Cond.instanceMethod yX10_tries, Cond.selects RX10 yX10_tries yX10_tries, Cond.code yX10_tries cX10_tries 5 (some .boolean), Cond.methodLink RX10 280 yX3_practise]
def wsL_law_r34 : List Cond := [Cond.instanceMethod yX3_practise, Cond.selects RX3 yX3_practise yX3_practise, Cond.code yX3_practise cX3_practise 7 (some .boolean), Cond.fieldLink RX3 28 "RoundThrow$Learner" "tries" "I", Cond.methodLink RX3 31 yX0_throwAnew, Cond.methodLink RX3 37 yX0_tickCaught, Cond.methodLink RX3 41 yX0_tickNearest, Cond.instanceMethod yX0_tickNearest, Cond.selects RX0 yX0_tickNearest yX0_tickNearest, Cond.code yX0_tickNearest cX0_tickNearest 8 (some .int), Cond.methodLink RX3 45 yX0_isRightOf, Cond.instanceMethod yX0_isRightOf, Cond.selects RX0 yX0_isRightOf yX0_isRightOf, Cond.code yX0_isRightOf cX0_isRightOf 3 (some .boolean), Cond.methodLink RX3 49 yJ9_floorMod_7cf53, Cond.methodLink RL 111 yX11_learns, Cond.instanceMethod yX11_learns, Cond.selects RX11 yX11_learns yX11_learns, Cond.code yX11_learns cX11_learns 6 (some .int), Cond.fieldLink RX11 252 "RoundThrowModel" "lastWay" "I", Cond.methodLink RX11 258 yX11_areTwo, Cond.instanceMethod yX11_areTwo, Cond.selects RX11 yX11_areTwo yX11_areTwo, Cond.code yX11_areTwo cX11_areTwo 3 (some .boolean)]
def wsL_law_r35 : List Cond := [Cond.methodLink RX11 261 yX11_firstWay, Cond.instanceMethod yX11_firstWay, Cond.selects RX11 yX11_firstWay yX11_firstWay, Cond.code yX11_firstWay cX11_firstWay 10 (some .int), Cond.methodLink RX11 264 yX11_triesFrom, Cond.instanceMethod yX11_triesFrom, Cond.selects RX11 yX11_triesFrom yX11_triesFrom, Cond.code yX11_triesFrom cX11_triesFrom 6 (some .int), Cond.methodLink RX11 255 yX11_nextWay, Cond.instanceMethod yX11_nextWay, Cond.selects RX11 yX11_nextWay yX11_nextWay, Cond.code yX11_nextWay cX11_nextWay 7 (some .int), Cond.methodLink RL 112 yX10_along, Cond.instanceMethod yX10_along, Cond.selects RX10 yX10_along yX10_along, Cond.code yX10_along cX10_along 5 (some .int), Cond.methodLink RL 115 yX11_along, Cond.instanceMethod yX11_along, Cond.selects RX11 yX11_along yX11_along, Cond.code yX11_along cX11_along 7 (some .int), Cond.constantLong RX11 267 (198), Cond.methodLink RL 116 yX10_image, Cond.instanceMethod yX10_image, Cond.selects RX10 yX10_image yX10_image]
def wsL_law_r36 : List Cond := [Cond.code yX10_image cX10_image 2 (some .int), Cond.methodLink RX10 269 yX10_isImage, Cond.static yX10_isImage, Cond.code yX10_isImage cX10_isImage 1 (some .boolean), Cond.methodLink RX10 272 yX7_become, Cond.instanceMethod yX7_become, Cond.selects RX7 yX7_become yX7_become, Cond.code yX7_become cX7_become 2 none, Cond.methodLink RX7 66 arraycopyName, Cond.native arraycopyName, Cond.static arraycopyName, Cond.initialized "java/lang/System", Cond.methodLink RX7 72 yX6_become, Cond.instanceMethod yX6_become, Cond.selects RX6 yX6_become yX6_become, Cond.code yX6_become cX6_become 2 none, Cond.methodLink RX6 50 arraycopyName, Cond.methodLink RX7 76 yX2_become, Cond.instanceMethod yX2_become, Cond.selects RX2 yX2_become yX2_become, Cond.code yX2_become cX2_become 2 none, Cond.methodLink RX2 57 arraycopyName, Cond.methodLink RL 119 yX11_image, Cond.instanceMethod yX11_image]
def wsL_law_r37 : List Cond := [Cond.selects RX11 yX11_image yX11_image, Cond.code yX11_image cX11_image 2 (some .int), Cond.fieldLink RX11 273 "RoundThrowModel" "keptAt" "I", Cond.fieldLink RX11 269 "RoundThrowModel" "isWriting" "Z", Cond.methodLink RX11 279 yX11_passAll, Cond.instanceMethod yX11_passAll, Cond.selects RX11 yX11_passAll yX11_passAll, Cond.code yX11_passAll cX11_passAll 2 none, Cond.methodLink RX11 276 yX11_pass, Cond.instanceMethod yX11_pass, Cond.selects RX11 yX11_pass yX11_pass, Cond.code yX11_pass cX11_pass 3 (some .int), Cond.methodLink RL 120 yX10_restore, Cond.instanceMethod yX10_restore, Cond.selects RX10 yX10_restore yX10_restore, Cond.code yX10_restore cX10_restore 2 (some .int), Cond.methodLink RL 123 yX11_restore, Cond.instanceMethod yX11_restore, Cond.selects RX11 yX11_restore yX11_restore, Cond.code yX11_restore cX11_restore 2 (some .int), Cond.methodLink RL 124 yX10_told, Cond.instanceMethod yX10_told, Cond.selects RX10 yX10_told yX10_told, Cond.code yX10_told cX10_told 2 (some .int)]
def wsL_law_r38 : List Cond := [Cond.methodLink RL 127 yX11_told, Cond.instanceMethod yX11_told, Cond.selects RX11 yX11_told yX11_told, Cond.code yX11_told cX11_told 2 (some .int), Cond.constantLong RX11 282 (8)]
def wsL_law : List Cond := (wsL_law_r1 ++ (wsL_law_r2 ++ (wsL_law_r3 ++ (wsL_law_r4 ++ (wsL_law_r5 ++ (wsL_law_r6 ++ (wsL_law_r7 ++ (wsL_law_r8 ++ (wsL_law_r9 ++ (wsL_law_r10 ++ (wsL_law_r11 ++ (wsL_law_r12 ++ (wsL_law_r13 ++ (wsL_law_r14 ++ (wsL_law_r15 ++ (wsL_law_r16 ++ (wsL_law_r17 ++ (wsL_law_r18 ++ (wsL_law_r19 ++ (wsL_law_r20 ++ (wsL_law_r21 ++ (wsL_law_r22 ++ (wsL_law_r23 ++ (wsL_law_r24 ++ (wsL_law_r25 ++ (wsL_law_r26 ++ (wsL_law_r27 ++ (wsL_law_r28 ++ (wsL_law_r29 ++ (wsL_law_r30 ++ (wsL_law_r31 ++ (wsL_law_r32 ++ (wsL_law_r33 ++ (wsL_law_r34 ++ (wsL_law_r35 ++ (wsL_law_r36 ++ (wsL_law_r37 ++ wsL_law_r38))))))))))))))))))))))))))))))))))))) ++ wsX100 ++ wsX110 ++ wsX40 ++ wsX70 ++ wsX50 ++ wsX00 ++ wsX80 ++ wsX10 ++ wsX30 ++ wsX60 ++ wsX20 ++ ([] : List Cond)
theorem inlX0 : ∀ w ∈ wsX00, w ∈ wsL_law := fun _ h => List.mem_append_left _ (List.mem_append_left _ (List.mem_append_left _ (List.mem_append_left _ (List.mem_append_left _ (List.mem_append_left _ (List.mem_append_right _ h))))))
theorem inlX1 : ∀ w ∈ wsX10, w ∈ wsL_law := fun _ h => List.mem_append_left _ (List.mem_append_left _ (List.mem_append_left _ (List.mem_append_left _ (List.mem_append_right _ h))))
theorem inlX2 : ∀ w ∈ wsX20, w ∈ wsL_law := fun _ h => List.mem_append_left _ (List.mem_append_right _ h)
theorem inlX3 : ∀ w ∈ wsX30, w ∈ wsL_law := fun _ h => List.mem_append_left _ (List.mem_append_left _ (List.mem_append_left _ (List.mem_append_right _ h)))
theorem inlX4 : ∀ w ∈ wsX40, w ∈ wsL_law := fun _ h => List.mem_append_left _ (List.mem_append_left _ (List.mem_append_left _ (List.mem_append_left _ (List.mem_append_left _ (List.mem_append_left _ (List.mem_append_left _ (List.mem_append_left _ (List.mem_append_left _ (List.mem_append_right _ h)))))))))
theorem inlX5 : ∀ w ∈ wsX50, w ∈ wsL_law := fun _ h => List.mem_append_left _ (List.mem_append_left _ (List.mem_append_left _ (List.mem_append_left _ (List.mem_append_left _ (List.mem_append_left _ (List.mem_append_left _ (List.mem_append_right _ h)))))))
theorem inlX6 : ∀ w ∈ wsX60, w ∈ wsL_law := fun _ h => List.mem_append_left _ (List.mem_append_left _ (List.mem_append_right _ h))
theorem inlX7 : ∀ w ∈ wsX70, w ∈ wsL_law := fun _ h => List.mem_append_left _ (List.mem_append_left _ (List.mem_append_left _ (List.mem_append_left _ (List.mem_append_left _ (List.mem_append_left _ (List.mem_append_left _ (List.mem_append_left _ (List.mem_append_right _ h))))))))
theorem inlX8 : ∀ w ∈ wsX80, w ∈ wsL_law := fun _ h => List.mem_append_left _ (List.mem_append_left _ (List.mem_append_left _ (List.mem_append_left _ (List.mem_append_left _ (List.mem_append_right _ h)))))
theorem inlX10 : ∀ w ∈ wsX100, w ∈ wsL_law := fun _ h => List.mem_append_left _ (List.mem_append_left _ (List.mem_append_left _ (List.mem_append_left _ (List.mem_append_left _ (List.mem_append_left _ (List.mem_append_left _ (List.mem_append_left _ (List.mem_append_left _ (List.mem_append_left _ (List.mem_append_left _ (List.mem_append_right _ h)))))))))))
theorem inlX11 : ∀ w ∈ wsX110, w ∈ wsL_law := fun _ h => List.mem_append_left _ (List.mem_append_left _ (List.mem_append_left _ (List.mem_append_left _ (List.mem_append_left _ (List.mem_append_left _ (List.mem_append_left _ (List.mem_append_left _ (List.mem_append_left _ (List.mem_append_left _ (List.mem_append_right _ h))))))))))
theorem inJx8e188 : ∀ w ∈ wsJx8e1880, w ∈ lw_tbl := by decide +kernel
theorem inJ6 : ∀ w ∈ wsJ60, w ∈ lw_tbl := by decide +kernel
theorem inJ13 : ∀ w ∈ wsJ130, w ∈ lw_tbl := by decide +kernel
theorem inJ9 : ∀ w ∈ wsJ90, w ∈ lw_tbl := by decide +kernel
theorem inJ10 : ∀ w ∈ wsJ100, w ∈ lw_tbl := by decide +kernel
abbrev vwCl : List vw_C := [(RX0, TX0, 6), (RX1, TX1, 4), (RX2, TX2, 3), (RX3, TX3, 2), (RX4, TX4, 2), (RX5, TX5, 2), (RX6, TX6, 4), (RX7, TX7, 6), (RX8, TX8, 2), (RX10, TX10, 8), (RX11, TX11, 35)]
