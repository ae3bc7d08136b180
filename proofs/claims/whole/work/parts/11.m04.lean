-- X10_all
def rm_X10_all : Room := { frames := 5, cells := 0, slots := 0, locals := 114 }
abbrev ws_X10_all : List Cond := .code yX10_all cX10_all 4 (some .int) :: wsL_law
theorem cw_RX10_177 {R : Room} {s : State} {args : Array Value} (hts : ∀ w ∈ wsL_law, w.before args s = true) (hR : rm_X1_fill.frames + 1 ≤ R.frames ∧ 8 + (7 + 11) + rm_X1_fill.locals ≤ R.locals) : CallW R s args RX10 RX1 177 yX1_fill cX1_fill 7 none ws_X1_fill rm_X1_fill rm_X1_fill.cells rm_X1_fill.slots 3 := cwV 3 hts (gdV w_21_6 w_21_7 w_21_8 w_2_11 w_21_9) rfl rfl rfl (by decide +kernel) hR
theorem cw_RX10_184 {R : Room} {s : State} {args : Array Value} (hts : ∀ w ∈ wsL_law, w.before args s = true) (hR : rm_X1_findSafe.frames + 1 ≤ R.frames ∧ 8 + (3 + 11) + rm_X1_findSafe.locals ≤ R.locals) : CallW R s args RX10 RX1 184 yX1_findSafe cX1_findSafe 3 none ws_X1_findSafe rm_X1_findSafe rm_X1_findSafe.cells rm_X1_findSafe.slots 0 := cwV 0 hts (gdV w_21_23 w_22_0 w_22_1 w_2_11 w_22_2) rfl rfl rfl (by decide +kernel) hR
theorem cw_RX10_181 {R : Room} {s : State} {args : Array Value} (hts : ∀ w ∈ wsL_law, w.before args s = true) (hR : rm_X1_howMany.frames + 1 ≤ R.frames ∧ 8 + (3 + 11) + rm_X1_howMany.locals ≤ R.locals) : CallW R s args RX10 RX1 181 yX1_howMany cX1_howMany 3 (some .int) ws_X1_howMany rm_X1_howMany rm_X1_howMany.cells rm_X1_howMany.slots 0 := cwV 0 hts (gdV w_21_12 w_21_13 w_21_14 w_2_11 w_21_15) rfl rfl rfl (by decide +kernel) hR
def wp_X10_all (st : St) (a1 : Int32) (a2 : Int32) (a3 : Int32) (post : Int32 → St → Prop) : Prop := wp_X7_hasOne st a1 (fun r1 => ((r1 = 0) → (post (-1) st)) ∧ ((¬ r1 = 0) → (wp_X7_hasOne st a2 (fun r4 => ((¬ r4 = 0) → (wp_X10_within a3 0 3 (fun r7 => ((¬ r7 = 0) → (wp_X7_pace st (fun r10 => wp_X5_run st r10 (fun t13 => vp_in a2 8 ∧ (vp_in a2 8 ∧ (wp_X8_followSeat t13 (gA t13 6 a2.toNatClampNeg) (gA t13 7 a2.toNatClampNeg) (fun t15 => vp_in a1 8 ∧ (vp_in a1 8 ∧ (wp_X0_launch t15 (gA t15 6 a1.toNatClampNeg) (gA t15 7 a1.toNatClampNeg) 0 0 (fun t17 => wp_X7_reach t17 (fun r18 => wp_X1_fill t17 r18 (fun t21 => ((¬ a3 = 0) → (wp_X1_findSafe t21 (fun t24 => ((¬ a3.toInt = 1 ∧ ¬ a3.toInt = 2) → (post (gI t24 7) t24)) ∧ ((a3.toInt = 1) → (post (gI t24 5) t24)) ∧ ((a3.toInt = 2) → (post (gI t24 6) t24))))) ∧ ((a3 = 0) → (wp_X1_howMany t21 (fun r26 => post r26 t21))))))))))))))) ∧ ((r7 = 0) → (post (-2) st))))) ∧ ((r4 = 0) → (post (-1) st))))))
set_option maxHeartbeats 4000000 in
set_option maxRecDepth 100000 in
theorem c_X10_all (l : Launch) (D : va_G) (cy : Nat → ClassId) (tz : Nat → Nat) (ad : Nat → Nat) (st : St) (a1 : Int32) (a2 : Int32) (a3 : Int32) (post : Int32 → St → Prop) (h : wp_X10_all st a1 a2 a3 post) : CtI l D cy tz yX10_all ws_X10_all rm_X10_all [.ref (ad 0), .int a1, .int a2, .int a3] (wX cy ad st) (wX cy ad) post := by
  refine CtI.of (own := RX10) (nm := "all") (lv := [(0, .ref (ad 0)), (1, .int a1), (2, .int a2), (3, .int a3)]) (plainFor_of_name (by decide)) rfl rfl (Nat.le_of_ble_eq_true rfl) rfl ?_
  intro p e s m args below meth c A Q ls B hP hD hS hl hret
  obtain ⟨hx, hb, hml, hown, hts, hK, hZ, hA, hnm⟩ := B
  have SF : CallFix p m c cX10_all 4 s args wsL_law RX10 := ⟨hx, hb, hml, hown, hts⟩
  unfold wp_X10_all at h
  refine lv_aload_n hx hb dX10_all_0 rfl (lv_at hl 0 rfl) ?_
  refine va_get (D := D) (ci := 9) (v := .ref (ad 3)) (C := RX10) (T := TX10) (N := 8) hx hb hts inlX10 hown hK hP 0 rfl rfl 1 (by decide) (hts _ w_1_19) (fun _ h9 => h9) rfl dX10_all_1 ?_
  refine lv_iload_n hx hb dX10_all_4 rfl (lv_at hl 1 rfl) ?_
  refine callVIr (rest := []) SF (c_X7_hasOne l D cy tz ad st a1 _ h) (cw_RX10_125 hts ⟨Nat.le_of_ble_eq_true rfl, Nat.le_of_ble_eq_true rfl⟩) rfl rfl (va_recv hK hP (ci := 7) (q0 := 3) rfl rfl) hK hZ hA hP hD hS rfl hl.1 rfl (Nat.le_of_ble_eq_true rfl) dX10_all_5 ⟨Nat.zero_le _, Nat.zero_le _⟩ (fun r1 H locs h hP hD hS => ?_)
  refine lv_if_eq (tgt := 22) hx hb dX10_all_8 (by decide) (fun c3 => ?_) (fun c3 => ?_)
  · have h := h.1 c3
    refine lv_iconst (v := (-1)) hx hb dX10_all_22 (by decide) ?_
    exact hret _ _ _ _ _ _ rfl h hP hD hS dX10_all_23
  · have h := h.2 c3
    refine lv_aload_n hx hb dX10_all_11 rfl (lv_at hl 0 rfl) ?_
    refine va_get (D := D) (ci := 9) (v := .ref (ad 3)) (C := RX10) (T := TX10) (N := 8) hx hb hts inlX10 hown hK hP 0 rfl rfl 1 (by decide) (hts _ w_1_19) (fun _ h9 => h9) rfl dX10_all_12 ?_
    refine lv_iload_n hx hb dX10_all_15 rfl (lv_at hl 2 rfl) ?_
    refine callVIr (rest := []) SF (c_X7_hasOne l D cy tz ad st a2 _ h) (cw_RX10_125 hts ⟨Nat.le_of_ble_eq_true rfl, Nat.le_of_ble_eq_true rfl⟩) rfl rfl (va_recv hK hP (ci := 7) (q0 := 3) rfl rfl) hK hZ hA hP hD hS rfl hl.1 rfl (Nat.le_of_ble_eq_true rfl) dX10_all_16 ⟨Nat.zero_le _, Nat.zero_le _⟩ (fun r4 H locs h hP hD hS => ?_)
    refine lv_if_ne (tgt := 24) hx hb dX10_all_19 (by decide) (fun c6 => ?_) (fun c6 => ?_)
    · have h := h.1 c6
      refine lv_iload_n hx hb dX10_all_24 rfl (lv_at hl 3 rfl) ?_
      refine lv_iconst (v := 0) hx hb dX10_all_25 (by decide) ?_
      refine lv_iconst (v := 3) hx hb dX10_all_26 (by decide) ?_
      refine callSIr (rest := []) SF (c_X10_within l D cy tz _ a3 0 3 _ h) (cw_RX10_70 hts ⟨Nat.le_of_ble_eq_true rfl, Nat.le_of_ble_eq_true rfl⟩) rfl rfl hK hZ hA hP hD hS rfl hl.1 rfl (Nat.le_of_ble_eq_true rfl) dX10_all_27 ⟨Nat.zero_le _, Nat.zero_le _⟩ (fun r7 H locs h hP hD hS => ?_)
      refine lv_if_ne (tgt := 36) hx hb dX10_all_30 (by decide) (fun c9 => ?_) (fun c9 => ?_)
      · have h := h.1 c9
        refine lv_aload_n hx hb dX10_all_36 rfl (lv_at hl 0 rfl) ?_
        refine va_get (D := D) (ci := 9) (v := .ref (ad 13)) (C := RX10) (T := TX10) (N := 8) hx hb hts inlX10 hown hK hP 0 rfl rfl 3 (by decide) (hts _ w_2_0) (fun _ h9 => h9) rfl dX10_all_37 ?_
        refine lv_aload_n hx hb dX10_all_40 rfl (lv_at hl 0 rfl) ?_
        refine va_get (D := D) (ci := 9) (v := .ref (ad 3)) (C := RX10) (T := TX10) (N := 8) hx hb hts inlX10 hown hK hP 0 rfl rfl 1 (by decide) (hts _ w_1_19) (fun _ h9 => h9) rfl dX10_all_41 ?_
        refine lv_aload_n hx hb dX10_all_44 rfl (lv_at hl 0 rfl) ?_
        refine va_get (D := D) (ci := 9) (v := .ref (ad 3)) (C := RX10) (T := TX10) (N := 8) hx hb hts inlX10 hown hK hP 0 rfl rfl 1 (by decide) (hts _ w_1_19) (fun _ h9 => h9) rfl dX10_all_45 ?_
        refine callVIr (rest := [.ref (ad 3), .ref (ad 13)]) SF (c_X7_pace l D cy tz ad st _ h) (cw_RX10_102 hts ⟨Nat.le_of_ble_eq_true rfl, Nat.le_of_ble_eq_true rfl⟩) rfl rfl (va_recv hK hP (ci := 7) (q0 := 3) rfl rfl) hK hZ hA hP hD hS rfl hl.1 rfl (Nat.le_of_ble_eq_true rfl) dX10_all_48 ⟨Nat.zero_le _, Nat.zero_le _⟩ (fun r10 H locs h hP hD hS => ?_)
        refine callVV (rest := []) SF (c_X5_run l D cy tz ad st r10 _ h) (cw_RX10_105 hts ⟨Nat.le_of_ble_eq_true rfl, Nat.le_of_ble_eq_true rfl⟩) rfl rfl (va_recv hK hP (ci := 5) (q0 := 13) rfl rfl) hK hZ hA hP hD hS rfl hl.1 rfl (Nat.le_of_ble_eq_true rfl) dX10_all_51 ⟨Nat.zero_le _, Nat.zero_le _⟩ (fun t13 H locs h hP hD hS => ?_)
        refine lv_aload_n hx hb dX10_all_54 rfl (lv_at hl 0 rfl) ?_
        refine va_get (D := D) (ci := 9) (v := .ref (ad 17)) (C := RX10) (T := TX10) (N := 8) hx hb hts inlX10 hown hK hP 0 rfl rfl 5 (by decide) (hts _ w_2_8) (fun _ h9 => h9) rfl dX10_all_55 ?_
        refine lv_aload_n hx hb dX10_all_58 rfl (lv_at hl 0 rfl) ?_
        refine va_get (D := D) (ci := 9) (v := .ref (ad 3)) (C := RX10) (T := TX10) (N := 8) hx hb hts inlX10 hown hK hP 0 rfl rfl 1 (by decide) (hts _ w_1_19) (fun _ h9 => h9) rfl dX10_all_59 ?_
        refine va_get (D := D) (ci := 7) (v := .ref (ad 11)) (C := RX7) (T := TX7) (N := 6) hx hb hts inlX7 hown hK hP 3 rfl rfl 3 (by decide) (hts _ w_14_20) (fun _ h9 => h9) rfl dX10_all_62 ?_
        refine lv_iload_n hx hb dX10_all_65 rfl (lv_at hl 2 rfl) ?_
        refine va_iald (f := gA t13 6) (n := 8) hx hb hK hP 11 0 rfl rfl h.1 dX10_all_66 ?_
        have h := h.2
        refine lv_aload_n hx hb dX10_all_67 rfl (lv_at hl 0 rfl) ?_
        refine va_get (D := D) (ci := 9) (v := .ref (ad 3)) (C := RX10) (T := TX10) (N := 8) hx hb hts inlX10 hown hK hP 0 rfl rfl 1 (by decide) (hts _ w_1_19) (fun _ h9 => h9) rfl dX10_all_68 ?_
        refine va_get (D := D) (ci := 7) (v := .ref (ad 12)) (C := RX7) (T := TX7) (N := 6) hx hb hts inlX7 hown hK hP 3 rfl rfl 4 (by decide) (hts _ w_14_21) (fun _ h9 => h9) rfl dX10_all_71 ?_
        refine lv_iload_n hx hb dX10_all_74 rfl (lv_at hl 2 rfl) ?_
        refine va_iald (f := gA t13 7) (n := 8) hx hb hK hP 12 0 rfl rfl h.1 dX10_all_75 ?_
        have h := h.2
        refine lv_aload_n hx hb dX10_all_76 rfl (lv_at hl 0 rfl) ?_
        refine va_get (D := D) (ci := 9) (v := .ref (ad 13)) (C := RX10) (T := TX10) (N := 8) hx hb hts inlX10 hown hK hP 0 rfl rfl 3 (by decide) (hts _ w_2_0) (fun _ h9 => h9) rfl dX10_all_77 ?_
        refine callVV (rest := []) SF (c_X8_followSeat l D cy tz ad t13 (gA t13 6 a2.toNatClampNeg) (gA t13 7 a2.toNatClampNeg) _ h) (cw_RX10_166 hts ⟨Nat.le_of_ble_eq_true rfl, Nat.le_of_ble_eq_true rfl⟩) rfl rfl (va_recv hK hP (ci := 8) (q0 := 17) rfl rfl) hK hZ hA hP hD hS rfl hl.1 rfl (Nat.le_of_ble_eq_true rfl) dX10_all_80 ⟨Nat.zero_le _, Nat.zero_le _⟩ (fun t15 H locs h hP hD hS => ?_)
        refine lv_aload_n hx hb dX10_all_83 rfl (lv_at hl 0 rfl) ?_
        refine va_get (D := D) (ci := 9) (v := .ref (ad 16)) (C := RX10) (T := TX10) (N := 8) hx hb hts inlX10 hown hK hP 0 rfl rfl 4 (by decide) (hts _ w_2_4) (fun _ h9 => h9) rfl dX10_all_84 ?_
        refine lv_aload_n hx hb dX10_all_87 rfl (lv_at hl 0 rfl) ?_
        refine va_get (D := D) (ci := 9) (v := .ref (ad 3)) (C := RX10) (T := TX10) (N := 8) hx hb hts inlX10 hown hK hP 0 rfl rfl 1 (by decide) (hts _ w_1_19) (fun _ h9 => h9) rfl dX10_all_88 ?_
        refine va_get (D := D) (ci := 7) (v := .ref (ad 11)) (C := RX7) (T := TX7) (N := 6) hx hb hts inlX7 hown hK hP 3 rfl rfl 3 (by decide) (hts _ w_14_20) (fun _ h9 => h9) rfl dX10_all_91 ?_
        refine lv_iload_n hx hb dX10_all_94 rfl (lv_at hl 1 rfl) ?_
        refine va_iald (f := gA t15 6) (n := 8) hx hb hK hP 11 0 rfl rfl h.1 dX10_all_95 ?_
        have h := h.2
        refine lv_aload_n hx hb dX10_all_96 rfl (lv_at hl 0 rfl) ?_
        refine va_get (D := D) (ci := 9) (v := .ref (ad 3)) (C := RX10) (T := TX10) (N := 8) hx hb hts inlX10 hown hK hP 0 rfl rfl 1 (by decide) (hts _ w_1_19) (fun _ h9 => h9) rfl dX10_all_97 ?_
        refine va_get (D := D) (ci := 7) (v := .ref (ad 12)) (C := RX7) (T := TX7) (N := 6) hx hb hts inlX7 hown hK hP 3 rfl rfl 4 (by decide) (hts _ w_14_21) (fun _ h9 => h9) rfl dX10_all_100 ?_
        refine lv_iload_n hx hb dX10_all_103 rfl (lv_at hl 1 rfl) ?_
        refine va_iald (f := gA t15 7) (n := 8) hx hb hK hP 12 0 rfl rfl h.1 dX10_all_104 ?_
        have h := h.2
        refine lv_iconst (v := 0) hx hb dX10_all_105 (by decide) ?_
        refine lv_iconst (v := 0) hx hb dX10_all_106 (by decide) ?_
        refine lv_aload_n hx hb dX10_all_107 rfl (lv_at hl 0 rfl) ?_
        refine va_get (D := D) (ci := 9) (v := .ref (ad 13)) (C := RX10) (T := TX10) (N := 8) hx hb hts inlX10 hown hK hP 0 rfl rfl 3 (by decide) (hts _ w_2_0) (fun _ h9 => h9) rfl dX10_all_108 ?_
        refine callVV (rest := []) SF (c_X0_launch l D cy tz ad t15 (gA t15 6 a1.toNatClampNeg) (gA t15 7 a1.toNatClampNeg) 0 0 _ h) (cw_RX10_152 hts ⟨Nat.le_of_ble_eq_true rfl, Nat.le_of_ble_eq_true rfl⟩) rfl rfl (va_recv hK hP (ci := 0) (q0 := 16) rfl rfl) hK hZ hA hP hD hS rfl hl.1 rfl (Nat.le_of_ble_eq_true rfl) dX10_all_111 ⟨Nat.zero_le _, Nat.zero_le _⟩ (fun t17 H locs h hP hD hS => ?_)
        refine lv_aload_n hx hb dX10_all_114 rfl (lv_at hl 0 rfl) ?_
        refine va_get (D := D) (ci := 9) (v := .ref (ad 20)) (C := RX10) (T := TX10) (N := 8) hx hb hts inlX10 hown hK hP 0 rfl rfl 6 (by decide) (hts _ w_2_12) (fun _ h9 => h9) rfl dX10_all_115 ?_
        refine lv_aload_n hx hb dX10_all_118 rfl (lv_at hl 0 rfl) ?_
        refine va_get (D := D) (ci := 9) (v := .ref (ad 16)) (C := RX10) (T := TX10) (N := 8) hx hb hts inlX10 hown hK hP 0 rfl rfl 4 (by decide) (hts _ w_2_4) (fun _ h9 => h9) rfl dX10_all_119 ?_
        refine lv_aload_n hx hb dX10_all_122 rfl (lv_at hl 0 rfl) ?_
        refine va_get (D := D) (ci := 9) (v := .ref (ad 17)) (C := RX10) (T := TX10) (N := 8) hx hb hts inlX10 hown hK hP 0 rfl rfl 5 (by decide) (hts _ w_2_8) (fun _ h9 => h9) rfl dX10_all_123 ?_
        refine lv_aload_n hx hb dX10_all_126 rfl (lv_at hl 0 rfl) ?_
        refine va_get (D := D) (ci := 9) (v := .ref (ad 3)) (C := RX10) (T := TX10) (N := 8) hx hb hts inlX10 hown hK hP 0 rfl rfl 1 (by decide) (hts _ w_1_19) (fun _ h9 => h9) rfl dX10_all_127 ?_
        refine callVIr (rest := [.ref (ad 17), .ref (ad 16), .ref (ad 20)]) SF (c_X7_reach l D cy tz ad t17 _ h) (cw_RX10_170 hts ⟨Nat.le_of_ble_eq_true rfl, Nat.le_of_ble_eq_true rfl⟩) rfl rfl (va_recv hK hP (ci := 7) (q0 := 3) rfl rfl) hK hZ hA hP hD hS rfl hl.1 rfl (Nat.le_of_ble_eq_true rfl) dX10_all_130 ⟨Nat.zero_le _, Nat.zero_le _⟩ (fun r18 H locs h hP hD hS => ?_)
        refine callVV (rest := []) SF (c_X1_fill l D cy tz ad t17 r18 _ h) (cw_RX10_177 hts ⟨Nat.le_of_ble_eq_true rfl, Nat.le_of_ble_eq_true rfl⟩) rfl rfl (va_recv hK hP (ci := 1) (q0 := 20) rfl rfl) hK hZ hA hP hD hS rfl hl.1 rfl (Nat.le_of_ble_eq_true rfl) dX10_all_133 ⟨Nat.zero_le _, Nat.zero_le _⟩ (fun t21 H locs h hP hD hS => ?_)
        refine lv_iload_n hx hb dX10_all_136 rfl (lv_at hl 3 rfl) ?_
        refine lv_if_ne (tgt := 148) hx hb dX10_all_137 (by decide) (fun c22 => ?_) (fun c22 => ?_)
        · have h := h.1 c22
          refine lv_aload_n hx hb dX10_all_148 rfl (lv_at hl 0 rfl) ?_
          refine va_get (D := D) (ci := 9) (v := .ref (ad 20)) (C := RX10) (T := TX10) (N := 8) hx hb hts inlX10 hown hK hP 0 rfl rfl 6 (by decide) (hts _ w_2_12) (fun _ h9 => h9) rfl dX10_all_149 ?_
          refine callVV (rest := []) SF (c_X1_findSafe l D cy tz ad t21 _ h) (cw_RX10_184 hts ⟨Nat.le_of_ble_eq_true rfl, Nat.le_of_ble_eq_true rfl⟩) rfl rfl (va_recv hK hP (ci := 1) (q0 := 20) rfl rfl) hK hZ hA hP hD hS rfl hl.1 rfl (Nat.le_of_ble_eq_true rfl) dX10_all_152 ⟨Nat.zero_le _, Nat.zero_le _⟩ (fun t24 H locs h hP hD hS => ?_)
          refine lv_iload_n hx hb dX10_all_155 rfl (lv_at hl 3 rfl) ?_
          rcases (show ((¬ a3.toInt = 1 ∧ ¬ a3.toInt = 2) ∨ a3.toInt = 1 ∨ a3.toInt = 2) by omega) with c25 | c25 | c25
          · have h := h.1 c25
            refine lv_lookup (off := 44) (tgt := 200) hx hb dX10_all_156 (by decide) (by simp [Op.lookupswitch.offset, Ne.symm (show a3.toInt ≠ 1 from c25.1), Ne.symm (show a3.toInt ≠ 2 from c25.2)]) (by decide) ?_
            refine lv_aload_n hx hb dX10_all_200 rfl (lv_at hl 0 rfl) ?_
            refine va_get (D := D) (ci := 9) (v := .ref (ad 20)) (C := RX10) (T := TX10) (N := 8) hx hb hts inlX10 hown hK hP 0 rfl rfl 6 (by decide) (hts _ w_2_12) (fun _ h9 => h9) rfl dX10_all_201 ?_
            refine va_get (D := D) (ci := 1) (v := .int (gI t24 7)) (C := RX1) (T := TX1) (N := 4) hx hb hts inlX1 hown hK hP 20 rfl rfl 3 (by decide) (hts _ w_21_5) (fun _ h9 => h9) rfl dX10_all_204 ?_
            exact hret _ _ _ _ _ _ rfl h hP hD hS dX10_all_207
          · have h := h.2.1 c25
            refine lv_lookup (off := 28) (tgt := 184) hx hb dX10_all_156 (by decide) (by rw [c25]; rfl) (by decide) ?_
            refine lv_aload_n hx hb dX10_all_184 rfl (lv_at hl 0 rfl) ?_
            refine va_get (D := D) (ci := 9) (v := .ref (ad 20)) (C := RX10) (T := TX10) (N := 8) hx hb hts inlX10 hown hK hP 0 rfl rfl 6 (by decide) (hts _ w_2_12) (fun _ h9 => h9) rfl dX10_all_185 ?_
            refine va_get (D := D) (ci := 1) (v := .int (gI t24 5)) (C := RX1) (T := TX1) (N := 4) hx hb hts inlX1 hown hK hP 20 rfl rfl 1 (by decide) (hts _ w_21_3) (fun _ h9 => h9) rfl dX10_all_188 ?_
            exact hret _ _ _ _ _ _ rfl h hP hD hS dX10_all_191
          · have h := h.2.2 c25
            refine lv_lookup (off := 36) (tgt := 192) hx hb dX10_all_156 (by decide) (by rw [c25]; rfl) (by decide) ?_
            refine lv_aload_n hx hb dX10_all_192 rfl (lv_at hl 0 rfl) ?_
            refine va_get (D := D) (ci := 9) (v := .ref (ad 20)) (C := RX10) (T := TX10) (N := 8) hx hb hts inlX10 hown hK hP 0 rfl rfl 6 (by decide) (hts _ w_2_12) (fun _ h9 => h9) rfl dX10_all_193 ?_
            refine va_get (D := D) (ci := 1) (v := .int (gI t24 6)) (C := RX1) (T := TX1) (N := 4) hx hb hts inlX1 hown hK hP 20 rfl rfl 2 (by decide) (hts _ w_21_4) (fun _ h9 => h9) rfl dX10_all_196 ?_
            exact hret _ _ _ _ _ _ rfl h hP hD hS dX10_all_199
        · have h := h.2 c22
          refine lv_aload_n hx hb dX10_all_140 rfl (lv_at hl 0 rfl) ?_
          refine va_get (D := D) (ci := 9) (v := .ref (ad 20)) (C := RX10) (T := TX10) (N := 8) hx hb hts inlX10 hown hK hP 0 rfl rfl 6 (by decide) (hts _ w_2_12) (fun _ h9 => h9) rfl dX10_all_141 ?_
          refine callVIr (rest := []) SF (c_X1_howMany l D cy tz ad t21 _ h) (cw_RX10_181 hts ⟨Nat.le_of_ble_eq_true rfl, Nat.le_of_ble_eq_true rfl⟩) rfl rfl (va_recv hK hP (ci := 1) (q0 := 20) rfl rfl) hK hZ hA hP hD hS rfl hl.1 rfl (Nat.le_of_ble_eq_true rfl) dX10_all_144 ⟨Nat.zero_le _, Nat.zero_le _⟩ (fun r26 H locs h hP hD hS => ?_)
          exact hret _ _ _ _ _ _ rfl h hP hD hS dX10_all_147
      · have h := h.2 c9
        refine lv_bipush (v := (-2)) hx hb dX10_all_33 (by decide) ?_
        exact hret _ _ _ _ _ _ rfl h hP hD hS dX10_all_35
    · have h := h.2 c6
      refine lv_iconst (v := (-1)) hx hb dX10_all_22 (by decide) ?_
      exact hret _ _ _ _ _ _ rfl h hP hD hS dX10_all_23
-- X10_loops
def rm_X10_loops : Room := { frames := 5, cells := 0, slots := 0, locals := 114 }
abbrev ws_X10_loops : List Cond := .code yX10_loops cX10_loops 4 (some .int) :: wsL_law
theorem cw_RX10_196 {R : Room} {s : State} {args : Array Value} (hts : ∀ w ∈ wsL_law, w.before args s = true) (hR : rm_X8_followSeen.frames + 1 ≤ R.frames ∧ 8 + (5 + 11) + rm_X8_followSeen.locals ≤ R.locals) : CallW R s args RX10 RX8 196 yX8_followSeen cX8_followSeen 5 none ws_X8_followSeen rm_X8_followSeen rm_X8_followSeen.cells rm_X8_followSeen.slots 2 := cwV 2 hts (gdV w_23_3 w_23_4 w_23_5 w_2_7 w_23_6) rfl rfl rfl (by decide +kernel) hR
theorem cw_RX10_200 {R : Room} {s : State} {args : Array Value} (hts : ∀ w ∈ wsL_law, w.before args s = true) (hR : rm_X8_crossesItself.frames + 1 ≤ R.frames ∧ 8 + (3 + 11) + rm_X8_crossesItself.locals ≤ R.locals) : CallW R s args RX10 RX8 200 yX8_crossesItself cX8_crossesItself 3 (some .boolean) ws_X8_crossesItself rm_X8_crossesItself rm_X8_crossesItself.cells rm_X8_crossesItself.slots 0 := cwV 0 hts (gdV w_23_10 w_23_11 w_23_12 w_2_7 w_23_13) rfl rfl rfl (by decide +kernel) hR
def wp_X10_loops (st : St) (a1 : Int32) (a2 : Int32) (a3 : Int32) (post : Int32 → St → Prop) : Prop := wp_X7_hasOne st a1 (fun r1 => ((¬ r1 = 0) → (wp_X10_isThrow a2 a3 (fun r4 => ((¬ r4 = 0) → (wp_X7_pace st (fun r7 => wp_X5_run st r7 (fun t10 => vp_in a1 8 ∧ (vp_in a1 8 ∧ (wp_X0_launch t10 (gA t10 6 a1.toNatClampNeg) (gA t10 7 a1.toNatClampNeg) a2 a3 (fun t12 => wp_X8_followSeen t12 (fun t14 => wp_X8_crossesItself t14 (fun r15 => ((r15 = 0) → (post 0 t14)) ∧ ((¬ r15 = 0) → (post 1 t14))))))))))) ∧ ((r4 = 0) → (post (-2) st))))) ∧ ((r1 = 0) → (post (-1) st)))
set_option maxHeartbeats 4000000 in
set_option maxRecDepth 100000 in
theorem c_X10_loops (l : Launch) (D : va_G) (cy : Nat → ClassId) (tz : Nat → Nat) (ad : Nat → Nat) (st : St) (a1 : Int32) (a2 : Int32) (a3 : Int32) (post : Int32 → St → Prop) (h : wp_X10_loops st a1 a2 a3 post) : CtI l D cy tz yX10_loops ws_X10_loops rm_X10_loops [.ref (ad 0), .int a1, .int a2, .int a3] (wX cy ad st) (wX cy ad) post := by
  refine CtI.of (own := RX10) (nm := "loops") (lv := [(0, .ref (ad 0)), (1, .int a1), (2, .int a2), (3, .int a3)]) (plainFor_of_name (by decide)) rfl rfl (Nat.le_of_ble_eq_true rfl) rfl ?_
  intro p e s m args below meth c A Q ls B hP hD hS hl hret
  obtain ⟨hx, hb, hml, hown, hts, hK, hZ, hA, hnm⟩ := B
  have SF : CallFix p m c cX10_loops 4 s args wsL_law RX10 := ⟨hx, hb, hml, hown, hts⟩
  unfold wp_X10_loops at h
  refine lv_aload_n hx hb dX10_loops_0 rfl (lv_at hl 0 rfl) ?_
  refine va_get (D := D) (ci := 9) (v := .ref (ad 3)) (C := RX10) (T := TX10) (N := 8) hx hb hts inlX10 hown hK hP 0 rfl rfl 1 (by decide) (hts _ w_1_19) (fun _ h9 => h9) rfl dX10_loops_1 ?_
  refine lv_iload_n hx hb dX10_loops_4 rfl (lv_at hl 1 rfl) ?_
  refine callVIr (rest := []) SF (c_X7_hasOne l D cy tz ad st a1 _ h) (cw_RX10_125 hts ⟨Nat.le_of_ble_eq_true rfl, Nat.le_of_ble_eq_true rfl⟩) rfl rfl (va_recv hK hP (ci := 7) (q0 := 3) rfl rfl) hK hZ hA hP hD hS rfl hl.1 rfl (Nat.le_of_ble_eq_true rfl) dX10_loops_5 ⟨Nat.zero_le _, Nat.zero_le _⟩ (fun r1 H locs h hP hD hS => ?_)
  refine lv_if_ne (tgt := 13) hx hb dX10_loops_8 (by decide) (fun c3 => ?_) (fun c3 => ?_)
  · have h := h.1 c3
    refine lv_iload_n hx hb dX10_loops_13 rfl (lv_at hl 2 rfl) ?_
    refine lv_iload_n hx hb dX10_loops_14 rfl (lv_at hl 3 rfl) ?_
    refine callSIr (rest := []) SF (c_X10_isThrow l D cy tz _ a2 a3 _ h) (cw_RX10_149 hts ⟨Nat.le_of_ble_eq_true rfl, Nat.le_of_ble_eq_true rfl⟩) rfl rfl hK hZ hA hP hD hS rfl hl.1 rfl (Nat.le_of_ble_eq_true rfl) dX10_loops_15 ⟨Nat.zero_le _, Nat.zero_le _⟩ (fun r4 H locs h hP hD hS => ?_)
    refine lv_if_ne (tgt := 24) hx hb dX10_loops_18 (by decide) (fun c6 => ?_) (fun c6 => ?_)
    · have h := h.1 c6
      refine lv_aload_n hx hb dX10_loops_24 rfl (lv_at hl 0 rfl) ?_
      refine va_get (D := D) (ci := 9) (v := .ref (ad 13)) (C := RX10) (T := TX10) (N := 8) hx hb hts inlX10 hown hK hP 0 rfl rfl 3 (by decide) (hts _ w_2_0) (fun _ h9 => h9) rfl dX10_loops_25 ?_
      refine lv_aload_n hx hb dX10_loops_28 rfl (lv_at hl 0 rfl) ?_
      refine va_get (D := D) (ci := 9) (v := .ref (ad 3)) (C := RX10) (T := TX10) (N := 8) hx hb hts inlX10 hown hK hP 0 rfl rfl 1 (by decide) (hts _ w_1_19) (fun _ h9 => h9) rfl dX10_loops_29 ?_
      refine lv_aload_n hx hb dX10_loops_32 rfl (lv_at hl 0 rfl) ?_
      refine va_get (D := D) (ci := 9) (v := .ref (ad 3)) (C := RX10) (T := TX10) (N := 8) hx hb hts inlX10 hown hK hP 0 rfl rfl 1 (by decide) (hts _ w_1_19) (fun _ h9 => h9) rfl dX10_loops_33 ?_
      refine callVIr (rest := [.ref (ad 3), .ref (ad 13)]) SF (c_X7_pace l D cy tz ad st _ h) (cw_RX10_102 hts ⟨Nat.le_of_ble_eq_true rfl, Nat.le_of_ble_eq_true rfl⟩) rfl rfl (va_recv hK hP (ci := 7) (q0 := 3) rfl rfl) hK hZ hA hP hD hS rfl hl.1 rfl (Nat.le_of_ble_eq_true rfl) dX10_loops_36 ⟨Nat.zero_le _, Nat.zero_le _⟩ (fun r7 H locs h hP hD hS => ?_)
      refine callVV (rest := []) SF (c_X5_run l D cy tz ad st r7 _ h) (cw_RX10_105 hts ⟨Nat.le_of_ble_eq_true rfl, Nat.le_of_ble_eq_true rfl⟩) rfl rfl (va_recv hK hP (ci := 5) (q0 := 13) rfl rfl) hK hZ hA hP hD hS rfl hl.1 rfl (Nat.le_of_ble_eq_true rfl) dX10_loops_39 ⟨Nat.zero_le _, Nat.zero_le _⟩ (fun t10 H locs h hP hD hS => ?_)
      refine lv_aload_n hx hb dX10_loops_42 rfl (lv_at hl 0 rfl) ?_
      refine va_get (D := D) (ci := 9) (v := .ref (ad 16)) (C := RX10) (T := TX10) (N := 8) hx hb hts inlX10 hown hK hP 0 rfl rfl 4 (by decide) (hts _ w_2_4) (fun _ h9 => h9) rfl dX10_loops_43 ?_
      refine lv_aload_n hx hb dX10_loops_46 rfl (lv_at hl 0 rfl) ?_
      refine va_get (D := D) (ci := 9) (v := .ref (ad 3)) (C := RX10) (T := TX10) (N := 8) hx hb hts inlX10 hown hK hP 0 rfl rfl 1 (by decide) (hts _ w_1_19) (fun _ h9 => h9) rfl dX10_loops_47 ?_
      refine va_get (D := D) (ci := 7) (v := .ref (ad 11)) (C := RX7) (T := TX7) (N := 6) hx hb hts inlX7 hown hK hP 3 rfl rfl 3 (by decide) (hts _ w_14_20) (fun _ h9 => h9) rfl dX10_loops_50 ?_
      refine lv_iload_n hx hb dX10_loops_53 rfl (lv_at hl 1 rfl) ?_
      refine va_iald (f := gA t10 6) (n := 8) hx hb hK hP 11 0 rfl rfl h.1 dX10_loops_54 ?_
      have h := h.2
      refine lv_aload_n hx hb dX10_loops_55 rfl (lv_at hl 0 rfl) ?_
      refine va_get (D := D) (ci := 9) (v := .ref (ad 3)) (C := RX10) (T := TX10) (N := 8) hx hb hts inlX10 hown hK hP 0 rfl rfl 1 (by decide) (hts _ w_1_19) (fun _ h9 => h9) rfl dX10_loops_56 ?_
      refine va_get (D := D) (ci := 7) (v := .ref (ad 12)) (C := RX7) (T := TX7) (N := 6) hx hb hts inlX7 hown hK hP 3 rfl rfl 4 (by decide) (hts _ w_14_21) (fun _ h9 => h9) rfl dX10_loops_59 ?_
      refine lv_iload_n hx hb dX10_loops_62 rfl (lv_at hl 1 rfl) ?_
      refine va_iald (f := gA t10 7) (n := 8) hx hb hK hP 12 0 rfl rfl h.1 dX10_loops_63 ?_
      have h := h.2
      refine lv_iload_n hx hb dX10_loops_64 rfl (lv_at hl 2 rfl) ?_
      refine lv_iload_n hx hb dX10_loops_65 rfl (lv_at hl 3 rfl) ?_
      refine lv_aload_n hx hb dX10_loops_66 rfl (lv_at hl 0 rfl) ?_
      refine va_get (D := D) (ci := 9) (v := .ref (ad 13)) (C := RX10) (T := TX10) (N := 8) hx hb hts inlX10 hown hK hP 0 rfl rfl 3 (by decide) (hts _ w_2_0) (fun _ h9 => h9) rfl dX10_loops_67 ?_
      refine callVV (rest := []) SF (c_X0_launch l D cy tz ad t10 (gA t10 6 a1.toNatClampNeg) (gA t10 7 a1.toNatClampNeg) a2 a3 _ h) (cw_RX10_152 hts ⟨Nat.le_of_ble_eq_true rfl, Nat.le_of_ble_eq_true rfl⟩) rfl rfl (va_recv hK hP (ci := 0) (q0 := 16) rfl rfl) hK hZ hA hP hD hS rfl hl.1 rfl (Nat.le_of_ble_eq_true rfl) dX10_loops_70 ⟨Nat.zero_le _, Nat.zero_le _⟩ (fun t12 H locs h hP hD hS => ?_)
      refine lv_aload_n hx hb dX10_loops_73 rfl (lv_at hl 0 rfl) ?_
      refine va_get (D := D) (ci := 9) (v := .ref (ad 17)) (C := RX10) (T := TX10) (N := 8) hx hb hts inlX10 hown hK hP 0 rfl rfl 5 (by decide) (hts _ w_2_8) (fun _ h9 => h9) rfl dX10_loops_74 ?_
      refine lv_aload_n hx hb dX10_loops_77 rfl (lv_at hl 0 rfl) ?_
      refine va_get (D := D) (ci := 9) (v := .ref (ad 16)) (C := RX10) (T := TX10) (N := 8) hx hb hts inlX10 hown hK hP 0 rfl rfl 4 (by decide) (hts _ w_2_4) (fun _ h9 => h9) rfl dX10_loops_78 ?_
      refine lv_aload_n hx hb dX10_loops_81 rfl (lv_at hl 0 rfl) ?_
      refine va_get (D := D) (ci := 9) (v := .ref (ad 13)) (C := RX10) (T := TX10) (N := 8) hx hb hts inlX10 hown hK hP 0 rfl rfl 3 (by decide) (hts _ w_2_0) (fun _ h9 => h9) rfl dX10_loops_82 ?_
      refine callVV (rest := []) SF (c_X8_followSeen l D cy tz ad t12 _ h) (cw_RX10_196 hts ⟨Nat.le_of_ble_eq_true rfl, Nat.le_of_ble_eq_true rfl⟩) rfl rfl (va_recv hK hP (ci := 8) (q0 := 17) rfl rfl) hK hZ hA hP hD hS rfl hl.1 rfl (Nat.le_of_ble_eq_true rfl) dX10_loops_85 ⟨Nat.zero_le _, Nat.zero_le _⟩ (fun t14 H locs h hP hD hS => ?_)
      refine lv_aload_n hx hb dX10_loops_88 rfl (lv_at hl 0 rfl) ?_
      refine va_get (D := D) (ci := 9) (v := .ref (ad 17)) (C := RX10) (T := TX10) (N := 8) hx hb hts inlX10 hown hK hP 0 rfl rfl 5 (by decide) (hts _ w_2_8) (fun _ h9 => h9) rfl dX10_loops_89 ?_
      refine callVIr (rest := []) SF (c_X8_crossesItself l D cy tz ad t14 _ h) (cw_RX10_200 hts ⟨Nat.le_of_ble_eq_true rfl, Nat.le_of_ble_eq_true rfl⟩) rfl rfl (va_recv hK hP (ci := 8) (q0 := 17) rfl rfl) hK hZ hA hP hD hS rfl hl.1 rfl (Nat.le_of_ble_eq_true rfl) dX10_loops_92 ⟨Nat.zero_le _, Nat.zero_le _⟩ (fun r15 H locs h hP hD hS => ?_)
      refine lv_if_eq (tgt := 102) hx hb dX10_loops_95 (by decide) (fun c17 => ?_) (fun c17 => ?_)
      · have h := h.1 c17
        refine lv_iconst (v := 0) hx hb dX10_loops_102 (by decide) ?_
        exact hret _ _ _ _ _ _ rfl h hP hD hS dX10_loops_103
      · have h := h.2 c17
        refine lv_iconst (v := 1) hx hb dX10_loops_98 (by decide) ?_
        refine lv_goto (tgt := 103) hx hb dX10_loops_99 (by decide) ?_
        exact hret _ _ _ _ _ _ rfl h hP hD hS dX10_loops_103
    · have h := h.2 c6
      refine lv_bipush (v := (-2)) hx hb dX10_loops_21 (by decide) ?_
      exact hret _ _ _ _ _ _ rfl h hP hD hS dX10_loops_23
  · have h := h.2 c3
    refine lv_iconst (v := (-1)) hx hb dX10_loops_11 (by decide) ?_
    exact hret _ _ _ _ _ _ rfl h hP hD hS dX10_loops_12
-- X10_isPlace
def rm_X10_isPlace : Room := { frames := 1, cells := 0, slots := 0, locals := 22 }
abbrev ws_X10_isPlace : List Cond := .code yX10_isPlace cX10_isPlace 2 (some .boolean) :: wsL_law
def wp_X10_isPlace (a1 : Int32) (a2 : Int32) (post : Int32 → Prop) : Prop := wp_X10_within a1 (-1000) 1000 (fun r1 => ((r1 = 0) → (post 0)) ∧ ((¬ r1 = 0) → (wp_X10_within a2 (-1000) 1000 (fun r4 => ((r4 = 0) → (post 0)) ∧ ((¬ r4 = 0) → (post 1))))))
set_option maxHeartbeats 4000000 in
set_option maxRecDepth 100000 in
theorem c_X10_isPlace (l : Launch) (D : va_G) (cy : Nat → ClassId) (tz : Nat → Nat) (w : va_W) (a1 : Int32) (a2 : Int32) (post : Int32 → Prop) (h : wp_X10_isPlace a1 a2 post) : CtI l D cy tz yX10_isPlace ws_X10_isPlace rm_X10_isPlace [.int a1, .int a2] w (fun _ : Unit => w) (fun r _ => post r) := by
  refine CtI.of (own := RX10) (nm := "isPlace") (lv := [(0, .int a1), (1, .int a2)]) (plainFor_of_name (by decide)) rfl rfl (Nat.le_of_ble_eq_true rfl) rfl ?_
  intro p e s m args below meth c A Q ls B hP hD hS hl hret
  obtain ⟨hx, hb, hml, hown, hts, hK, hZ, hA, hnm⟩ := B
  have SF : CallFix p m c cX10_isPlace 2 s args wsL_law RX10 := ⟨hx, hb, hml, hown, hts⟩
  unfold wp_X10_isPlace at h
  refine lv_iload_n hx hb dX10_isPlace_0 rfl (lv_at hl 0 rfl) ?_
  refine lv_sipush (v := (-1000)) hx hb dX10_isPlace_1 (by decide) ?_
  refine lv_sipush (v := 1000) hx hb dX10_isPlace_4 (by decide) ?_
  refine callSIr (rest := []) SF (c_X10_within l D cy tz _ a1 (-1000) 1000 _ h) (cw_RX10_70 hts ⟨Nat.le_of_ble_eq_true rfl, Nat.le_of_ble_eq_true rfl⟩) rfl rfl hK hZ hA hP hD hS rfl hl.1 rfl (Nat.le_of_ble_eq_true rfl) dX10_isPlace_7 ⟨Nat.zero_le _, Nat.zero_le _⟩ (fun r1 H locs h hP hD hS => ?_)
  refine lv_if_eq (tgt := 30) hx hb dX10_isPlace_10 (by decide) (fun c3 => ?_) (fun c3 => ?_)
  · have h := h.1 c3
    refine lv_iconst (v := 0) hx hb dX10_isPlace_30 (by decide) ?_
    exact hret _ () _ _ _ _ rfl h hP hD hS dX10_isPlace_31
  · have h := h.2 c3
    refine lv_iload_n hx hb dX10_isPlace_13 rfl (lv_at hl 1 rfl) ?_
    refine lv_sipush (v := (-1000)) hx hb dX10_isPlace_14 (by decide) ?_
    refine lv_sipush (v := 1000) hx hb dX10_isPlace_17 (by decide) ?_
    refine callSIr (rest := []) SF (c_X10_within l D cy tz _ a2 (-1000) 1000 _ h) (cw_RX10_70 hts ⟨Nat.le_of_ble_eq_true rfl, Nat.le_of_ble_eq_true rfl⟩) rfl rfl hK hZ hA hP hD hS rfl hl.1 rfl (Nat.le_of_ble_eq_true rfl) dX10_isPlace_20 ⟨Nat.zero_le _, Nat.zero_le _⟩ (fun r4 H locs h hP hD hS => ?_)
    refine lv_if_eq (tgt := 30) hx hb dX10_isPlace_23 (by decide) (fun c6 => ?_) (fun c6 => ?_)
    · have h := h.1 c6
      refine lv_iconst (v := 0) hx hb dX10_isPlace_30 (by decide) ?_
      exact hret _ () _ _ _ _ rfl h hP hD hS dX10_isPlace_31
    · have h := h.2 c6
      refine lv_iconst (v := 1) hx hb dX10_isPlace_26 (by decide) ?_
      refine lv_goto (tgt := 31) hx hb dX10_isPlace_27 (by decide) ?_
      exact hret _ () _ _ _ _ rfl h hP hD hS dX10_isPlace_31
-- X10_rolled
def rm_X10_rolled : Room := { frames := 5, cells := 0, slots := 0, locals := 118 }
abbrev ws_X10_rolled : List Cond := .code yX10_rolled cX10_rolled 8 (some .int) :: wsL_law
theorem cw_RX10_204 {R : Room} {s : State} {args : Array Value} (hts : ∀ w ∈ wsL_law, w.before args s = true) (hR : rm_X10_isPlace.frames + 1 ≤ R.frames ∧ 8 + (2 + 11) + rm_X10_isPlace.locals ≤ R.locals) : CallB R s args RX10 204 yX10_isPlace cX10_isPlace 2 (some .boolean) ws_X10_isPlace rm_X10_isPlace rm_X10_isPlace.cells rm_X10_isPlace.slots 2 ∧ (Cond.static yX10_isPlace).before args s = true := va_cwS 2 hts (gdS w_25_14 w_25_15 w_1_2 w_25_16) rfl rfl rfl (by decide +kernel) hR
theorem cw_RX10_207 {R : Room} {s : State} {args : Array Value} (hts : ∀ w ∈ wsL_law, w.before args s = true) (hR : rm_X7_rub.frames + 1 ≤ R.frames ∧ 8 + (1 + 11) + rm_X7_rub.locals ≤ R.locals) : CallW R s args RX10 RX7 207 yX7_rub cX7_rub 1 (some .int) ws_X7_rub rm_X7_rub rm_X7_rub.cells rm_X7_rub.slots 0 := cwV 0 hts (gdV w_25_17 w_25_18 w_25_19 w_1_18 w_25_20) rfl rfl rfl (by decide +kernel) hR
theorem cw_RX10_210 {R : Room} {s : State} {args : Array Value} (hts : ∀ w ∈ wsL_law, w.before args s = true) (hR : rm_X0_rollOn.frames + 1 ≤ R.frames ∧ 8 + (15 + 11) + rm_X0_rollOn.locals ≤ R.locals) : CallW R s args RX10 RX0 210 yX0_rollOn cX0_rollOn 15 none ws_X0_rollOn rm_X0_rollOn rm_X0_rollOn.cells rm_X0_rollOn.slots 3 := cwV 3 hts (gdV w_25_21 w_25_22 w_25_23 w_2_3 w_26_0) rfl rfl rfl (by decide +kernel) hR
def wp_X10_rolled_L75 (post : Int32 → St → Prop) (K : St → Prop) (a5 : Int32) : Nat → St → Int32 → Prop
  | 0, _, _ => False
  | n75 + 1, t20, v19 => ((a5 ≤ v19) → (K t20)) ∧ ((¬ a5 ≤ v19) → (wp_X7_rub t20 (fun r22 => wp_X0_rollOn t20 v19 r22 (fun t25 => ∀ x26 : Int32, x26 = v19 + 1 → (wp_X10_rolled_L75 post K a5 n75 t25 x26)))))
def wp_X10_rolled (st : St) (a1 : Int32) (a2 : Int32) (a3 : Int32) (a4 : Int32) (a5 : Int32) (a6 : Int32) (post : Int32 → St → Prop) : Prop := wp_X10_isPlace a1 a2 (fun r1 => ((r1 = 0) → (post (-100000002) st)) ∧ ((¬ r1 = 0) → (wp_X10_isThrow a3 a4 (fun r4 => ((r4 = 0) → (post (-100000002) st)) ∧ ((¬ r4 = 0) → (wp_X10_isTick a5 (fun r7 => ((r7 = 0) → (post (-100000002) st)) ∧ ((¬ r7 = 0) → (wp_X10_within a6 0 1 (fun r10 => ((¬ r10 = 0) → (wp_X7_pace st (fun r13 => wp_X5_run st r13 (fun t16 => wp_X0_launch t16 a1 a2 a3 a4 (fun t18 => ∃ m75 : Nat, wp_X10_rolled_L75 post (fun t28 => ((¬ a6 = 0) → (post ((gL t28 1).toInt32) t28)) ∧ ((a6 = 0) → (post ((gL t28 0).toInt32) t28))) a5 m75 t18 0))))) ∧ ((r10 = 0) → (post (-100000002) st))))))))))))
set_option maxHeartbeats 4000000 in
set_option maxRecDepth 100000 in
theorem c_X10_rolled (l : Launch) (D : va_G) (cy : Nat → ClassId) (tz : Nat → Nat) (ad : Nat → Nat) (st : St) (a1 : Int32) (a2 : Int32) (a3 : Int32) (a4 : Int32) (a5 : Int32) (a6 : Int32) (post : Int32 → St → Prop) (h : wp_X10_rolled st a1 a2 a3 a4 a5 a6 post) : CtI l D cy tz yX10_rolled ws_X10_rolled rm_X10_rolled [.ref (ad 0), .int a1, .int a2, .int a3, .int a4, .int a5, .int a6] (wX cy ad st) (wX cy ad) post := by
  refine CtI.of (own := RX10) (nm := "rolled") (lv := [(0, .ref (ad 0)), (1, .int a1), (2, .int a2), (3, .int a3), (4, .int a4), (5, .int a5), (6, .int a6)]) (plainFor_of_name (by decide)) rfl rfl (Nat.le_of_ble_eq_true rfl) rfl ?_
  intro p e s m args below meth c A Q ls B hP hD hS hl hret
  obtain ⟨hx, hb, hml, hown, hts, hK, hZ, hA, hnm⟩ := B
  have SF : CallFix p m c cX10_rolled 8 s args wsL_law RX10 := ⟨hx, hb, hml, hown, hts⟩
  unfold wp_X10_rolled at h
  refine lv_iload_n hx hb dX10_rolled_0 rfl (lv_at hl 1 rfl) ?_
  refine lv_iload_n hx hb dX10_rolled_1 rfl (lv_at hl 2 rfl) ?_
  refine callSIr (rest := []) SF (c_X10_isPlace l D cy tz _ a1 a2 _ h) (cw_RX10_204 hts ⟨Nat.le_of_ble_eq_true rfl, Nat.le_of_ble_eq_true rfl⟩) rfl rfl hK hZ hA hP hD hS rfl hl.1 rfl (Nat.le_of_ble_eq_true rfl) dX10_rolled_2 ⟨Nat.zero_le _, Nat.zero_le _⟩ (fun r1 H locs h hP hD hS => ?_)
  refine lv_if_eq (tgt := 35) hx hb dX10_rolled_5 (by decide) (fun c3 => ?_) (fun c3 => ?_)
  · have h := h.1 c3
    refine lv_ldc (v := (-100000002)) hx hb hown (hts _ w_14_19) dX10_rolled_35 ?_
    exact hret _ _ _ _ _ _ rfl h hP hD hS dX10_rolled_37
  · have h := h.2 c3
    refine lv_iload_n hx hb dX10_rolled_8 rfl (lv_at hl 3 rfl) ?_
    refine lv_iload hx hb dX10_rolled_9 (lv_at hl 4 rfl) ?_
    refine callSIr (rest := []) SF (c_X10_isThrow l D cy tz _ a3 a4 _ h) (cw_RX10_149 hts ⟨Nat.le_of_ble_eq_true rfl, Nat.le_of_ble_eq_true rfl⟩) rfl rfl hK hZ hA hP hD hS rfl hl.1 rfl (Nat.le_of_ble_eq_true rfl) dX10_rolled_11 ⟨Nat.zero_le _, Nat.zero_le _⟩ (fun r4 H locs h hP hD hS => ?_)
    refine lv_if_eq (tgt := 35) hx hb dX10_rolled_14 (by decide) (fun c6 => ?_) (fun c6 => ?_)
    · have h := h.1 c6
      refine lv_ldc (v := (-100000002)) hx hb hown (hts _ w_14_19) dX10_rolled_35 ?_
      exact hret _ _ _ _ _ _ rfl h hP hD hS dX10_rolled_37
    · have h := h.2 c6
      refine lv_iload hx hb dX10_rolled_17 (lv_at hl 5 rfl) ?_
      refine callSIr (rest := []) SF (c_X10_isTick l D cy tz _ a5 _ h) (cw_RX10_99 hts ⟨Nat.le_of_ble_eq_true rfl, Nat.le_of_ble_eq_true rfl⟩) rfl rfl hK hZ hA hP hD hS rfl hl.1 rfl (Nat.le_of_ble_eq_true rfl) dX10_rolled_19 ⟨Nat.zero_le _, Nat.zero_le _⟩ (fun r7 H locs h hP hD hS => ?_)
      refine lv_if_eq (tgt := 35) hx hb dX10_rolled_22 (by decide) (fun c9 => ?_) (fun c9 => ?_)
      · have h := h.1 c9
        refine lv_ldc (v := (-100000002)) hx hb hown (hts _ w_14_19) dX10_rolled_35 ?_
        exact hret _ _ _ _ _ _ rfl h hP hD hS dX10_rolled_37
      · have h := h.2 c9
        refine lv_iload hx hb dX10_rolled_25 (lv_at hl 6 rfl) ?_
        refine lv_iconst (v := 0) hx hb dX10_rolled_27 (by decide) ?_
        refine lv_iconst (v := 1) hx hb dX10_rolled_28 (by decide) ?_
        refine callSIr (rest := []) SF (c_X10_within l D cy tz _ a6 0 1 _ h) (cw_RX10_70 hts ⟨Nat.le_of_ble_eq_true rfl, Nat.le_of_ble_eq_true rfl⟩) rfl rfl hK hZ hA hP hD hS rfl hl.1 rfl (Nat.le_of_ble_eq_true rfl) dX10_rolled_29 ⟨Nat.zero_le _, Nat.zero_le _⟩ (fun r10 H locs h hP hD hS => ?_)
        refine lv_if_ne (tgt := 38) hx hb dX10_rolled_32 (by decide) (fun c12 => ?_) (fun c12 => ?_)
        · have h := h.1 c12
          refine lv_aload_n hx hb dX10_rolled_38 rfl (lv_at hl 0 rfl) ?_
          refine va_get (D := D) (ci := 9) (v := .ref (ad 13)) (C := RX10) (T := TX10) (N := 8) hx hb hts inlX10 hown hK hP 0 rfl rfl 3 (by decide) (hts _ w_2_0) (fun _ h9 => h9) rfl dX10_rolled_39 ?_
          refine lv_aload_n hx hb dX10_rolled_42 rfl (lv_at hl 0 rfl) ?_
          refine va_get (D := D) (ci := 9) (v := .ref (ad 3)) (C := RX10) (T := TX10) (N := 8) hx hb hts inlX10 hown hK hP 0 rfl rfl 1 (by decide) (hts _ w_1_19) (fun _ h9 => h9) rfl dX10_rolled_43 ?_
          refine lv_aload_n hx hb dX10_rolled_46 rfl (lv_at hl 0 rfl) ?_
          refine va_get (D := D) (ci := 9) (v := .ref (ad 3)) (C := RX10) (T := TX10) (N := 8) hx hb hts inlX10 hown hK hP 0 rfl rfl 1 (by decide) (hts _ w_1_19) (fun _ h9 => h9) rfl dX10_rolled_47 ?_
          refine callVIr (rest := [.ref (ad 3), .ref (ad 13)]) SF (c_X7_pace l D cy tz ad st _ h) (cw_RX10_102 hts ⟨Nat.le_of_ble_eq_true rfl, Nat.le_of_ble_eq_true rfl⟩) rfl rfl (va_recv hK hP (ci := 7) (q0 := 3) rfl rfl) hK hZ hA hP hD hS rfl hl.1 rfl (Nat.le_of_ble_eq_true rfl) dX10_rolled_50 ⟨Nat.zero_le _, Nat.zero_le _⟩ (fun r13 H locs h hP hD hS => ?_)
          refine callVV (rest := []) SF (c_X5_run l D cy tz ad st r13 _ h) (cw_RX10_105 hts ⟨Nat.le_of_ble_eq_true rfl, Nat.le_of_ble_eq_true rfl⟩) rfl rfl (va_recv hK hP (ci := 5) (q0 := 13) rfl rfl) hK hZ hA hP hD hS rfl hl.1 rfl (Nat.le_of_ble_eq_true rfl) dX10_rolled_53 ⟨Nat.zero_le _, Nat.zero_le _⟩ (fun t16 H locs h hP hD hS => ?_)
          refine lv_aload_n hx hb dX10_rolled_56 rfl (lv_at hl 0 rfl) ?_
          refine va_get (D := D) (ci := 9) (v := .ref (ad 16)) (C := RX10) (T := TX10) (N := 8) hx hb hts inlX10 hown hK hP 0 rfl rfl 4 (by decide) (hts _ w_2_4) (fun _ h9 => h9) rfl dX10_rolled_57 ?_
          refine lv_iload_n hx hb dX10_rolled_60 rfl (lv_at hl 1 rfl) ?_
          refine lv_iload_n hx hb dX10_rolled_61 rfl (lv_at hl 2 rfl) ?_
          refine lv_iload_n hx hb dX10_rolled_62 rfl (lv_at hl 3 rfl) ?_
          refine lv_iload hx hb dX10_rolled_63 (lv_at hl 4 rfl) ?_
          refine lv_aload_n hx hb dX10_rolled_65 rfl (lv_at hl 0 rfl) ?_
          refine va_get (D := D) (ci := 9) (v := .ref (ad 13)) (C := RX10) (T := TX10) (N := 8) hx hb hts inlX10 hown hK hP 0 rfl rfl 3 (by decide) (hts _ w_2_0) (fun _ h9 => h9) rfl dX10_rolled_66 ?_
          refine callVV (rest := []) SF (c_X0_launch l D cy tz ad t16 a1 a2 a3 a4 _ h) (cw_RX10_152 hts ⟨Nat.le_of_ble_eq_true rfl, Nat.le_of_ble_eq_true rfl⟩) rfl rfl (va_recv hK hP (ci := 0) (q0 := 16) rfl rfl) hK hZ hA hP hD hS rfl hl.1 rfl (Nat.le_of_ble_eq_true rfl) dX10_rolled_69 ⟨Nat.zero_le _, Nat.zero_le _⟩ (fun t18 H locs h hP hD hS => ?_)
          refine lv_iconst (v := 0) hx hb dX10_rolled_72 (by decide) ?_
          refine lv_istore (lv' := [(7, .int 0), (0, .ref (ad 0)), (1, .int a1), (2, .int a2), (3, .int a3), (4, .int a4), (5, .int a5), (6, .int a6)]) hx hb dX10_rolled_73 hl (by decide) rfl (fun ls hl => ?_)
          have loop75 : ∀ (K : St → Prop), (∀ (t28 : St) (H : Heap) (locs : List Loc) (ls : Array Slot), K t28 → va_P D vwCl (wX cy ad t28) H → va_D A (wX cy ad t28) → va_S A s.heap H locs → lv_has ls 8 [(0, .ref (ad 0)), (6, .int a6)] → W p l e rm_X10_rolled s m args below meth c H locs 0 0 Q (F0 m 108 ls [])) → ∀ (n : Nat) (t20 : St) (v19 : Int32) (H : Heap) (locs : List Loc) (ls : Array Slot), wp_X10_rolled_L75 post K a5 n t20 v19 → va_P D vwCl (wX cy ad t20) H → va_D A (wX cy ad t20) → va_S A s.heap H locs → lv_has ls 8 [(0, .ref (ad 0)), (5, .int a5), (6, .int a6), (7, .int v19)] → W p l e rm_X10_rolled s m args below meth c H locs 0 0 Q (F0 m 75 ls []) := by
            intro K hE75 n
            induction n with
            | zero => intro t20 v19 H locs ls h; exact h.elim
            | succ n ih75 =>
              intro t20 v19 H locs ls h hP hD hS hl
              rw [wp_X10_rolled_L75] at h
              refine lv_iload hx hb dX10_rolled_75 (lv_at hl 3 rfl) ?_
              refine lv_iload hx hb dX10_rolled_77 (lv_at hl 1 rfl) ?_
              refine lv_icmp_ge (tgt := 108) hx hb dX10_rolled_79 (by decide) (fun c21 => ?_) (fun c21 => ?_)
              · have h := h.1 c21
                exact hE75 _ _ _ _ h hP hD hS (lv_sub hl [0, 2] rfl)
              · have h := h.2 c21
                refine lv_aload_n hx hb dX10_rolled_82 rfl (lv_at hl 0 rfl) ?_
                refine va_get (D := D) (ci := 9) (v := .ref (ad 16)) (C := RX10) (T := TX10) (N := 8) hx hb hts inlX10 hown hK hP 0 rfl rfl 4 (by decide) (hts _ w_2_4) (fun _ h9 => h9) rfl dX10_rolled_83 ?_
                refine lv_iload hx hb dX10_rolled_86 (lv_at hl 3 rfl) ?_
                refine lv_aload_n hx hb dX10_rolled_88 rfl (lv_at hl 0 rfl) ?_
                refine va_get (D := D) (ci := 9) (v := .ref (ad 3)) (C := RX10) (T := TX10) (N := 8) hx hb hts inlX10 hown hK hP 0 rfl rfl 1 (by decide) (hts _ w_1_19) (fun _ h9 => h9) rfl dX10_rolled_89 ?_
                refine callVIr (rest := [.int v19, .ref (ad 16)]) SF (c_X7_rub l D cy tz ad t20 _ h) (cw_RX10_207 hts ⟨Nat.le_of_ble_eq_true rfl, Nat.le_of_ble_eq_true rfl⟩) rfl rfl (va_recv hK hP (ci := 7) (q0 := 3) rfl rfl) hK hZ hA hP hD hS rfl hl.1 rfl (Nat.le_of_ble_eq_true rfl) dX10_rolled_92 ⟨Nat.zero_le _, Nat.zero_le _⟩ (fun r22 H locs h hP hD hS => ?_)
                refine lv_aload_n hx hb dX10_rolled_95 rfl (lv_at hl 0 rfl) ?_
                refine va_get (D := D) (ci := 9) (v := .ref (ad 13)) (C := RX10) (T := TX10) (N := 8) hx hb hts inlX10 hown hK hP 0 rfl rfl 3 (by decide) (hts _ w_2_0) (fun _ h9 => h9) rfl dX10_rolled_96 ?_
                refine callVV (rest := []) SF (c_X0_rollOn l D cy tz ad t20 v19 r22 _ h) (cw_RX10_210 hts ⟨Nat.le_of_ble_eq_true rfl, Nat.le_of_ble_eq_true rfl⟩) rfl rfl (va_recv hK hP (ci := 0) (q0 := 16) rfl rfl) hK hZ hA hP hD hS rfl hl.1 rfl (Nat.le_of_ble_eq_true rfl) dX10_rolled_99 ⟨Nat.zero_le _, Nat.zero_le _⟩ (fun t25 H locs h hP hD hS => ?_)
                obtain ⟨x26, e27⟩ : ∃ z : Int32, z = v19 + 1 := ⟨_, rfl⟩
                have h := h x26 e27
                refine lv_iinc (v := x26) (lv' := [(7, .int x26), (0, .ref (ad 0)), (5, .int a5), (6, .int a6)]) hx hb dX10_rolled_102 hl (k := 3) rfl (by rw [e27]; rfl) (by decide) rfl (fun ls hl => ?_)
                refine lv_goto (tgt := 75) hx hb dX10_rolled_105 (by decide) ?_
                exact ih75 _ _ _ _ _ h hP hD hS (lv_sub hl [1, 2, 3, 0] rfl)
          obtain ⟨n, h⟩ := h
          refine loop75 _ ?_ n _ _ _ _ _ h hP hD hS (lv_sub hl [1, 6, 7, 0] rfl)
          intro t28 H locs ls h hP hD hS hl
          refine lv_iload hx hb dX10_rolled_108 (lv_at hl 1 rfl) ?_
          refine lv_if_ne (tgt := 123) hx hb dX10_rolled_110 (by decide) (fun c29 => ?_) (fun c29 => ?_)
          · have h := h.1 c29
            refine lv_aload_n hx hb dX10_rolled_123 rfl (lv_at hl 0 rfl) ?_
            refine va_get (D := D) (ci := 9) (v := .ref (ad 16)) (C := RX10) (T := TX10) (N := 8) hx hb hts inlX10 hown hK hP 0 rfl rfl 4 (by decide) (hts _ w_2_4) (fun _ h9 => h9) rfl dX10_rolled_124 ?_
            refine va_get (D := D) (ci := 0) (v := .long (gL t28 1)) (C := RX0) (T := TX0) (N := 6) hx hb hts inlX0 hown hK hP 16 rfl rfl 1 (by decide) (hts _ w_25_13) (fun _ h9 => h9) rfl dX10_rolled_127 ?_
            refine lv_l2i (v := (gL t28 1).toInt32) hx hb dX10_rolled_130 rfl ?_
            exact hret _ _ _ _ _ _ rfl h hP hD hS dX10_rolled_131
          · have h := h.2 c29
            refine lv_aload_n hx hb dX10_rolled_113 rfl (lv_at hl 0 rfl) ?_
            refine va_get (D := D) (ci := 9) (v := .ref (ad 16)) (C := RX10) (T := TX10) (N := 8) hx hb hts inlX10 hown hK hP 0 rfl rfl 4 (by decide) (hts _ w_2_4) (fun _ h9 => h9) rfl dX10_rolled_114 ?_
            refine va_get (D := D) (ci := 0) (v := .long (gL t28 0)) (C := RX0) (T := TX0) (N := 6) hx hb hts inlX0 hown hK hP 16 rfl rfl 0 (by decide) (hts _ w_25_12) (fun _ h9 => h9) rfl dX10_rolled_117 ?_
            refine lv_goto (tgt := 130) hx hb dX10_rolled_120 (by decide) ?_
            refine lv_l2i (v := (gL t28 0).toInt32) hx hb dX10_rolled_130 rfl ?_
            exact hret _ _ _ _ _ _ rfl h hP hD hS dX10_rolled_131
        · have h := h.2 c12
          refine lv_ldc (v := (-100000002)) hx hb hown (hts _ w_14_19) dX10_rolled_35 ?_
          exact hret _ _ _ _ _ _ rfl h hP hD hS dX10_rolled_37
-- X10_off
def rm_X10_off : Room := { frames := 5, cells := 0, slots := 0, locals := 118 }
abbrev ws_X10_off : List Cond := .code yX10_off cX10_off 6 (some .int) :: wsL_law
theorem cw_RX10_220 {R : Room} {s : State} {args : Array Value} (hts : ∀ w ∈ wsL_law, w.before args s = true) (hR : rm_X7_rim.frames + 1 ≤ R.frames ∧ 8 + (1 + 11) + rm_X7_rim.locals ≤ R.locals) : CallW R s args RX10 RX7 220 yX7_rim cX7_rim 1 (some .int) ws_X7_rim rm_X7_rim rm_X7_rim.cells rm_X7_rim.slots 0 := cwV 0 hts (gdV w_27_1 w_27_2 w_27_3 w_1_18 w_27_4) rfl rfl rfl (by decide +kernel) hR
theorem cw_RX10_223 {R : Room} {s : State} {args : Array Value} (hts : ∀ w ∈ wsL_law, w.before args s = true) (hR : rm_X0_isBeyond.frames + 1 ≤ R.frames ∧ 8 + (3 + 11) + rm_X0_isBeyond.locals ≤ R.locals) : CallW R s args RX10 RX0 223 yX0_isBeyond cX0_isBeyond 3 (some .boolean) ws_X0_isBeyond rm_X0_isBeyond rm_X0_isBeyond.cells rm_X0_isBeyond.slots 1 := cwV 1 hts (gdV w_27_5 w_27_6 w_27_7 w_2_3 w_27_8) rfl rfl rfl (by decide +kernel) hR
def wp_X10_off_L57 (post : Int32 → St → Prop) (K : St → Prop) : Nat → St → Int32 → Prop
  | 0, _, _ => False
  | n57 + 1, t14, v13 => ((60 < v13) → (K t14)) ∧ ((¬ 60 < v13) → (wp_X7_rim t14 (fun r16 => wp_X0_isBeyond t14 r16.toInt64 (fun r18 => ((r18 = 0) → (((60 ≤ v13) → (∀ x22 : Int32, x22 = v13 + 1 → (wp_X10_off_L57 post K n57 t14 x22))) ∧ ((¬ 60 ≤ v13) → (wp_X7_rub t14 (fun r24 => wp_X0_rollOn t14 v13 r24 (fun t27 => ∀ x28 : Int32, x28 = v13 + 1 → (wp_X10_off_L57 post K n57 t27 x28))))))) ∧ ((¬ r18 = 0) → (post v13 t14))))))
def wp_X10_off (st : St) (a1 : Int32) (a2 : Int32) (a3 : Int32) (a4 : Int32) (post : Int32 → St → Prop) : Prop := wp_X10_isPlace a1 a2 (fun r1 => ((r1 = 0) → (post (-2) st)) ∧ ((¬ r1 = 0) → (wp_X10_isThrow a3 a4 (fun r4 => ((¬ r4 = 0) → (wp_X7_pace st (fun r7 => wp_X5_run st r7 (fun t10 => wp_X0_launch t10 a1 a2 a3 a4 (fun t12 => ∃ m57 : Nat, wp_X10_off_L57 post (fun t30 => post (-6) t30) m57 t12 0))))) ∧ ((r4 = 0) → (post (-2) st))))))
set_option maxHeartbeats 4000000 in
set_option maxRecDepth 100000 in
theorem c_X10_off (l : Launch) (D : va_G) (cy : Nat → ClassId) (tz : Nat → Nat) (ad : Nat → Nat) (st : St) (a1 : Int32) (a2 : Int32) (a3 : Int32) (a4 : Int32) (post : Int32 → St → Prop) (h : wp_X10_off st a1 a2 a3 a4 post) : CtI l D cy tz yX10_off ws_X10_off rm_X10_off [.ref (ad 0), .int a1, .int a2, .int a3, .int a4] (wX cy ad st) (wX cy ad) post := by
  refine CtI.of (own := RX10) (nm := "off") (lv := [(0, .ref (ad 0)), (1, .int a1), (2, .int a2), (3, .int a3), (4, .int a4)]) (plainFor_of_name (by decide)) rfl rfl (Nat.le_of_ble_eq_true rfl) rfl ?_
  intro p e s m args below meth c A Q ls B hP hD hS hl hret
  obtain ⟨hx, hb, hml, hown, hts, hK, hZ, hA, hnm⟩ := B
  have SF : CallFix p m c cX10_off 6 s args wsL_law RX10 := ⟨hx, hb, hml, hown, hts⟩
  unfold wp_X10_off at h
  refine lv_iload_n hx hb dX10_off_0 rfl (lv_at hl 1 rfl) ?_
  refine lv_iload_n hx hb dX10_off_1 rfl (lv_at hl 2 rfl) ?_
  refine callSIr (rest := []) SF (c_X10_isPlace l D cy tz _ a1 a2 _ h) (cw_RX10_204 hts ⟨Nat.le_of_ble_eq_true rfl, Nat.le_of_ble_eq_true rfl⟩) rfl rfl hK hZ hA hP hD hS rfl hl.1 rfl (Nat.le_of_ble_eq_true rfl) dX10_off_2 ⟨Nat.zero_le _, Nat.zero_le _⟩ (fun r1 H locs h hP hD hS => ?_)
  refine lv_if_eq (tgt := 17) hx hb dX10_off_5 (by decide) (fun c3 => ?_) (fun c3 => ?_)
  · have h := h.1 c3
    refine lv_bipush (v := (-2)) hx hb dX10_off_17 (by decide) ?_
    exact hret _ _ _ _ _ _ rfl h hP hD hS dX10_off_19
  · have h := h.2 c3
    refine lv_iload_n hx hb dX10_off_8 rfl (lv_at hl 3 rfl) ?_
    refine lv_iload hx hb dX10_off_9 (lv_at hl 4 rfl) ?_
    refine callSIr (rest := []) SF (c_X10_isThrow l D cy tz _ a3 a4 _ h) (cw_RX10_149 hts ⟨Nat.le_of_ble_eq_true rfl, Nat.le_of_ble_eq_true rfl⟩) rfl rfl hK hZ hA hP hD hS rfl hl.1 rfl (Nat.le_of_ble_eq_true rfl) dX10_off_11 ⟨Nat.zero_le _, Nat.zero_le _⟩ (fun r4 H locs h hP hD hS => ?_)
    refine lv_if_ne (tgt := 20) hx hb dX10_off_14 (by decide) (fun c6 => ?_) (fun c6 => ?_)
    · have h := h.1 c6
      refine lv_aload_n hx hb dX10_off_20 rfl (lv_at hl 0 rfl) ?_
      refine va_get (D := D) (ci := 9) (v := .ref (ad 13)) (C := RX10) (T := TX10) (N := 8) hx hb hts inlX10 hown hK hP 0 rfl rfl 3 (by decide) (hts _ w_2_0) (fun _ h9 => h9) rfl dX10_off_21 ?_
      refine lv_aload_n hx hb dX10_off_24 rfl (lv_at hl 0 rfl) ?_
      refine va_get (D := D) (ci := 9) (v := .ref (ad 3)) (C := RX10) (T := TX10) (N := 8) hx hb hts inlX10 hown hK hP 0 rfl rfl 1 (by decide) (hts _ w_1_19) (fun _ h9 => h9) rfl dX10_off_25 ?_
      refine lv_aload_n hx hb dX10_off_28 rfl (lv_at hl 0 rfl) ?_
      refine va_get (D := D) (ci := 9) (v := .ref (ad 3)) (C := RX10) (T := TX10) (N := 8) hx hb hts inlX10 hown hK hP 0 rfl rfl 1 (by decide) (hts _ w_1_19) (fun _ h9 => h9) rfl dX10_off_29 ?_
      refine callVIr (rest := [.ref (ad 3), .ref (ad 13)]) SF (c_X7_pace l D cy tz ad st _ h) (cw_RX10_102 hts ⟨Nat.le_of_ble_eq_true rfl, Nat.le_of_ble_eq_true rfl⟩) rfl rfl (va_recv hK hP (ci := 7) (q0 := 3) rfl rfl) hK hZ hA hP hD hS rfl hl.1 rfl (Nat.le_of_ble_eq_true rfl) dX10_off_32 ⟨Nat.zero_le _, Nat.zero_le _⟩ (fun r7 H locs h hP hD hS => ?_)
      refine callVV (rest := []) SF (c_X5_run l D cy tz ad st r7 _ h) (cw_RX10_105 hts ⟨Nat.le_of_ble_eq_true rfl, Nat.le_of_ble_eq_true rfl⟩) rfl rfl (va_recv hK hP (ci := 5) (q0 := 13) rfl rfl) hK hZ hA hP hD hS rfl hl.1 rfl (Nat.le_of_ble_eq_true rfl) dX10_off_35 ⟨Nat.zero_le _, Nat.zero_le _⟩ (fun t10 H locs h hP hD hS => ?_)
      refine lv_aload_n hx hb dX10_off_38 rfl (lv_at hl 0 rfl) ?_
      refine va_get (D := D) (ci := 9) (v := .ref (ad 16)) (C := RX10) (T := TX10) (N := 8) hx hb hts inlX10 hown hK hP 0 rfl rfl 4 (by decide) (hts _ w_2_4) (fun _ h9 => h9) rfl dX10_off_39 ?_
      refine lv_iload_n hx hb dX10_off_42 rfl (lv_at hl 1 rfl) ?_
      refine lv_iload_n hx hb dX10_off_43 rfl (lv_at hl 2 rfl) ?_
      refine lv_iload_n hx hb dX10_off_44 rfl (lv_at hl 3 rfl) ?_
      refine lv_iload hx hb dX10_off_45 (lv_at hl 4 rfl) ?_
      refine lv_aload_n hx hb dX10_off_47 rfl (lv_at hl 0 rfl) ?_
      refine va_get (D := D) (ci := 9) (v := .ref (ad 13)) (C := RX10) (T := TX10) (N := 8) hx hb hts inlX10 hown hK hP 0 rfl rfl 3 (by decide) (hts _ w_2_0) (fun _ h9 => h9) rfl dX10_off_48 ?_
      refine callVV (rest := []) SF (c_X0_launch l D cy tz ad t10 a1 a2 a3 a4 _ h) (cw_RX10_152 hts ⟨Nat.le_of_ble_eq_true rfl, Nat.le_of_ble_eq_true rfl⟩) rfl rfl (va_recv hK hP (ci := 0) (q0 := 16) rfl rfl) hK hZ hA hP hD hS rfl hl.1 rfl (Nat.le_of_ble_eq_true rfl) dX10_off_51 ⟨Nat.zero_le _, Nat.zero_le _⟩ (fun t12 H locs h hP hD hS => ?_)
      refine lv_iconst (v := 0) hx hb dX10_off_54 (by decide) ?_
      refine lv_istore (lv' := [(5, .int 0), (0, .ref (ad 0)), (1, .int a1), (2, .int a2), (3, .int a3), (4, .int a4)]) hx hb dX10_off_55 hl (by decide) rfl (fun ls hl => ?_)
      have loop57 : ∀ (K : St → Prop), (∀ (t30 : St) (H : Heap) (locs : List Loc) (ls : Array Slot), K t30 → va_P D vwCl (wX cy ad t30) H → va_D A (wX cy ad t30) → va_S A s.heap H locs → lv_has ls 6 [] → W p l e rm_X10_off s m args below meth c H locs 0 0 Q (F0 m 118 ls [])) → ∀ (n : Nat) (t14 : St) (v13 : Int32) (H : Heap) (locs : List Loc) (ls : Array Slot), wp_X10_off_L57 post K n t14 v13 → va_P D vwCl (wX cy ad t14) H → va_D A (wX cy ad t14) → va_S A s.heap H locs → lv_has ls 6 [(0, .ref (ad 0)), (5, .int v13)] → W p l e rm_X10_off s m args below meth c H locs 0 0 Q (F0 m 57 ls []) := by
        intro K hE57 n
        induction n with
        | zero => intro t14 v13 H locs ls h; exact h.elim
        | succ n ih57 =>
          intro t14 v13 H locs ls h hP hD hS hl
          rw [wp_X10_off_L57] at h
          refine lv_iload hx hb dX10_off_57 (lv_at hl 1 rfl) ?_
          refine lv_bipush (v := 60) hx hb dX10_off_59 (by decide) ?_
          refine lv_icmp_gt (tgt := 118) hx hb dX10_off_61 (by decide) (fun c15 => ?_) (fun c15 => ?_)
          · have h := h.1 c15
            exact hE57 _ _ _ _ h hP hD hS (lv_sub hl [] rfl)
          · have h := h.2 c15
            refine lv_aload_n hx hb dX10_off_64 rfl (lv_at hl 0 rfl) ?_
            refine va_get (D := D) (ci := 9) (v := .ref (ad 16)) (C := RX10) (T := TX10) (N := 8) hx hb hts inlX10 hown hK hP 0 rfl rfl 4 (by decide) (hts _ w_2_4) (fun _ h9 => h9) rfl dX10_off_65 ?_
            refine lv_aload_n hx hb dX10_off_68 rfl (lv_at hl 0 rfl) ?_
            refine va_get (D := D) (ci := 9) (v := .ref (ad 3)) (C := RX10) (T := TX10) (N := 8) hx hb hts inlX10 hown hK hP 0 rfl rfl 1 (by decide) (hts _ w_1_19) (fun _ h9 => h9) rfl dX10_off_69 ?_
            refine callVIr (rest := [.ref (ad 16)]) SF (c_X7_rim l D cy tz ad t14 _ h) (cw_RX10_220 hts ⟨Nat.le_of_ble_eq_true rfl, Nat.le_of_ble_eq_true rfl⟩) rfl rfl (va_recv hK hP (ci := 7) (q0 := 3) rfl rfl) hK hZ hA hP hD hS rfl hl.1 rfl (Nat.le_of_ble_eq_true rfl) dX10_off_72 ⟨Nat.zero_le _, Nat.zero_le _⟩ (fun r16 H locs h hP hD hS => ?_)
            refine lv_i2l (v := r16.toInt64) hx hb dX10_off_75 rfl ?_
            refine callVIr (rest := []) SF (c_X0_isBeyond l D cy tz ad t14 r16.toInt64 _ h) (cw_RX10_223 hts ⟨Nat.le_of_ble_eq_true rfl, Nat.le_of_ble_eq_true rfl⟩) rfl rfl (va_recv hK hP (ci := 0) (q0 := 16) rfl rfl) hK hZ hA hP hD hS rfl hl.1 rfl (Nat.le_of_ble_eq_true rfl) dX10_off_76 ⟨Nat.zero_le _, Nat.zero_le _⟩ (fun r18 H locs h hP hD hS => ?_)
            refine lv_if_eq (tgt := 85) hx hb dX10_off_79 (by decide) (fun c20 => ?_) (fun c20 => ?_)
            · have h := h.1 c20
              refine lv_iload hx hb dX10_off_85 (lv_at hl 1 rfl) ?_
              refine lv_bipush (v := 60) hx hb dX10_off_87 (by decide) ?_
              refine lv_icmp_ge (tgt := 112) hx hb dX10_off_89 (by decide) (fun c21 => ?_) (fun c21 => ?_)
              · have h := h.1 c21
                obtain ⟨x22, e23⟩ : ∃ z : Int32, z = v13 + 1 := ⟨_, rfl⟩
                have h := h x22 e23
                refine lv_iinc (v := x22) (lv' := [(5, .int x22), (0, .ref (ad 0))]) hx hb dX10_off_112 hl (k := 1) rfl (by rw [e23]; rfl) (by decide) rfl (fun ls hl => ?_)
                refine lv_goto (tgt := 57) hx hb dX10_off_115 (by decide) ?_
                exact ih57 _ _ _ _ _ h hP hD hS (lv_sub hl [1, 0] rfl)
              · have h := h.2 c21
                refine lv_aload_n hx hb dX10_off_92 rfl (lv_at hl 0 rfl) ?_
                refine va_get (D := D) (ci := 9) (v := .ref (ad 16)) (C := RX10) (T := TX10) (N := 8) hx hb hts inlX10 hown hK hP 0 rfl rfl 4 (by decide) (hts _ w_2_4) (fun _ h9 => h9) rfl dX10_off_93 ?_
                refine lv_iload hx hb dX10_off_96 (lv_at hl 1 rfl) ?_
                refine lv_aload_n hx hb dX10_off_98 rfl (lv_at hl 0 rfl) ?_
                refine va_get (D := D) (ci := 9) (v := .ref (ad 3)) (C := RX10) (T := TX10) (N := 8) hx hb hts inlX10 hown hK hP 0 rfl rfl 1 (by decide) (hts _ w_1_19) (fun _ h9 => h9) rfl dX10_off_99 ?_
                refine callVIr (rest := [.int v13, .ref (ad 16)]) SF (c_X7_rub l D cy tz ad t14 _ h) (cw_RX10_207 hts ⟨Nat.le_of_ble_eq_true rfl, Nat.le_of_ble_eq_true rfl⟩) rfl rfl (va_recv hK hP (ci := 7) (q0 := 3) rfl rfl) hK hZ hA hP hD hS rfl hl.1 rfl (Nat.le_of_ble_eq_true rfl) dX10_off_102 ⟨Nat.zero_le _, Nat.zero_le _⟩ (fun r24 H locs h hP hD hS => ?_)
                refine lv_aload_n hx hb dX10_off_105 rfl (lv_at hl 0 rfl) ?_
                refine va_get (D := D) (ci := 9) (v := .ref (ad 13)) (C := RX10) (T := TX10) (N := 8) hx hb hts inlX10 hown hK hP 0 rfl rfl 3 (by decide) (hts _ w_2_0) (fun _ h9 => h9) rfl dX10_off_106 ?_
                refine callVV (rest := []) SF (c_X0_rollOn l D cy tz ad t14 v13 r24 _ h) (cw_RX10_210 hts ⟨Nat.le_of_ble_eq_true rfl, Nat.le_of_ble_eq_true rfl⟩) rfl rfl (va_recv hK hP (ci := 0) (q0 := 16) rfl rfl) hK hZ hA hP hD hS rfl hl.1 rfl (Nat.le_of_ble_eq_true rfl) dX10_off_109 ⟨Nat.zero_le _, Nat.zero_le _⟩ (fun t27 H locs h hP hD hS => ?_)
                obtain ⟨x28, e29⟩ : ∃ z : Int32, z = v13 + 1 := ⟨_, rfl⟩
                have h := h x28 e29
                refine lv_iinc (v := x28) (lv' := [(5, .int x28), (0, .ref (ad 0))]) hx hb dX10_off_112 hl (k := 1) rfl (by rw [e29]; rfl) (by decide) rfl (fun ls hl => ?_)
                refine lv_goto (tgt := 57) hx hb dX10_off_115 (by decide) ?_
                exact ih57 _ _ _ _ _ h hP hD hS (lv_sub hl [1, 0] rfl)
            · have h := h.2 c20
              refine lv_iload hx hb dX10_off_82 (lv_at hl 1 rfl) ?_
              exact hret _ _ _ _ _ _ rfl h hP hD hS dX10_off_84
      obtain ⟨n, h⟩ := h
      refine loop57 _ ?_ n _ _ _ _ _ h hP hD hS (lv_sub hl [1, 0] rfl)
      intro t30 H locs ls h hP hD hS hl
      refine lv_bipush (v := (-6)) hx hb dX10_off_118 (by decide) ?_
      exact hret _ _ _ _ _ _ rfl h hP hD hS dX10_off_120
    · have h := h.2 c6
      refine lv_bipush (v := (-2)) hx hb dX10_off_17 (by decide) ?_
      exact hret _ _ _ _ _ _ rfl h hP hD hS dX10_off_19
-- X10_lean
def rm_X10_lean : Room := { frames := 0, cells := 0, slots := 0, locals := 0 }
abbrev ws_X10_lean : List Cond := .code yX10_lean cX10_lean 2 (some .int) :: wsL_law
def wp_X10_lean (a1 : Int32) (a2 : Int32) (post : Int32 → Prop) : Prop := post (((a1 * a2) * a2) / 1000)
set_option maxHeartbeats 4000000 in
set_option maxRecDepth 100000 in
theorem c_X10_lean (l : Launch) (D : va_G) (cy : Nat → ClassId) (tz : Nat → Nat) (w : va_W) (a1 : Int32) (a2 : Int32) (post : Int32 → Prop) (h : wp_X10_lean a1 a2 post) : CtI l D cy tz yX10_lean ws_X10_lean rm_X10_lean [.int a1, .int a2] w (fun _ : Unit => w) (fun r _ => post r) := by
  refine CtI.of (own := RX10) (nm := "lean") (lv := [(0, .int a1), (1, .int a2)]) (plainFor_of_name (by decide)) rfl rfl (Nat.le_of_ble_eq_true rfl) rfl ?_
  intro p e s m args below meth c A Q ls B hP hD hS hl hret
  obtain ⟨hx, hb, hml, hown, hts, hK, hZ, hA, hnm⟩ := B
  have SF : CallFix p m c cX10_lean 2 s args wsL_law RX10 := ⟨hx, hb, hml, hown, hts⟩
  unfold wp_X10_lean at h
  refine lv_iload_n hx hb dX10_lean_0 rfl (lv_at hl 0 rfl) ?_
  refine lv_iload_n hx hb dX10_lean_1 rfl (lv_at hl 1 rfl) ?_
  refine lv_imul hx hb dX10_lean_2 ?_
  refine lv_iload_n hx hb dX10_lean_3 rfl (lv_at hl 1 rfl) ?_
  refine lv_imul hx hb dX10_lean_4 ?_
  refine lv_sipush (v := 1000) hx hb dX10_lean_5 (by decide) ?_
  refine lv_idiv hx hb dX10_lean_8 (by decide) ?_
  exact hret _ () _ _ _ _ rfl h hP hD hS dX10_lean_9
-- X10_leans
def rm_X10_leans : Room := { frames := 1, cells := 0, slots := 0, locals := 22 }
abbrev ws_X10_leans : List Cond := .code yX10_leans cX10_leans 2 (some .int) :: wsL_law
theorem cw_RX10_227 {R : Room} {s : State} {args : Array Value} (hts : ∀ w ∈ wsL_law, w.before args s = true) (hR : rm_X10_lean.frames + 1 ≤ R.frames ∧ 8 + (2 + 11) + rm_X10_lean.locals ≤ R.locals) : CallB R s args RX10 227 yX10_lean cX10_lean 2 (some .int) ws_X10_lean rm_X10_lean rm_X10_lean.cells rm_X10_lean.slots 2 ∧ (Cond.static yX10_lean).before args s = true := va_cwS 2 hts (gdS w_27_21 w_27_22 w_1_2 w_27_23) rfl rfl rfl (by decide +kernel) hR
def wp_X10_leans (st : St) (a1 : Int32) (post : Int32 → Prop) : Prop := wp_X10_within a1 0 1000 (fun r1 => ((¬ r1 = 0) → (wp_X7_pace st (fun r4 => wp_X10_lean a1 r4 (fun r6 => post r6)))) ∧ ((r1 = 0) → (post (-2))))
set_option maxHeartbeats 4000000 in
set_option maxRecDepth 100000 in
theorem c_X10_leans (l : Launch) (D : va_G) (cy : Nat → ClassId) (tz : Nat → Nat) (ad : Nat → Nat) (st : St) (a1 : Int32) (post : Int32 → Prop) (h : wp_X10_leans st a1 post) : CtI l D cy tz yX10_leans ws_X10_leans rm_X10_leans [.ref (ad 0), .int a1] (wX cy ad st) (fun _ : Unit => wX cy ad st) (fun r _ => post r) := by
  refine CtI.of (own := RX10) (nm := "leans") (lv := [(0, .ref (ad 0)), (1, .int a1)]) (plainFor_of_name (by decide)) rfl rfl (Nat.le_of_ble_eq_true rfl) rfl ?_
  intro p e s m args below meth c A Q ls B hP hD hS hl hret
  obtain ⟨hx, hb, hml, hown, hts, hK, hZ, hA, hnm⟩ := B
  have SF : CallFix p m c cX10_leans 2 s args wsL_law RX10 := ⟨hx, hb, hml, hown, hts⟩
  unfold wp_X10_leans at h
  refine lv_iload_n hx hb dX10_leans_0 rfl (lv_at hl 1 rfl) ?_
  refine lv_iconst (v := 0) hx hb dX10_leans_1 (by decide) ?_
  refine lv_sipush (v := 1000) hx hb dX10_leans_2 (by decide) ?_
  refine callSIr (rest := []) SF (c_X10_within l D cy tz _ a1 0 1000 _ h) (cw_RX10_70 hts ⟨Nat.le_of_ble_eq_true rfl, Nat.le_of_ble_eq_true rfl⟩) rfl rfl hK hZ hA hP hD hS rfl hl.1 rfl (Nat.le_of_ble_eq_true rfl) dX10_leans_5 ⟨Nat.zero_le _, Nat.zero_le _⟩ (fun r1 H locs h hP hD hS => ?_)
  refine lv_if_ne (tgt := 14) hx hb dX10_leans_8 (by decide) (fun c3 => ?_) (fun c3 => ?_)
  · have h := h.1 c3
    refine lv_iload_n hx hb dX10_leans_14 rfl (lv_at hl 1 rfl) ?_
    refine lv_aload_n hx hb dX10_leans_15 rfl (lv_at hl 0 rfl) ?_
    refine va_get (D := D) (ci := 9) (v := .ref (ad 3)) (C := RX10) (T := TX10) (N := 8) hx hb hts inlX10 hown hK hP 0 rfl rfl 1 (by decide) (hts _ w_1_19) (fun _ h9 => h9) rfl dX10_leans_16 ?_
    refine callVIr (rest := [.int a1]) SF (c_X7_pace l D cy tz ad st _ h) (cw_RX10_102 hts ⟨Nat.le_of_ble_eq_true rfl, Nat.le_of_ble_eq_true rfl⟩) rfl rfl (va_recv hK hP (ci := 7) (q0 := 3) rfl rfl) hK hZ hA hP hD hS rfl hl.1 rfl (Nat.le_of_ble_eq_true rfl) dX10_leans_19 ⟨Nat.zero_le _, Nat.zero_le _⟩ (fun r4 H locs h hP hD hS => ?_)
    refine callSIr (rest := []) SF (c_X10_lean l D cy tz _ a1 r4 _ h) (cw_RX10_227 hts ⟨Nat.le_of_ble_eq_true rfl, Nat.le_of_ble_eq_true rfl⟩) rfl rfl hK hZ hA hP hD hS rfl hl.1 rfl (Nat.le_of_ble_eq_true rfl) dX10_leans_22 ⟨Nat.zero_le _, Nat.zero_le _⟩ (fun r6 H locs h hP hD hS => ?_)
    exact hret _ () _ _ _ _ rfl h hP hD hS dX10_leans_25
  · have h := h.2 c3
    refine lv_bipush (v := (-2)) hx hb dX10_leans_11 (by decide) ?_
    exact hret _ () _ _ _ _ rfl h hP hD hS dX10_leans_13
-- X10_stays
def rm_X10_stays : Room := { frames := 1, cells := 0, slots := 0, locals := 22 }
abbrev ws_X10_stays : List Cond := .code yX10_stays cX10_stays 3 (some .int) :: wsL_law
def wp_X10_stays_L18 (post : Int32 → Prop) (K : Prop) (st : St) (a1 : Int32) : Nat → Int32 → Prop
  | 0, _ => False
  | n18 + 1, v4 => ((v4 ≤ 0) → (K)) ∧ ((¬ v4 ≤ 0) → (wp_X7_pace st (fun r7 => wp_X10_lean v4 r7 (fun r9 => ((a1 < r9) → (∀ x12 : Int32, x12 = v4 + (-1) → (wp_X10_stays_L18 post K st a1 n18 x12))) ∧ ((¬ a1 < r9) → (post v4))))))
def wp_X10_stays (st : St) (a1 : Int32) (post : Int32 → Prop) : Prop := wp_X10_within a1 0 9999 (fun r1 => ((¬ r1 = 0) → (∃ m18 : Nat, wp_X10_stays_L18 post (post 0) st a1 m18 1000)) ∧ ((r1 = 0) → (post (-2))))
set_option maxHeartbeats 4000000 in
set_option maxRecDepth 100000 in
theorem c_X10_stays (l : Launch) (D : va_G) (cy : Nat → ClassId) (tz : Nat → Nat) (ad : Nat → Nat) (st : St) (a1 : Int32) (post : Int32 → Prop) (h : wp_X10_stays st a1 post) : CtI l D cy tz yX10_stays ws_X10_stays rm_X10_stays [.ref (ad 0), .int a1] (wX cy ad st) (fun _ : Unit => wX cy ad st) (fun r _ => post r) := by
  refine CtI.of (own := RX10) (nm := "stays") (lv := [(0, .ref (ad 0)), (1, .int a1)]) (plainFor_of_name (by decide)) rfl rfl (Nat.le_of_ble_eq_true rfl) rfl ?_
  intro p e s m args below meth c A Q ls B hP hD hS hl hret
  obtain ⟨hx, hb, hml, hown, hts, hK, hZ, hA, hnm⟩ := B
  have SF : CallFix p m c cX10_stays 3 s args wsL_law RX10 := ⟨hx, hb, hml, hown, hts⟩
  unfold wp_X10_stays at h
  refine lv_iload_n hx hb dX10_stays_0 rfl (lv_at hl 1 rfl) ?_
  refine lv_iconst (v := 0) hx hb dX10_stays_1 (by decide) ?_
  refine lv_sipush (v := 9999) hx hb dX10_stays_2 (by decide) ?_
  refine callSIr (rest := []) SF (c_X10_within l D cy tz _ a1 0 9999 _ h) (cw_RX10_70 hts ⟨Nat.le_of_ble_eq_true rfl, Nat.le_of_ble_eq_true rfl⟩) rfl rfl hK hZ hA hP hD hS rfl hl.1 rfl (Nat.le_of_ble_eq_true rfl) dX10_stays_5 ⟨Nat.zero_le _, Nat.zero_le _⟩ (fun r1 H locs h hP hD hS => ?_)
  refine lv_if_ne (tgt := 14) hx hb dX10_stays_8 (by decide) (fun c3 => ?_) (fun c3 => ?_)
  · have h := h.1 c3
    refine lv_sipush (v := 1000) hx hb dX10_stays_14 (by decide) ?_
    refine lv_istore_n (lv' := [(2, .int 1000), (0, .ref (ad 0)), (1, .int a1)]) hx hb dX10_stays_17 rfl hl (by decide) rfl (fun ls hl => ?_)
    have loop18 : ∀ (K : Prop), (∀ (H : Heap) (locs : List Loc) (ls : Array Slot), K → va_P D vwCl (wX cy ad st) H → va_D A (wX cy ad st) → va_S A s.heap H locs → lv_has ls 3 [] → W p l e rm_X10_stays s m args below meth c H locs 0 0 Q (F0 m 45 ls [])) → ∀ (n : Nat) (v4 : Int32) (H : Heap) (locs : List Loc) (ls : Array Slot), wp_X10_stays_L18 post K st a1 n v4 → va_P D vwCl (wX cy ad st) H → va_D A (wX cy ad st) → va_S A s.heap H locs → lv_has ls 3 [(0, .ref (ad 0)), (1, .int a1), (2, .int v4)] → W p l e rm_X10_stays s m args below meth c H locs 0 0 Q (F0 m 18 ls []) := by
      intro K hE18 n
      induction n with
      | zero => intro v4 H locs ls h; exact h.elim
      | succ n ih18 =>
        intro v4 H locs ls h hP hD hS hl
        rw [wp_X10_stays_L18] at h
        refine lv_iload_n hx hb dX10_stays_18 rfl (lv_at hl 2 rfl) ?_
        refine lv_if_le (tgt := 45) hx hb dX10_stays_19 (by decide) (fun c6 => ?_) (fun c6 => ?_)
        · have h := h.1 c6
          exact hE18 _ _ _ h hP hD hS (lv_sub hl [] rfl)
        · have h := h.2 c6
          refine lv_iload_n hx hb dX10_stays_22 rfl (lv_at hl 2 rfl) ?_
          refine lv_aload_n hx hb dX10_stays_23 rfl (lv_at hl 0 rfl) ?_
          refine va_get (D := D) (ci := 9) (v := .ref (ad 3)) (C := RX10) (T := TX10) (N := 8) hx hb hts inlX10 hown hK hP 0 rfl rfl 1 (by decide) (hts _ w_1_19) (fun _ h9 => h9) rfl dX10_stays_24 ?_
          refine callVIr (rest := [.int v4]) SF (c_X7_pace l D cy tz ad st _ h) (cw_RX10_102 hts ⟨Nat.le_of_ble_eq_true rfl, Nat.le_of_ble_eq_true rfl⟩) rfl rfl (va_recv hK hP (ci := 7) (q0 := 3) rfl rfl) hK hZ hA hP hD hS rfl hl.1 rfl (Nat.le_of_ble_eq_true rfl) dX10_stays_27 ⟨Nat.zero_le _, Nat.zero_le _⟩ (fun r7 H locs h hP hD hS => ?_)
          refine callSIr (rest := []) SF (c_X10_lean l D cy tz _ v4 r7 _ h) (cw_RX10_227 hts ⟨Nat.le_of_ble_eq_true rfl, Nat.le_of_ble_eq_true rfl⟩) rfl rfl hK hZ hA hP hD hS rfl hl.1 rfl (Nat.le_of_ble_eq_true rfl) dX10_stays_30 ⟨Nat.zero_le _, Nat.zero_le _⟩ (fun r9 H locs h hP hD hS => ?_)
          refine lv_iload_n hx hb dX10_stays_33 rfl (lv_at hl 1 rfl) ?_
          refine lv_icmp_gt (tgt := 39) hx hb dX10_stays_34 (by decide) (fun c11 => ?_) (fun c11 => ?_)
          · have h := h.1 c11
            obtain ⟨x12, e13⟩ : ∃ z : Int32, z = v4 + (-1) := ⟨_, rfl⟩
            have h := h x12 e13
            refine lv_iinc (v := x12) (lv' := [(2, .int x12), (0, .ref (ad 0)), (1, .int a1)]) hx hb dX10_stays_39 hl (k := 2) rfl (by rw [e13]; rfl) (by decide) rfl (fun ls hl => ?_)
            refine lv_goto (tgt := 18) hx hb dX10_stays_42 (by decide) ?_
            exact ih18 _ _ _ _ h hP hD hS (lv_sub hl [1, 2, 0] rfl)
          · have h := h.2 c11
            refine lv_iload_n hx hb dX10_stays_37 rfl (lv_at hl 2 rfl) ?_
            exact hret _ () _ _ _ _ rfl h hP hD hS dX10_stays_38
    obtain ⟨n, h⟩ := h
    refine loop18 _ ?_ n _ _ _ _ h hP hD hS (lv_sub hl [1, 2, 0] rfl)
    intro H locs ls h hP hD hS hl
    refine lv_iconst (v := 0) hx hb dX10_stays_45 (by decide) ?_
    exact hret _ () _ _ _ _ rfl h hP hD hS dX10_stays_46
  · have h := h.2 c3
    refine lv_bipush (v := (-2)) hx hb dX10_stays_11 (by decide) ?_
    exact hret _ () _ _ _ _ rfl h hP hD hS dX10_stays_13
-- X10_hut
def rm_X10_hut : Room := { frames := 1, cells := 0, slots := 0, locals := 22 }
abbrev ws_X10_hut : List Cond := .code yX10_hut cX10_hut 6 (some .int) :: wsL_law
def wp_X10_hut_L48 (post : Int32 → Prop) (K : Prop) (a1 : Int32) (a3 : Int32) (x10 : Int32) : Nat → Int32 → Prop
  | 0, _ => False
  | n48 + 1, v12 => ((99 < v12) → (K)) ∧ ((¬ 99 < v12) → ((((((a1 * v12) * x10) / 38) ≤ a3) → (∀ x16 : Int32, x16 = v12 + 1 → (wp_X10_hut_L48 post K a1 a3 x10 n48 x16))) ∧ ((¬ (((a1 * v12) * x10) / 38) ≤ a3) → (post v12))))
def wp_X10_hut (st : St) (a1 : Int32) (a2 : Int32) (a3 : Int32) (post : Int32 → Prop) : Prop := wp_X10_within a1 1 1000 (fun r1 => ((r1 = 0) → (post (-2))) ∧ ((¬ r1 = 0) → (wp_X10_within a2 1 200 (fun r4 => ((r4 = 0) → (post (-2))) ∧ ((¬ r4 = 0) → (wp_X10_within a3 0 9999 (fun r7 => ((¬ r7 = 0) → ((¬ a2 = 0) ∧ (∀ x10 : Int32, x10 = (((a1 + a2) - 1) / a2) → (∃ m48 : Nat, wp_X10_hut_L48 post (post (-6)) a1 a3 x10 m48 1)))) ∧ ((r7 = 0) → (post (-2))))))))))
set_option maxHeartbeats 4000000 in
set_option maxRecDepth 100000 in
theorem c_X10_hut (l : Launch) (D : va_G) (cy : Nat → ClassId) (tz : Nat → Nat) (ad : Nat → Nat) (st : St) (a1 : Int32) (a2 : Int32) (a3 : Int32) (post : Int32 → Prop) (h : wp_X10_hut st a1 a2 a3 post) : CtI l D cy tz yX10_hut ws_X10_hut rm_X10_hut [.ref (ad 0), .int a1, .int a2, .int a3] (wX cy ad st) (fun _ : Unit => wX cy ad st) (fun r _ => post r) := by
  refine CtI.of (own := RX10) (nm := "hut") (lv := [(0, .ref (ad 0)), (1, .int a1), (2, .int a2), (3, .int a3)]) (plainFor_of_name (by decide)) rfl rfl (Nat.le_of_ble_eq_true rfl) rfl ?_
  intro p e s m args below meth c A Q ls B hP hD hS hl hret
  obtain ⟨hx, hb, hml, hown, hts, hK, hZ, hA, hnm⟩ := B
  have SF : CallFix p m c cX10_hut 6 s args wsL_law RX10 := ⟨hx, hb, hml, hown, hts⟩
  unfold wp_X10_hut at h
  refine lv_iload_n hx hb dX10_hut_0 rfl (lv_at hl 1 rfl) ?_
  refine lv_iconst (v := 1) hx hb dX10_hut_1 (by decide) ?_
  refine lv_sipush (v := 1000) hx hb dX10_hut_2 (by decide) ?_
  refine callSIr (rest := []) SF (c_X10_within l D cy tz _ a1 1 1000 _ h) (cw_RX10_70 hts ⟨Nat.le_of_ble_eq_true rfl, Nat.le_of_ble_eq_true rfl⟩) rfl rfl hK hZ hA hP hD hS rfl hl.1 rfl (Nat.le_of_ble_eq_true rfl) dX10_hut_5 ⟨Nat.zero_le _, Nat.zero_le _⟩ (fun r1 H locs h hP hD hS => ?_)
  refine lv_if_eq (tgt := 33) hx hb dX10_hut_8 (by decide) (fun c3 => ?_) (fun c3 => ?_)
  · have h := h.1 c3
    refine lv_bipush (v := (-2)) hx hb dX10_hut_33 (by decide) ?_
    exact hret _ () _ _ _ _ rfl h hP hD hS dX10_hut_35
  · have h := h.2 c3
    refine lv_iload_n hx hb dX10_hut_11 rfl (lv_at hl 2 rfl) ?_
    refine lv_iconst (v := 1) hx hb dX10_hut_12 (by decide) ?_
    refine lv_sipush (v := 200) hx hb dX10_hut_13 (by decide) ?_
    refine callSIr (rest := []) SF (c_X10_within l D cy tz _ a2 1 200 _ h) (cw_RX10_70 hts ⟨Nat.le_of_ble_eq_true rfl, Nat.le_of_ble_eq_true rfl⟩) rfl rfl hK hZ hA hP hD hS rfl hl.1 rfl (Nat.le_of_ble_eq_true rfl) dX10_hut_16 ⟨Nat.zero_le _, Nat.zero_le _⟩ (fun r4 H locs h hP hD hS => ?_)
    refine lv_if_eq (tgt := 33) hx hb dX10_hut_19 (by decide) (fun c6 => ?_) (fun c6 => ?_)
    · have h := h.1 c6
      refine lv_bipush (v := (-2)) hx hb dX10_hut_33 (by decide) ?_
      exact hret _ () _ _ _ _ rfl h hP hD hS dX10_hut_35
    · have h := h.2 c6
      refine lv_iload_n hx hb dX10_hut_22 rfl (lv_at hl 3 rfl) ?_
      refine lv_iconst (v := 0) hx hb dX10_hut_23 (by decide) ?_
      refine lv_sipush (v := 9999) hx hb dX10_hut_24 (by decide) ?_
      refine callSIr (rest := []) SF (c_X10_within l D cy tz _ a3 0 9999 _ h) (cw_RX10_70 hts ⟨Nat.le_of_ble_eq_true rfl, Nat.le_of_ble_eq_true rfl⟩) rfl rfl hK hZ hA hP hD hS rfl hl.1 rfl (Nat.le_of_ble_eq_true rfl) dX10_hut_27 ⟨Nat.zero_le _, Nat.zero_le _⟩ (fun r7 H locs h hP hD hS => ?_)
      refine lv_if_ne (tgt := 36) hx hb dX10_hut_30 (by decide) (fun c9 => ?_) (fun c9 => ?_)
      · have h := h.1 c9
        refine lv_iload_n hx hb dX10_hut_36 rfl (lv_at hl 1 rfl) ?_
        refine lv_iload_n hx hb dX10_hut_37 rfl (lv_at hl 2 rfl) ?_
        refine lv_iadd hx hb dX10_hut_38 ?_
        refine lv_iconst (v := 1) hx hb dX10_hut_39 (by decide) ?_
        refine lv_isub hx hb dX10_hut_40 ?_
        refine lv_iload_n hx hb dX10_hut_41 rfl (lv_at hl 2 rfl) ?_
        refine lv_idiv hx hb dX10_hut_42 h.1 ?_
        have h := h.2
        refine lv_topi (fun x10 e11 => ?_)
        have h := h x10 e11
        refine lv_istore (lv' := [(4, .int x10), (0, .ref (ad 0)), (1, .int a1), (2, .int a2), (3, .int a3)]) hx hb dX10_hut_43 hl (by decide) rfl (fun ls hl => ?_)
        refine lv_iconst (v := 1) hx hb dX10_hut_45 (by decide) ?_
        refine lv_istore (lv' := [(5, .int 1), (4, .int x10), (0, .ref (ad 0)), (1, .int a1), (2, .int a2), (3, .int a3)]) hx hb dX10_hut_46 hl (by decide) rfl (fun ls hl => ?_)
        have loop48 : ∀ (K : Prop), (∀ (H : Heap) (locs : List Loc) (ls : Array Slot), K → va_P D vwCl (wX cy ad st) H → va_D A (wX cy ad st) → va_S A s.heap H locs → lv_has ls 6 [] → W p l e rm_X10_hut s m args below meth c H locs 0 0 Q (F0 m 78 ls [])) → ∀ (n : Nat) (v12 : Int32) (H : Heap) (locs : List Loc) (ls : Array Slot), wp_X10_hut_L48 post K a1 a3 x10 n v12 → va_P D vwCl (wX cy ad st) H → va_D A (wX cy ad st) → va_S A s.heap H locs → lv_has ls 6 [(1, .int a1), (3, .int a3), (4, .int x10), (5, .int v12)] → W p l e rm_X10_hut s m args below meth c H locs 0 0 Q (F0 m 48 ls []) := by
          intro K hE48 n
          induction n with
          | zero => intro v12 H locs ls h; exact h.elim
          | succ n ih48 =>
            intro v12 H locs ls h hP hD hS hl
            rw [wp_X10_hut_L48] at h
            refine lv_iload hx hb dX10_hut_48 (lv_at hl 3 rfl) ?_
            refine lv_bipush (v := 99) hx hb dX10_hut_50 (by decide) ?_
            refine lv_icmp_gt (tgt := 78) hx hb dX10_hut_52 (by decide) (fun c14 => ?_) (fun c14 => ?_)
            · have h := h.1 c14
              exact hE48 _ _ _ h hP hD hS (lv_sub hl [] rfl)
            · have h := h.2 c14
              refine lv_iload_n hx hb dX10_hut_55 rfl (lv_at hl 0 rfl) ?_
              refine lv_iload hx hb dX10_hut_56 (lv_at hl 3 rfl) ?_
              refine lv_imul hx hb dX10_hut_58 ?_
              refine lv_iload hx hb dX10_hut_59 (lv_at hl 2 rfl) ?_
              refine lv_imul hx hb dX10_hut_61 ?_
              refine lv_bipush (v := 38) hx hb dX10_hut_62 (by decide) ?_
              refine lv_idiv hx hb dX10_hut_64 (by decide) ?_
              refine lv_iload_n hx hb dX10_hut_65 rfl (lv_at hl 1 rfl) ?_
              refine lv_icmp_le (tgt := 72) hx hb dX10_hut_66 (by decide) (fun c15 => ?_) (fun c15 => ?_)
              · have h := h.1 c15
                obtain ⟨x16, e17⟩ : ∃ z : Int32, z = v12 + 1 := ⟨_, rfl⟩
                have h := h x16 e17
                refine lv_iinc (v := x16) (lv' := [(5, .int x16), (1, .int a1), (3, .int a3), (4, .int x10)]) hx hb dX10_hut_72 hl (k := 3) rfl (by rw [e17]; rfl) (by decide) rfl (fun ls hl => ?_)
                refine lv_goto (tgt := 48) hx hb dX10_hut_75 (by decide) ?_
                exact ih48 _ _ _ _ h hP hD hS (lv_sub hl [1, 2, 3, 0] rfl)
              · have h := h.2 c15
                refine lv_iload hx hb dX10_hut_69 (lv_at hl 3 rfl) ?_
                exact hret _ () _ _ _ _ rfl h hP hD hS dX10_hut_71
        obtain ⟨n, h⟩ := h
        refine loop48 _ ?_ n _ _ _ _ h hP hD hS (lv_sub hl [3, 5, 1, 0] rfl)
        intro H locs ls h hP hD hS hl
        refine lv_bipush (v := (-6)) hx hb dX10_hut_78 (by decide) ?_
        exact hret _ () _ _ _ _ rfl h hP hD hS dX10_hut_80
      · have h := h.2 c9
        refine lv_bipush (v := (-2)) hx hb dX10_hut_33 (by decide) ?_
        exact hret _ () _ _ _ _ rfl h hP hD hS dX10_hut_35
-- X10_film
def rm_X10_film : Room := { frames := 1, cells := 0, slots := 0, locals := 22 }
abbrev ws_X10_film : List Cond := .code yX10_film cX10_film 3 (some .int) :: wsL_law
theorem cw_RX10_236 {R : Room} {s : State} {args : Array Value} (hts : ∀ w ∈ wsL_law, w.before args s = true) (hR : rm_X2_add.frames + 1 ≤ R.frames ∧ 8 + (3 + 11) + rm_X2_add.locals ≤ R.locals) : CallW R s args RX10 RX2 236 yX2_add cX2_add 3 (some .boolean) ws_X2_add rm_X2_add rm_X2_add.cells rm_X2_add.slots 2 := cwV 2 hts (gdV w_29_7 w_29_8 w_29_9 w_3_15 w_29_10) rfl rfl rfl (by decide +kernel) hR
def wp_X10_film (st : St) (a1 : Int32) (a2 : Int32) (post : Int32 → St → Prop) : Prop := wp_X10_within a1 (-2000) 2000 (fun r1 => ((r1 = 0) → (post (-2) st)) ∧ ((¬ r1 = 0) → (wp_X10_within a2 (-2000) 2000 (fun r4 => ((¬ r4 = 0) → (wp_X2_add st a1 a2 (fun r7 t8 => ((r7 = 0) → (post (-4) t8)) ∧ ((¬ r7 = 0) → (post (gI t8 4) t8))))) ∧ ((r4 = 0) → (post (-2) st))))))
set_option maxHeartbeats 4000000 in
set_option maxRecDepth 100000 in
theorem c_X10_film (l : Launch) (D : va_G) (cy : Nat → ClassId) (tz : Nat → Nat) (ad : Nat → Nat) (st : St) (a1 : Int32) (a2 : Int32) (post : Int32 → St → Prop) (h : wp_X10_film st a1 a2 post) : CtI l D cy tz yX10_film ws_X10_film rm_X10_film [.ref (ad 0), .int a1, .int a2] (wX cy ad st) (wX cy ad) post := by
  refine CtI.of (own := RX10) (nm := "film") (lv := [(0, .ref (ad 0)), (1, .int a1), (2, .int a2)]) (plainFor_of_name (by decide)) rfl rfl (Nat.le_of_ble_eq_true rfl) rfl ?_
  intro p e s m args below meth c A Q ls B hP hD hS hl hret
  obtain ⟨hx, hb, hml, hown, hts, hK, hZ, hA, hnm⟩ := B
  have SF : CallFix p m c cX10_film 3 s args wsL_law RX10 := ⟨hx, hb, hml, hown, hts⟩
  unfold wp_X10_film at h
  refine lv_iload_n hx hb dX10_film_0 rfl (lv_at hl 1 rfl) ?_
  refine lv_sipush (v := (-2000)) hx hb dX10_film_1 (by decide) ?_
  refine lv_sipush (v := 2000) hx hb dX10_film_4 (by decide) ?_
  refine callSIr (rest := []) SF (c_X10_within l D cy tz _ a1 (-2000) 2000 _ h) (cw_RX10_70 hts ⟨Nat.le_of_ble_eq_true rfl, Nat.le_of_ble_eq_true rfl⟩) rfl rfl hK hZ hA hP hD hS rfl hl.1 rfl (Nat.le_of_ble_eq_true rfl) dX10_film_7 ⟨Nat.zero_le _, Nat.zero_le _⟩ (fun r1 H locs h hP hD hS => ?_)
  refine lv_if_eq (tgt := 26) hx hb dX10_film_10 (by decide) (fun c3 => ?_) (fun c3 => ?_)
  · have h := h.1 c3
    refine lv_bipush (v := (-2)) hx hb dX10_film_26 (by decide) ?_
    exact hret _ _ _ _ _ _ rfl h hP hD hS dX10_film_28
  · have h := h.2 c3
    refine lv_iload_n hx hb dX10_film_13 rfl (lv_at hl 2 rfl) ?_
    refine lv_sipush (v := (-2000)) hx hb dX10_film_14 (by decide) ?_
    refine lv_sipush (v := 2000) hx hb dX10_film_17 (by decide) ?_
    refine callSIr (rest := []) SF (c_X10_within l D cy tz _ a2 (-2000) 2000 _ h) (cw_RX10_70 hts ⟨Nat.le_of_ble_eq_true rfl, Nat.le_of_ble_eq_true rfl⟩) rfl rfl hK hZ hA hP hD hS rfl hl.1 rfl (Nat.le_of_ble_eq_true rfl) dX10_film_20 ⟨Nat.zero_le _, Nat.zero_le _⟩ (fun r4 H locs h hP hD hS => ?_)
    refine lv_if_ne (tgt := 29) hx hb dX10_film_23 (by decide) (fun c6 => ?_) (fun c6 => ?_)
    · have h := h.1 c6
      refine lv_aload_n hx hb dX10_film_29 rfl (lv_at hl 0 rfl) ?_
      refine va_get (D := D) (ci := 9) (v := .ref (ad 3)) (C := RX10) (T := TX10) (N := 8) hx hb hts inlX10 hown hK hP 0 rfl rfl 1 (by decide) (hts _ w_1_19) (fun _ h9 => h9) rfl dX10_film_30 ?_
      refine va_get (D := D) (ci := 7) (v := .ref (ad 8)) (C := RX7) (T := TX7) (N := 6) hx hb hts inlX7 hown hK hP 3 rfl rfl 2 (by decide) (hts _ w_29_5) (fun _ h9 => h9) rfl dX10_film_33 ?_
      refine lv_iload_n hx hb dX10_film_36 rfl (lv_at hl 1 rfl) ?_
      refine lv_iload_n hx hb dX10_film_37 rfl (lv_at hl 2 rfl) ?_
      refine callVI (rest := []) SF (c_X2_add l D cy tz ad st a1 a2 _ h) (cw_RX10_236 hts ⟨Nat.le_of_ble_eq_true rfl, Nat.le_of_ble_eq_true rfl⟩) rfl rfl (va_recv hK hP (ci := 2) (q0 := 8) rfl rfl) hK hZ hA hP hD hS rfl hl.1 rfl (Nat.le_of_ble_eq_true rfl) dX10_film_38 ⟨Nat.zero_le _, Nat.zero_le _⟩ (fun r7 t8 H locs h hP hD hS => ?_)
      refine lv_if_eq (tgt := 57) hx hb dX10_film_41 (by decide) (fun c9 => ?_) (fun c9 => ?_)
      · have h := h.1 c9
        refine lv_bipush (v := (-4)) hx hb dX10_film_57 (by decide) ?_
        exact hret _ _ _ _ _ _ rfl h hP hD hS dX10_film_59
      · have h := h.2 c9
        refine lv_aload_n hx hb dX10_film_44 rfl (lv_at hl 0 rfl) ?_
        refine va_get (D := D) (ci := 9) (v := .ref (ad 3)) (C := RX10) (T := TX10) (N := 8) hx hb hts inlX10 hown hK hP 0 rfl rfl 1 (by decide) (hts _ w_1_19) (fun _ h9 => h9) rfl dX10_film_45 ?_
        refine va_get (D := D) (ci := 7) (v := .ref (ad 8)) (C := RX7) (T := TX7) (N := 6) hx hb hts inlX7 hown hK hP 3 rfl rfl 2 (by decide) (hts _ w_29_5) (fun _ h9 => h9) rfl dX10_film_48 ?_
        refine va_get (D := D) (ci := 2) (v := .int (gI t8 4)) (C := RX2) (T := TX2) (N := 3) hx hb hts inlX2 hown hK hP 8 rfl rfl 2 (by decide) (hts _ w_29_6) (fun _ h9 => h9) rfl dX10_film_51 ?_
        refine lv_goto (tgt := 59) hx hb dX10_film_54 (by decide) ?_
        exact hret _ _ _ _ _ _ rfl h hP hD hS dX10_film_59
    · have h := h.2 c6
      refine lv_bipush (v := (-2)) hx hb dX10_film_26 (by decide) ?_
      exact hret _ _ _ _ _ _ rfl h hP hD hS dX10_film_28
-- X10_clear
def rm_X10_clear : Room := { frames := 0, cells := 0, slots := 0, locals := 0 }
abbrev ws_X10_clear : List Cond := .code yX10_clear cX10_clear 2 (some .int) :: wsL_law
def wp_X10_clear (st : St) (post : Int32 → St → Prop) : Prop := ∀ x1 : Int32, x1 = gI st 4 → (post x1 (sI st 4 0))
set_option maxHeartbeats 4000000 in
set_option maxRecDepth 100000 in
theorem c_X10_clear (l : Launch) (D : va_G) (cy : Nat → ClassId) (tz : Nat → Nat) (ad : Nat → Nat) (st : St) (post : Int32 → St → Prop) (h : wp_X10_clear st post) : CtI l D cy tz yX10_clear ws_X10_clear rm_X10_clear [.ref (ad 0)] (wX cy ad st) (wX cy ad) post := by
  refine CtI.of (own := RX10) (nm := "clear") (lv := [(0, .ref (ad 0))]) (plainFor_of_name (by decide)) rfl rfl (Nat.le_of_ble_eq_true rfl) rfl ?_
  intro p e s m args below meth c A Q ls B hP hD hS hl hret
  obtain ⟨hx, hb, hml, hown, hts, hK, hZ, hA, hnm⟩ := B
  have SF : CallFix p m c cX10_clear 2 s args wsL_law RX10 := ⟨hx, hb, hml, hown, hts⟩
  unfold wp_X10_clear at h
  refine lv_aload_n hx hb dX10_clear_0 rfl (lv_at hl 0 rfl) ?_
  refine va_get (D := D) (ci := 9) (v := .ref (ad 3)) (C := RX10) (T := TX10) (N := 8) hx hb hts inlX10 hown hK hP 0 rfl rfl 1 (by decide) (hts _ w_1_19) (fun _ h9 => h9) rfl dX10_clear_1 ?_
  refine va_get (D := D) (ci := 7) (v := .ref (ad 8)) (C := RX7) (T := TX7) (N := 6) hx hb hts inlX7 hown hK hP 3 rfl rfl 2 (by decide) (hts _ w_29_5) (fun _ h9 => h9) rfl dX10_clear_4 ?_
  refine va_get (D := D) (ci := 2) (v := .int (gI st 4)) (C := RX2) (T := TX2) (N := 3) hx hb hts inlX2 hown hK hP 8 rfl rfl 2 (by decide) (hts _ w_29_6) (fun _ h9 => h9) rfl dX10_clear_7 ?_
  refine lv_topi (fun x1 e2 => ?_)
  have h := h x1 e2
  refine lv_istore_n (lv' := [(1, .int x1), (0, .ref (ad 0))]) hx hb dX10_clear_10 rfl hl (by decide) rfl (fun ls hl => ?_)
  refine lv_aload_n hx hb dX10_clear_11 rfl (lv_at hl 1 rfl) ?_
  refine va_get (D := D) (ci := 9) (v := .ref (ad 3)) (C := RX10) (T := TX10) (N := 8) hx hb hts inlX10 hown hK hP 0 rfl rfl 1 (by decide) (hts _ w_1_19) (fun _ h9 => h9) rfl dX10_clear_12 ?_
  refine va_get (D := D) (ci := 7) (v := .ref (ad 8)) (C := RX7) (T := TX7) (N := 6) hx hb hts inlX7 hown hK hP 3 rfl rfl 2 (by decide) (hts _ w_29_5) (fun _ h9 => h9) rfl dX10_clear_15 ?_
  refine lv_iconst (v := 0) hx hb dX10_clear_18 (by decide) ?_
  refine va_put (D := D) (ci := 2) (v := .int 0) (ty := .int) (C := RX2) (T := TX2) (N := 3) hx hb hts inlX2 tyX2 tyX2_ok nmX2 hown hK hP hD hS 8 rfl rfl 2 (by decide) (hts _ w_29_6) (fun _ h9 => h9) rfl (by decide +kernel) rfl rfl (Nat.le_of_ble_eq_true rfl) dX10_clear_19 (fun H locs hP hD hS => ?_)
  have hP : va_P D vwCl (wX cy ad (sI st 4 0)) H := hP
  have hD : va_D A (wX cy ad (sI st 4 0)) := hD
  refine lv_iload_n hx hb dX10_clear_22 rfl (lv_at hl 0 rfl) ?_
  exact hret _ _ _ _ _ _ rfl h hP hD hS dX10_clear_23
-- X10_bent
def rm_X10_bent : Room := { frames := 5, cells := 0, slots := 0, locals := 112 }
abbrev ws_X10_bent : List Cond := .code yX10_bent cX10_bent 2 (some .int) :: wsL_law
theorem cw_RX10_241 {R : Room} {s : State} {args : Array Value} (hts : ∀ w ∈ wsL_law, w.before args s = true) (hR : rm_X2_bend.frames + 1 ≤ R.frames ∧ 8 + (5 + 11) + rm_X2_bend.locals ≤ R.locals) : CallW R s args RX10 RX2 241 yX2_bend cX2_bend 5 (some .int) ws_X2_bend rm_X2_bend rm_X2_bend.cells rm_X2_bend.slots 1 := cwV 1 hts (gdV w_30_5 w_30_6 w_30_7 w_3_15 w_30_8) rfl rfl rfl (by decide +kernel) hR
def wp_X10_bent (st : St) (a1 : Int32) (post : Int32 → Prop) : Prop := wp_X10_within a1 (-60) 60 (fun r1 => ((¬ r1 = 0) → (wp_X2_bend st a1 (fun r4 => post r4))) ∧ ((r1 = 0) → (post (-2))))
set_option maxHeartbeats 4000000 in
set_option maxRecDepth 100000 in
theorem c_X10_bent (l : Launch) (D : va_G) (cy : Nat → ClassId) (tz : Nat → Nat) (ad : Nat → Nat) (st : St) (a1 : Int32) (post : Int32 → Prop) (h : wp_X10_bent st a1 post) : CtI l D cy tz yX10_bent ws_X10_bent rm_X10_bent [.ref (ad 0), .int a1] (wX cy ad st) (fun _ : Unit => wX cy ad st) (fun r _ => post r) := by
  refine CtI.of (own := RX10) (nm := "bent") (lv := [(0, .ref (ad 0)), (1, .int a1)]) (plainFor_of_name (by decide)) rfl rfl (Nat.le_of_ble_eq_true rfl) rfl ?_
  intro p e s m args below meth c A Q ls B hP hD hS hl hret
  obtain ⟨hx, hb, hml, hown, hts, hK, hZ, hA, hnm⟩ := B
  have SF : CallFix p m c cX10_bent 2 s args wsL_law RX10 := ⟨hx, hb, hml, hown, hts⟩
  unfold wp_X10_bent at h
  refine lv_iload_n hx hb dX10_bent_0 rfl (lv_at hl 1 rfl) ?_
  refine lv_bipush (v := (-60)) hx hb dX10_bent_1 (by decide) ?_
  refine lv_bipush (v := 60) hx hb dX10_bent_3 (by decide) ?_
  refine callSIr (rest := []) SF (c_X10_within l D cy tz _ a1 (-60) 60 _ h) (cw_RX10_70 hts ⟨Nat.le_of_ble_eq_true rfl, Nat.le_of_ble_eq_true rfl⟩) rfl rfl hK hZ hA hP hD hS rfl hl.1 rfl (Nat.le_of_ble_eq_true rfl) dX10_bent_5 ⟨Nat.zero_le _, Nat.zero_le _⟩ (fun r1 H locs h hP hD hS => ?_)
  refine lv_if_ne (tgt := 14) hx hb dX10_bent_8 (by decide) (fun c3 => ?_) (fun c3 => ?_)
  · have h := h.1 c3
    refine lv_aload_n hx hb dX10_bent_14 rfl (lv_at hl 0 rfl) ?_
    refine va_get (D := D) (ci := 9) (v := .ref (ad 3)) (C := RX10) (T := TX10) (N := 8) hx hb hts inlX10 hown hK hP 0 rfl rfl 1 (by decide) (hts _ w_1_19) (fun _ h9 => h9) rfl dX10_bent_15 ?_
    refine va_get (D := D) (ci := 7) (v := .ref (ad 8)) (C := RX7) (T := TX7) (N := 6) hx hb hts inlX7 hown hK hP 3 rfl rfl 2 (by decide) (hts _ w_29_5) (fun _ h9 => h9) rfl dX10_bent_18 ?_
    refine lv_iload_n hx hb dX10_bent_21 rfl (lv_at hl 1 rfl) ?_
    refine callVIr (rest := []) SF (c_X2_bend l D cy tz ad st a1 _ h) (cw_RX10_241 hts ⟨Nat.le_of_ble_eq_true rfl, Nat.le_of_ble_eq_true rfl⟩) rfl rfl (va_recv hK hP (ci := 2) (q0 := 8) rfl rfl) hK hZ hA hP hD hS rfl hl.1 rfl (Nat.le_of_ble_eq_true rfl) dX10_bent_22 ⟨Nat.zero_le _, Nat.zero_le _⟩ (fun r4 H locs h hP hD hS => ?_)
    exact hret _ () _ _ _ _ rfl h hP hD hS dX10_bent_25
  · have h := h.2 c3
    refine lv_bipush (v := (-2)) hx hb dX10_bent_11 (by decide) ?_
    exact hret _ () _ _ _ _ rfl h hP hD hS dX10_bent_13
-- X10_turned
def rm_X10_turned : Room := { frames := 6, cells := 0, slots := 0, locals := 138 }
abbrev ws_X10_turned : List Cond := .code yX10_turned cX10_turned 1 (some .int) :: wsL_law
theorem cw_RX10_244 {R : Room} {s : State} {args : Array Value} (hts : ∀ w ∈ wsL_law, w.before args s = true) (hR : rm_X2_tells.frames + 1 ≤ R.frames ∧ 8 + (1 + 11) + rm_X2_tells.locals ≤ R.locals) : CallW R s args RX10 RX2 244 yX2_tells cX2_tells 1 (some .boolean) ws_X2_tells rm_X2_tells rm_X2_tells.cells rm_X2_tells.slots 0 := cwV 0 hts (gdV w_31_12 w_31_13 w_31_14 w_3_15 w_31_15) rfl rfl rfl (by decide +kernel) hR
theorem cw_RX10_247 {R : Room} {s : State} {args : Array Value} (hts : ∀ w ∈ wsL_law, w.before args s = true) (hR : rm_X2_likeliestPace.frames + 1 ≤ R.frames ∧ 8 + (7 + 11) + rm_X2_likeliestPace.locals ≤ R.locals) : CallW R s args RX10 RX2 247 yX2_likeliestPace cX2_likeliestPace 7 (some .int) ws_X2_likeliestPace rm_X2_likeliestPace rm_X2_likeliestPace.cells rm_X2_likeliestPace.slots 0 := cwV 0 hts (gdV w_31_16 w_31_17 w_31_18 w_3_15 w_31_19) rfl rfl rfl (by decide +kernel) hR
def wp_X10_turned (st : St) (post : Int32 → Prop) : Prop := wp_X2_tells st (fun r1 => ((r1 = 0) → (post (-100000003))) ∧ ((¬ r1 = 0) → (wp_X2_likeliestPace st (fun r4 => post r4))))
set_option maxHeartbeats 4000000 in
set_option maxRecDepth 100000 in
theorem c_X10_turned (l : Launch) (D : va_G) (cy : Nat → ClassId) (tz : Nat → Nat) (ad : Nat → Nat) (st : St) (post : Int32 → Prop) (h : wp_X10_turned st post) : CtI l D cy tz yX10_turned ws_X10_turned rm_X10_turned [.ref (ad 0)] (wX cy ad st) (fun _ : Unit => wX cy ad st) (fun r _ => post r) := by
  refine CtI.of (own := RX10) (nm := "turned") (lv := [(0, .ref (ad 0))]) (plainFor_of_name (by decide)) rfl rfl (Nat.le_of_ble_eq_true rfl) rfl ?_
  intro p e s m args below meth c A Q ls B hP hD hS hl hret
  obtain ⟨hx, hb, hml, hown, hts, hK, hZ, hA, hnm⟩ := B
  have SF : CallFix p m c cX10_turned 1 s args wsL_law RX10 := ⟨hx, hb, hml, hown, hts⟩
  unfold wp_X10_turned at h
  refine lv_aload_n hx hb dX10_turned_0 rfl (lv_at hl 0 rfl) ?_
  refine va_get (D := D) (ci := 9) (v := .ref (ad 3)) (C := RX10) (T := TX10) (N := 8) hx hb hts inlX10 hown hK hP 0 rfl rfl 1 (by decide) (hts _ w_1_19) (fun _ h9 => h9) rfl dX10_turned_1 ?_
  refine va_get (D := D) (ci := 7) (v := .ref (ad 8)) (C := RX7) (T := TX7) (N := 6) hx hb hts inlX7 hown hK hP 3 rfl rfl 2 (by decide) (hts _ w_29_5) (fun _ h9 => h9) rfl dX10_turned_4 ?_
  refine callVIr (rest := []) SF (c_X2_tells l D cy tz ad st _ h) (cw_RX10_244 hts ⟨Nat.le_of_ble_eq_true rfl, Nat.le_of_ble_eq_true rfl⟩) rfl rfl (va_recv hK hP (ci := 2) (q0 := 8) rfl rfl) hK hZ hA hP hD hS rfl hl.1 rfl (Nat.le_of_ble_eq_true rfl) dX10_turned_7 ⟨Nat.zero_le _, Nat.zero_le _⟩ (fun r1 H locs h hP hD hS => ?_)
  refine lv_if_eq (tgt := 26) hx hb dX10_turned_10 (by decide) (fun c3 => ?_) (fun c3 => ?_)
  · have h := h.1 c3
    refine lv_ldc (v := (-100000003)) hx hb hown (hts _ w_31_11) dX10_turned_26 ?_
    exact hret _ () _ _ _ _ rfl h hP hD hS dX10_turned_28
  · have h := h.2 c3
    refine lv_aload_n hx hb dX10_turned_13 rfl (lv_at hl 0 rfl) ?_
    refine va_get (D := D) (ci := 9) (v := .ref (ad 3)) (C := RX10) (T := TX10) (N := 8) hx hb hts inlX10 hown hK hP 0 rfl rfl 1 (by decide) (hts _ w_1_19) (fun _ h9 => h9) rfl dX10_turned_14 ?_
    refine va_get (D := D) (ci := 7) (v := .ref (ad 8)) (C := RX7) (T := TX7) (N := 6) hx hb hts inlX7 hown hK hP 3 rfl rfl 2 (by decide) (hts _ w_29_5) (fun _ h9 => h9) rfl dX10_turned_17 ?_
    refine callVIr (rest := []) SF (c_X2_likeliestPace l D cy tz ad st _ h) (cw_RX10_247 hts ⟨Nat.le_of_ble_eq_true rfl, Nat.le_of_ble_eq_true rfl⟩) rfl rfl (va_recv hK hP (ci := 2) (q0 := 8) rfl rfl) hK hZ hA hP hD hS rfl hl.1 rfl (Nat.le_of_ble_eq_true rfl) dX10_turned_20 ⟨Nat.zero_le _, Nat.zero_le _⟩ (fun r4 H locs h hP hD hS => ?_)
    refine lv_goto (tgt := 28) hx hb dX10_turned_23 (by decide) ?_
    exact hret _ () _ _ _ _ rfl h hP hD hS dX10_turned_28
-- X10_span
def rm_X10_span : Room := { frames := 7, cells := 0, slots := 0, locals := 163 }
abbrev ws_X10_span : List Cond := .code yX10_span cX10_span 3 (some .int) :: wsL_law
theorem cw_RX10_251 {R : Room} {s : State} {args : Array Value} (hts : ∀ w ∈ wsL_law, w.before args s = true) (hR : rm_X2_farthestPace.frames + 1 ≤ R.frames ∧ 8 + (6 + 11) + rm_X2_farthestPace.locals ≤ R.locals) : CallW R s args RX10 RX2 251 yX2_farthestPace cX2_farthestPace 6 (some .int) ws_X2_farthestPace rm_X2_farthestPace rm_X2_farthestPace.cells rm_X2_farthestPace.slots 2 := cwV 2 hts (gdV w_32_10 w_32_11 w_32_12 w_3_15 w_32_13) rfl rfl rfl (by decide +kernel) hR
def wp_X10_span (st : St) (a1 : Int32) (a2 : Int32) (post : Int32 → Prop) : Prop := wp_X10_within a1 0 9999 (fun r1 => ((r1 = 0) → (post (-100000002))) ∧ ((¬ r1 = 0) → (wp_X10_within a2 0 1 (fun r4 => ((¬ r4 = 0) → (wp_X2_tells st (fun r7 => ((r7 = 0) → (post (-100000003))) ∧ ((¬ r7 = 0) → (((¬ a2 = 0) → (wp_X2_farthestPace st a1 1 (fun r11 => post r11))) ∧ ((a2 = 0) → (wp_X2_farthestPace st a1 (-1) (fun r13 => post r13)))))))) ∧ ((r4 = 0) → (post (-100000002)))))))
set_option maxHeartbeats 4000000 in
set_option maxRecDepth 100000 in
theorem c_X10_span (l : Launch) (D : va_G) (cy : Nat → ClassId) (tz : Nat → Nat) (ad : Nat → Nat) (st : St) (a1 : Int32) (a2 : Int32) (post : Int32 → Prop) (h : wp_X10_span st a1 a2 post) : CtI l D cy tz yX10_span ws_X10_span rm_X10_span [.ref (ad 0), .int a1, .int a2] (wX cy ad st) (fun _ : Unit => wX cy ad st) (fun r _ => post r) := by
  refine CtI.of (own := RX10) (nm := "span") (lv := [(0, .ref (ad 0)), (1, .int a1), (2, .int a2)]) (plainFor_of_name (by decide)) rfl rfl (Nat.le_of_ble_eq_true rfl) rfl ?_
  intro p e s m args below meth c A Q ls B hP hD hS hl hret
  obtain ⟨hx, hb, hml, hown, hts, hK, hZ, hA, hnm⟩ := B
  have SF : CallFix p m c cX10_span 3 s args wsL_law RX10 := ⟨hx, hb, hml, hown, hts⟩
  unfold wp_X10_span at h
  refine lv_iload_n hx hb dX10_span_0 rfl (lv_at hl 1 rfl) ?_
  refine lv_iconst (v := 0) hx hb dX10_span_1 (by decide) ?_
  refine lv_sipush (v := 9999) hx hb dX10_span_2 (by decide) ?_
  refine callSIr (rest := []) SF (c_X10_within l D cy tz _ a1 0 9999 _ h) (cw_RX10_70 hts ⟨Nat.le_of_ble_eq_true rfl, Nat.le_of_ble_eq_true rfl⟩) rfl rfl hK hZ hA hP hD hS rfl hl.1 rfl (Nat.le_of_ble_eq_true rfl) dX10_span_5 ⟨Nat.zero_le _, Nat.zero_le _⟩ (fun r1 H locs h hP hD hS => ?_)
  refine lv_if_eq (tgt := 20) hx hb dX10_span_8 (by decide) (fun c3 => ?_) (fun c3 => ?_)
  · have h := h.1 c3
    refine lv_ldc (v := (-100000002)) hx hb hown (hts _ w_14_19) dX10_span_20 ?_
    exact hret _ () _ _ _ _ rfl h hP hD hS dX10_span_22
  · have h := h.2 c3
    refine lv_iload_n hx hb dX10_span_11 rfl (lv_at hl 2 rfl) ?_
    refine lv_iconst (v := 0) hx hb dX10_span_12 (by decide) ?_
    refine lv_iconst (v := 1) hx hb dX10_span_13 (by decide) ?_
    refine callSIr (rest := []) SF (c_X10_within l D cy tz _ a2 0 1 _ h) (cw_RX10_70 hts ⟨Nat.le_of_ble_eq_true rfl, Nat.le_of_ble_eq_true rfl⟩) rfl rfl hK hZ hA hP hD hS rfl hl.1 rfl (Nat.le_of_ble_eq_true rfl) dX10_span_14 ⟨Nat.zero_le _, Nat.zero_le _⟩ (fun r4 H locs h hP hD hS => ?_)
    refine lv_if_ne (tgt := 23) hx hb dX10_span_17 (by decide) (fun c6 => ?_) (fun c6 => ?_)
    · have h := h.1 c6
      refine lv_aload_n hx hb dX10_span_23 rfl (lv_at hl 0 rfl) ?_
      refine va_get (D := D) (ci := 9) (v := .ref (ad 3)) (C := RX10) (T := TX10) (N := 8) hx hb hts inlX10 hown hK hP 0 rfl rfl 1 (by decide) (hts _ w_1_19) (fun _ h9 => h9) rfl dX10_span_24 ?_
      refine va_get (D := D) (ci := 7) (v := .ref (ad 8)) (C := RX7) (T := TX7) (N := 6) hx hb hts inlX7 hown hK hP 3 rfl rfl 2 (by decide) (hts _ w_29_5) (fun _ h9 => h9) rfl dX10_span_27 ?_
      refine callVIr (rest := []) SF (c_X2_tells l D cy tz ad st _ h) (cw_RX10_244 hts ⟨Nat.le_of_ble_eq_true rfl, Nat.le_of_ble_eq_true rfl⟩) rfl rfl (va_recv hK hP (ci := 2) (q0 := 8) rfl rfl) hK hZ hA hP hD hS rfl hl.1 rfl (Nat.le_of_ble_eq_true rfl) dX10_span_30 ⟨Nat.zero_le _, Nat.zero_le _⟩ (fun r7 H locs h hP hD hS => ?_)
      refine lv_if_eq (tgt := 59) hx hb dX10_span_33 (by decide) (fun c9 => ?_) (fun c9 => ?_)
      · have h := h.1 c9
        refine lv_ldc (v := (-100000003)) hx hb hown (hts _ w_31_11) dX10_span_59 ?_
        exact hret _ () _ _ _ _ rfl h hP hD hS dX10_span_61
      · have h := h.2 c9
        refine lv_aload_n hx hb dX10_span_36 rfl (lv_at hl 0 rfl) ?_
        refine va_get (D := D) (ci := 9) (v := .ref (ad 3)) (C := RX10) (T := TX10) (N := 8) hx hb hts inlX10 hown hK hP 0 rfl rfl 1 (by decide) (hts _ w_1_19) (fun _ h9 => h9) rfl dX10_span_37 ?_
        refine va_get (D := D) (ci := 7) (v := .ref (ad 8)) (C := RX7) (T := TX7) (N := 6) hx hb hts inlX7 hown hK hP 3 rfl rfl 2 (by decide) (hts _ w_29_5) (fun _ h9 => h9) rfl dX10_span_40 ?_
        refine lv_iload_n hx hb dX10_span_43 rfl (lv_at hl 1 rfl) ?_
        refine lv_iload_n hx hb dX10_span_44 rfl (lv_at hl 2 rfl) ?_
        refine lv_if_ne (tgt := 52) hx hb dX10_span_45 (by decide) (fun c10 => ?_) (fun c10 => ?_)
        · have h := h.1 c10
          refine lv_iconst (v := 1) hx hb dX10_span_52 (by decide) ?_
          refine callVIr (rest := []) SF (c_X2_farthestPace l D cy tz ad st a1 1 _ h) (cw_RX10_251 hts ⟨Nat.le_of_ble_eq_true rfl, Nat.le_of_ble_eq_true rfl⟩) rfl rfl (va_recv hK hP (ci := 2) (q0 := 8) rfl rfl) hK hZ hA hP hD hS rfl hl.1 rfl (Nat.le_of_ble_eq_true rfl) dX10_span_53 ⟨Nat.zero_le _, Nat.zero_le _⟩ (fun r11 H locs h hP hD hS => ?_)
          refine lv_goto (tgt := 61) hx hb dX10_span_56 (by decide) ?_
          exact hret _ () _ _ _ _ rfl h hP hD hS dX10_span_61
        · have h := h.2 c10
          refine lv_iconst (v := (-1)) hx hb dX10_span_48 (by decide) ?_
          refine lv_goto (tgt := 53) hx hb dX10_span_49 (by decide) ?_
          refine callVIr (rest := []) SF (c_X2_farthestPace l D cy tz ad st a1 (-1) _ h) (cw_RX10_251 hts ⟨Nat.le_of_ble_eq_true rfl, Nat.le_of_ble_eq_true rfl⟩) rfl rfl (va_recv hK hP (ci := 2) (q0 := 8) rfl rfl) hK hZ hA hP hD hS rfl hl.1 rfl (Nat.le_of_ble_eq_true rfl) dX10_span_53 ⟨Nat.zero_le _, Nat.zero_le _⟩ (fun r13 H locs h hP hD hS => ?_)
          refine lv_goto (tgt := 61) hx hb dX10_span_56 (by decide) ?_
          exact hret _ () _ _ _ _ rfl h hP hD hS dX10_span_61
    · have h := h.2 c6
      refine lv_ldc (v := (-100000002)) hx hb hown (hts _ w_14_19) dX10_span_20 ?_
      exact hret _ () _ _ _ _ rfl h hP hD hS dX10_span_22
-- X10_areTwo
def rm_X10_areTwo : Room := { frames := 2, cells := 0, slots := 0, locals := 43 }
abbrev ws_X10_areTwo : List Cond := .code yX10_areTwo cX10_areTwo 3 (some .boolean) :: wsL_law
def wp_X10_areTwo (st : St) (a1 : Int32) (a2 : Int32) (post : Int32 → Prop) : Prop := wp_X7_hasOne st a1 (fun r1 => ((r1 = 0) → (post 0)) ∧ ((¬ r1 = 0) → (wp_X7_hasOne st a2 (fun r4 => ((r4 = 0) → (post 0)) ∧ ((¬ r4 = 0) → (((a1 = a2) → (post 0)) ∧ ((¬ a1 = a2) → (post 1))))))))
set_option maxHeartbeats 4000000 in
set_option maxRecDepth 100000 in
theorem c_X10_areTwo (l : Launch) (D : va_G) (cy : Nat → ClassId) (tz : Nat → Nat) (ad : Nat → Nat) (st : St) (a1 : Int32) (a2 : Int32) (post : Int32 → Prop) (h : wp_X10_areTwo st a1 a2 post) : CtI l D cy tz yX10_areTwo ws_X10_areTwo rm_X10_areTwo [.ref (ad 0), .int a1, .int a2] (wX cy ad st) (fun _ : Unit => wX cy ad st) (fun r _ => post r) := by
  refine CtI.of (own := RX10) (nm := "areTwo") (lv := [(0, .ref (ad 0)), (1, .int a1), (2, .int a2)]) (plainFor_of_name (by decide)) rfl rfl (Nat.le_of_ble_eq_true rfl) rfl ?_
  intro p e s m args below meth c A Q ls B hP hD hS hl hret
  obtain ⟨hx, hb, hml, hown, hts, hK, hZ, hA, hnm⟩ := B
  have SF : CallFix p m c cX10_areTwo 3 s args wsL_law RX10 := ⟨hx, hb, hml, hown, hts⟩
  unfold wp_X10_areTwo at h
  refine lv_aload_n hx hb dX10_areTwo_0 rfl (lv_at hl 0 rfl) ?_
  refine va_get (D := D) (ci := 9) (v := .ref (ad 3)) (C := RX10) (T := TX10) (N := 8) hx hb hts inlX10 hown hK hP 0 rfl rfl 1 (by decide) (hts _ w_1_19) (fun _ h9 => h9) rfl dX10_areTwo_1 ?_
  refine lv_iload_n hx hb dX10_areTwo_4 rfl (lv_at hl 1 rfl) ?_
  refine callVIr (rest := []) SF (c_X7_hasOne l D cy tz ad st a1 _ h) (cw_RX10_125 hts ⟨Nat.le_of_ble_eq_true rfl, Nat.le_of_ble_eq_true rfl⟩) rfl rfl (va_recv hK hP (ci := 7) (q0 := 3) rfl rfl) hK hZ hA hP hD hS rfl hl.1 rfl (Nat.le_of_ble_eq_true rfl) dX10_areTwo_5 ⟨Nat.zero_le _, Nat.zero_le _⟩ (fun r1 H locs h hP hD hS => ?_)
  refine lv_if_eq (tgt := 31) hx hb dX10_areTwo_8 (by decide) (fun c3 => ?_) (fun c3 => ?_)
  · have h := h.1 c3
    refine lv_iconst (v := 0) hx hb dX10_areTwo_31 (by decide) ?_
    exact hret _ () _ _ _ _ rfl h hP hD hS dX10_areTwo_32
  · have h := h.2 c3
    refine lv_aload_n hx hb dX10_areTwo_11 rfl (lv_at hl 0 rfl) ?_
    refine va_get (D := D) (ci := 9) (v := .ref (ad 3)) (C := RX10) (T := TX10) (N := 8) hx hb hts inlX10 hown hK hP 0 rfl rfl 1 (by decide) (hts _ w_1_19) (fun _ h9 => h9) rfl dX10_areTwo_12 ?_
    refine lv_iload_n hx hb dX10_areTwo_15 rfl (lv_at hl 2 rfl) ?_
    refine callVIr (rest := []) SF (c_X7_hasOne l D cy tz ad st a2 _ h) (cw_RX10_125 hts ⟨Nat.le_of_ble_eq_true rfl, Nat.le_of_ble_eq_true rfl⟩) rfl rfl (va_recv hK hP (ci := 7) (q0 := 3) rfl rfl) hK hZ hA hP hD hS rfl hl.1 rfl (Nat.le_of_ble_eq_true rfl) dX10_areTwo_16 ⟨Nat.zero_le _, Nat.zero_le _⟩ (fun r4 H locs h hP hD hS => ?_)
    refine lv_if_eq (tgt := 31) hx hb dX10_areTwo_19 (by decide) (fun c6 => ?_) (fun c6 => ?_)
    · have h := h.1 c6
      refine lv_iconst (v := 0) hx hb dX10_areTwo_31 (by decide) ?_
      exact hret _ () _ _ _ _ rfl h hP hD hS dX10_areTwo_32
    · have h := h.2 c6
      refine lv_iload_n hx hb dX10_areTwo_22 rfl (lv_at hl 1 rfl) ?_
      refine lv_iload_n hx hb dX10_areTwo_23 rfl (lv_at hl 2 rfl) ?_
      refine lv_icmp_eq (tgt := 31) hx hb dX10_areTwo_24 (by decide) (fun c7 => ?_) (fun c7 => ?_)
      · have h := h.1 c7
        refine lv_iconst (v := 0) hx hb dX10_areTwo_31 (by decide) ?_
        exact hret _ () _ _ _ _ rfl h hP hD hS dX10_areTwo_32
      · have h := h.2 c7
        refine lv_iconst (v := 1) hx hb dX10_areTwo_27 (by decide) ?_
        refine lv_goto (tgt := 32) hx hb dX10_areTwo_28 (by decide) ?_
        exact hret _ () _ _ _ _ rfl h hP hD hS dX10_areTwo_32
