-- X10_tries
def rm_X10_tries : Room := { frames := 5, cells := 0, slots := 0, locals := 114 }
abbrev ws_X10_tries : List Cond := .code yX10_tries cX10_tries 5 (some .boolean) :: wsL_law
theorem cw_RX10_280 {R : Room} {s : State} {args : Array Value} (hts : ∀ w ∈ wsL_law, w.before args s = true) (hR : rm_X3_practise.frames + 1 ≤ R.frames ∧ 8 + (7 + 11) + rm_X3_practise.locals ≤ R.locals) : CallW R s args RX10 RX3 280 yX3_practise cX3_practise 7 (some .boolean) ws_X3_practise rm_X3_practise rm_X3_practise.cells rm_X3_practise.slots 4 := cwV 4 hts (gdV w_33_23 w_34_0 w_34_1 w_2_15 w_34_2) rfl rfl rfl (by decide +kernel) hR
def wp_X10_tries (st : St) (a1 : Int32) (a2 : Int32) (a3 : Int32) (a4 : Int32) (post : Int32 → St → Prop) : Prop := wp_X5_run st a4 (fun t2 => vp_in a3 8 ∧ (vp_in a3 8 ∧ (wp_X8_followSeat t2 (gA t2 6 a3.toNatClampNeg) (gA t2 7 a3.toNatClampNeg) (fun t4 => vp_in a1 8 ∧ (vp_in a1 8 ∧ (wp_X0_launch t4 (gA t4 6 a1.toNatClampNeg) (gA t4 7 a1.toNatClampNeg) 0 0 (fun t6 => wp_X7_reach t6 (fun r7 => wp_X3_practise t6 a2 r7 (fun r9 t10 => r9 &&& 1 = r9 ∧ post r9 t10)))))))))
set_option maxHeartbeats 4000000 in
set_option maxRecDepth 100000 in
theorem c_X10_tries (l : Launch) (D : va_G) (cy : Nat → ClassId) (tz : Nat → Nat) (ad : Nat → Nat) (st : St) (a1 : Int32) (a2 : Int32) (a3 : Int32) (a4 : Int32) (post : Int32 → St → Prop) (h : wp_X10_tries st a1 a2 a3 a4 post) : CtI l D cy tz yX10_tries ws_X10_tries rm_X10_tries [.ref (ad 0), .int a1, .int a2, .int a3, .int a4] (wX cy ad st) (wX cy ad) post := by
  refine CtI.of (own := RX10) (nm := "tries") (lv := [(0, .ref (ad 0)), (1, .int a1), (2, .int a2), (3, .int a3), (4, .int a4)]) (plainFor_of_name (by decide)) rfl rfl (Nat.le_of_ble_eq_true rfl) rfl ?_
  intro p e s m args below meth c A Q ls B hP hD hS hl hret
  obtain ⟨hx, hb, hml, hown, hts, hK, hZ, hA, hnm⟩ := B
  have SF : CallFix p m c cX10_tries 5 s args wsL_law RX10 := ⟨hx, hb, hml, hown, hts⟩
  unfold wp_X10_tries at h
  refine lv_aload_n hx hb dX10_tries_0 rfl (lv_at hl 0 rfl) ?_
  refine va_get (D := D) (ci := 9) (v := .ref (ad 13)) (C := RX10) (T := TX10) (N := 8) hx hb hts inlX10 hown hK hP 0 rfl rfl 3 (by decide) (hts _ w_2_0) (fun _ h9 => h9) rfl dX10_tries_1 ?_
  refine lv_aload_n hx hb dX10_tries_4 rfl (lv_at hl 0 rfl) ?_
  refine va_get (D := D) (ci := 9) (v := .ref (ad 3)) (C := RX10) (T := TX10) (N := 8) hx hb hts inlX10 hown hK hP 0 rfl rfl 1 (by decide) (hts _ w_1_19) (fun _ h9 => h9) rfl dX10_tries_5 ?_
  refine lv_iload hx hb dX10_tries_8 (lv_at hl 4 rfl) ?_
  refine callVV (rest := []) SF (c_X5_run l D cy tz ad st a4 _ h) (cw_RX10_105 hts ⟨Nat.le_of_ble_eq_true rfl, Nat.le_of_ble_eq_true rfl⟩) rfl rfl (va_recv hK hP (ci := 5) (q0 := 13) rfl rfl) hK hZ hA hP hD hS rfl hl.1 rfl (Nat.le_of_ble_eq_true rfl) dX10_tries_10 ⟨Nat.zero_le _, Nat.zero_le _⟩ (fun t2 H locs h hP hD hS => ?_)
  refine lv_aload_n hx hb dX10_tries_13 rfl (lv_at hl 0 rfl) ?_
  refine va_get (D := D) (ci := 9) (v := .ref (ad 17)) (C := RX10) (T := TX10) (N := 8) hx hb hts inlX10 hown hK hP 0 rfl rfl 5 (by decide) (hts _ w_2_8) (fun _ h9 => h9) rfl dX10_tries_14 ?_
  refine lv_aload_n hx hb dX10_tries_17 rfl (lv_at hl 0 rfl) ?_
  refine va_get (D := D) (ci := 9) (v := .ref (ad 3)) (C := RX10) (T := TX10) (N := 8) hx hb hts inlX10 hown hK hP 0 rfl rfl 1 (by decide) (hts _ w_1_19) (fun _ h9 => h9) rfl dX10_tries_18 ?_
  refine va_get (D := D) (ci := 7) (v := .ref (ad 11)) (C := RX7) (T := TX7) (N := 6) hx hb hts inlX7 hown hK hP 3 rfl rfl 3 (by decide) (hts _ w_14_20) (fun _ h9 => h9) rfl dX10_tries_21 ?_
  refine lv_iload_n hx hb dX10_tries_24 rfl (lv_at hl 3 rfl) ?_
  refine va_iald (f := gA t2 6) (n := 8) hx hb hK hP 11 0 rfl rfl h.1 dX10_tries_25 ?_
  have h := h.2
  refine lv_aload_n hx hb dX10_tries_26 rfl (lv_at hl 0 rfl) ?_
  refine va_get (D := D) (ci := 9) (v := .ref (ad 3)) (C := RX10) (T := TX10) (N := 8) hx hb hts inlX10 hown hK hP 0 rfl rfl 1 (by decide) (hts _ w_1_19) (fun _ h9 => h9) rfl dX10_tries_27 ?_
  refine va_get (D := D) (ci := 7) (v := .ref (ad 12)) (C := RX7) (T := TX7) (N := 6) hx hb hts inlX7 hown hK hP 3 rfl rfl 4 (by decide) (hts _ w_14_21) (fun _ h9 => h9) rfl dX10_tries_30 ?_
  refine lv_iload_n hx hb dX10_tries_33 rfl (lv_at hl 3 rfl) ?_
  refine va_iald (f := gA t2 7) (n := 8) hx hb hK hP 12 0 rfl rfl h.1 dX10_tries_34 ?_
  have h := h.2
  refine lv_aload_n hx hb dX10_tries_35 rfl (lv_at hl 0 rfl) ?_
  refine va_get (D := D) (ci := 9) (v := .ref (ad 13)) (C := RX10) (T := TX10) (N := 8) hx hb hts inlX10 hown hK hP 0 rfl rfl 3 (by decide) (hts _ w_2_0) (fun _ h9 => h9) rfl dX10_tries_36 ?_
  refine callVV (rest := []) SF (c_X8_followSeat l D cy tz ad t2 (gA t2 6 a3.toNatClampNeg) (gA t2 7 a3.toNatClampNeg) _ h) (cw_RX10_166 hts ⟨Nat.le_of_ble_eq_true rfl, Nat.le_of_ble_eq_true rfl⟩) rfl rfl (va_recv hK hP (ci := 8) (q0 := 17) rfl rfl) hK hZ hA hP hD hS rfl hl.1 rfl (Nat.le_of_ble_eq_true rfl) dX10_tries_39 ⟨Nat.zero_le _, Nat.zero_le _⟩ (fun t4 H locs h hP hD hS => ?_)
  refine lv_aload_n hx hb dX10_tries_42 rfl (lv_at hl 0 rfl) ?_
  refine va_get (D := D) (ci := 9) (v := .ref (ad 16)) (C := RX10) (T := TX10) (N := 8) hx hb hts inlX10 hown hK hP 0 rfl rfl 4 (by decide) (hts _ w_2_4) (fun _ h9 => h9) rfl dX10_tries_43 ?_
  refine lv_aload_n hx hb dX10_tries_46 rfl (lv_at hl 0 rfl) ?_
  refine va_get (D := D) (ci := 9) (v := .ref (ad 3)) (C := RX10) (T := TX10) (N := 8) hx hb hts inlX10 hown hK hP 0 rfl rfl 1 (by decide) (hts _ w_1_19) (fun _ h9 => h9) rfl dX10_tries_47 ?_
  refine va_get (D := D) (ci := 7) (v := .ref (ad 11)) (C := RX7) (T := TX7) (N := 6) hx hb hts inlX7 hown hK hP 3 rfl rfl 3 (by decide) (hts _ w_14_20) (fun _ h9 => h9) rfl dX10_tries_50 ?_
  refine lv_iload_n hx hb dX10_tries_53 rfl (lv_at hl 1 rfl) ?_
  refine va_iald (f := gA t4 6) (n := 8) hx hb hK hP 11 0 rfl rfl h.1 dX10_tries_54 ?_
  have h := h.2
  refine lv_aload_n hx hb dX10_tries_55 rfl (lv_at hl 0 rfl) ?_
  refine va_get (D := D) (ci := 9) (v := .ref (ad 3)) (C := RX10) (T := TX10) (N := 8) hx hb hts inlX10 hown hK hP 0 rfl rfl 1 (by decide) (hts _ w_1_19) (fun _ h9 => h9) rfl dX10_tries_56 ?_
  refine va_get (D := D) (ci := 7) (v := .ref (ad 12)) (C := RX7) (T := TX7) (N := 6) hx hb hts inlX7 hown hK hP 3 rfl rfl 4 (by decide) (hts _ w_14_21) (fun _ h9 => h9) rfl dX10_tries_59 ?_
  refine lv_iload_n hx hb dX10_tries_62 rfl (lv_at hl 1 rfl) ?_
  refine va_iald (f := gA t4 7) (n := 8) hx hb hK hP 12 0 rfl rfl h.1 dX10_tries_63 ?_
  have h := h.2
  refine lv_iconst (v := 0) hx hb dX10_tries_64 (by decide) ?_
  refine lv_iconst (v := 0) hx hb dX10_tries_65 (by decide) ?_
  refine lv_aload_n hx hb dX10_tries_66 rfl (lv_at hl 0 rfl) ?_
  refine va_get (D := D) (ci := 9) (v := .ref (ad 13)) (C := RX10) (T := TX10) (N := 8) hx hb hts inlX10 hown hK hP 0 rfl rfl 3 (by decide) (hts _ w_2_0) (fun _ h9 => h9) rfl dX10_tries_67 ?_
  refine callVV (rest := []) SF (c_X0_launch l D cy tz ad t4 (gA t4 6 a1.toNatClampNeg) (gA t4 7 a1.toNatClampNeg) 0 0 _ h) (cw_RX10_152 hts ⟨Nat.le_of_ble_eq_true rfl, Nat.le_of_ble_eq_true rfl⟩) rfl rfl (va_recv hK hP (ci := 0) (q0 := 16) rfl rfl) hK hZ hA hP hD hS rfl hl.1 rfl (Nat.le_of_ble_eq_true rfl) dX10_tries_70 ⟨Nat.zero_le _, Nat.zero_le _⟩ (fun t6 H locs h hP hD hS => ?_)
  refine lv_aload_n hx hb dX10_tries_73 rfl (lv_at hl 0 rfl) ?_
  refine va_get (D := D) (ci := 9) (v := .ref (ad 22)) (C := RX10) (T := TX10) (N := 8) hx hb hts inlX10 hown hK hP 0 rfl rfl 7 (by decide) (hts _ w_2_16) (fun _ h9 => h9) rfl dX10_tries_74 ?_
  refine lv_aload_n hx hb dX10_tries_77 rfl (lv_at hl 0 rfl) ?_
  refine va_get (D := D) (ci := 9) (v := .ref (ad 16)) (C := RX10) (T := TX10) (N := 8) hx hb hts inlX10 hown hK hP 0 rfl rfl 4 (by decide) (hts _ w_2_4) (fun _ h9 => h9) rfl dX10_tries_78 ?_
  refine lv_iload_n hx hb dX10_tries_81 rfl (lv_at hl 2 rfl) ?_
  refine lv_aload_n hx hb dX10_tries_82 rfl (lv_at hl 0 rfl) ?_
  refine va_get (D := D) (ci := 9) (v := .ref (ad 17)) (C := RX10) (T := TX10) (N := 8) hx hb hts inlX10 hown hK hP 0 rfl rfl 5 (by decide) (hts _ w_2_8) (fun _ h9 => h9) rfl dX10_tries_83 ?_
  refine lv_aload_n hx hb dX10_tries_86 rfl (lv_at hl 0 rfl) ?_
  refine va_get (D := D) (ci := 9) (v := .ref (ad 3)) (C := RX10) (T := TX10) (N := 8) hx hb hts inlX10 hown hK hP 0 rfl rfl 1 (by decide) (hts _ w_1_19) (fun _ h9 => h9) rfl dX10_tries_87 ?_
  refine callVIr (rest := [.ref (ad 17), .int a2, .ref (ad 16), .ref (ad 22)]) SF (c_X7_reach l D cy tz ad t6 _ h) (cw_RX10_170 hts ⟨Nat.le_of_ble_eq_true rfl, Nat.le_of_ble_eq_true rfl⟩) rfl rfl (va_recv hK hP (ci := 7) (q0 := 3) rfl rfl) hK hZ hA hP hD hS rfl hl.1 rfl (Nat.le_of_ble_eq_true rfl) dX10_tries_90 ⟨Nat.zero_le _, Nat.zero_le _⟩ (fun r7 H locs h hP hD hS => ?_)
  refine callVI (rest := []) SF (c_X3_practise l D cy tz ad t6 a2 r7 _ h) (cw_RX10_280 hts ⟨Nat.le_of_ble_eq_true rfl, Nat.le_of_ble_eq_true rfl⟩) rfl rfl (va_recv hK hP (ci := 3) (q0 := 22) rfl rfl) hK hZ hA hP hD hS rfl hl.1 rfl (Nat.le_of_ble_eq_true rfl) dX10_tries_93 ⟨Nat.zero_le _, Nat.zero_le _⟩ (fun r9 t10 H locs h hP hD hS => ?_)
  exact hret _ _ _ _ _ _ (narrow_b h.1) h.2 hP hD hS dX10_tries_96
-- X10_learnsAtFirst
def rm_X10_learnsAtFirst : Room := { frames := 6, cells := 0, slots := 0, locals := 138 }
abbrev ws_X10_learnsAtFirst : List Cond := .code yX10_learnsAtFirst cX10_learnsAtFirst 4 (some .boolean) :: wsL_law
theorem cw_RX10_276 {R : Room} {s : State} {args : Array Value} (hts : ∀ w ∈ wsL_law, w.before args s = true) (hR : rm_X3_aim.frames + 1 ≤ R.frames ∧ 8 + (5 + 11) + rm_X3_aim.locals ≤ R.locals) : CallW R s args RX10 RX3 276 yX3_aim cX3_aim 5 none ws_X3_aim rm_X3_aim rm_X3_aim.cells rm_X3_aim.slots 3 := cwV 3 hts (gdV w_33_9 w_33_10 w_33_11 w_2_15 w_33_12) rfl rfl rfl (by decide +kernel) hR
theorem cw_RX10_266 {R : Room} {s : State} {args : Array Value} (hts : ∀ w ∈ wsL_law, w.before args s = true) (hR : rm_X10_tries.frames + 1 ≤ R.frames ∧ 8 + (5 + 11) + rm_X10_tries.locals ≤ R.locals) : CallW R s args RX10 RX10 266 yX10_tries cX10_tries 5 (some .boolean) ws_X10_tries rm_X10_tries rm_X10_tries.cells rm_X10_tries.slots 4 := cwV 4 hts (gdV w_33_19 w_33_20 w_33_21 w_1_2 w_33_22) rfl rfl rfl (by decide +kernel) hR
def wp_X10_learnsAtFirst (st : St) (a1 : Int32) (a2 : Int32) (a3 : Int32) (post : Int32 → St → Prop) : Prop := vp_in a3 8 ∧ (vp_in a1 8 ∧ (vp_in a3 8 ∧ (vp_in a1 8 ∧ (wp_X3_aim st ((gA st 6 a3.toNatClampNeg) - (gA st 6 a1.toNatClampNeg)) ((gA st 7 a3.toNatClampNeg) - (gA st 7 a1.toNatClampNeg)) a2 (fun t2 => wp_X7_pace t2 (fun r3 => wp_X10_tries t2 a1 a2 a3 r3 (fun r5 t6 => r5 &&& 1 = r5 ∧ post r5 t6)))))))
set_option maxHeartbeats 4000000 in
set_option maxRecDepth 100000 in
theorem c_X10_learnsAtFirst (l : Launch) (D : va_G) (cy : Nat → ClassId) (tz : Nat → Nat) (ad : Nat → Nat) (st : St) (a1 : Int32) (a2 : Int32) (a3 : Int32) (post : Int32 → St → Prop) (h : wp_X10_learnsAtFirst st a1 a2 a3 post) : CtI l D cy tz yX10_learnsAtFirst ws_X10_learnsAtFirst rm_X10_learnsAtFirst [.ref (ad 0), .int a1, .int a2, .int a3] (wX cy ad st) (wX cy ad) post := by
  refine CtI.of (own := RX10) (nm := "learnsAtFirst") (lv := [(0, .ref (ad 0)), (1, .int a1), (2, .int a2), (3, .int a3)]) (plainFor_of_name (by decide)) rfl rfl (Nat.le_of_ble_eq_true rfl) rfl ?_
  intro p e s m args below meth c A Q ls B hP hD hS hl hret
  obtain ⟨hx, hb, hml, hown, hts, hK, hZ, hA, hnm⟩ := B
  have SF : CallFix p m c cX10_learnsAtFirst 4 s args wsL_law RX10 := ⟨hx, hb, hml, hown, hts⟩
  unfold wp_X10_learnsAtFirst at h
  refine lv_aload_n hx hb dX10_learnsAtFirst_0 rfl (lv_at hl 0 rfl) ?_
  refine va_get (D := D) (ci := 9) (v := .ref (ad 22)) (C := RX10) (T := TX10) (N := 8) hx hb hts inlX10 hown hK hP 0 rfl rfl 7 (by decide) (hts _ w_2_16) (fun _ h9 => h9) rfl dX10_learnsAtFirst_1 ?_
  refine lv_aload_n hx hb dX10_learnsAtFirst_4 rfl (lv_at hl 0 rfl) ?_
  refine va_get (D := D) (ci := 9) (v := .ref (ad 3)) (C := RX10) (T := TX10) (N := 8) hx hb hts inlX10 hown hK hP 0 rfl rfl 1 (by decide) (hts _ w_1_19) (fun _ h9 => h9) rfl dX10_learnsAtFirst_5 ?_
  refine va_get (D := D) (ci := 7) (v := .ref (ad 11)) (C := RX7) (T := TX7) (N := 6) hx hb hts inlX7 hown hK hP 3 rfl rfl 3 (by decide) (hts _ w_14_20) (fun _ h9 => h9) rfl dX10_learnsAtFirst_8 ?_
  refine lv_iload_n hx hb dX10_learnsAtFirst_11 rfl (lv_at hl 3 rfl) ?_
  refine va_iald (f := gA st 6) (n := 8) hx hb hK hP 11 0 rfl rfl h.1 dX10_learnsAtFirst_12 ?_
  have h := h.2
  refine lv_aload_n hx hb dX10_learnsAtFirst_13 rfl (lv_at hl 0 rfl) ?_
  refine va_get (D := D) (ci := 9) (v := .ref (ad 3)) (C := RX10) (T := TX10) (N := 8) hx hb hts inlX10 hown hK hP 0 rfl rfl 1 (by decide) (hts _ w_1_19) (fun _ h9 => h9) rfl dX10_learnsAtFirst_14 ?_
  refine va_get (D := D) (ci := 7) (v := .ref (ad 11)) (C := RX7) (T := TX7) (N := 6) hx hb hts inlX7 hown hK hP 3 rfl rfl 3 (by decide) (hts _ w_14_20) (fun _ h9 => h9) rfl dX10_learnsAtFirst_17 ?_
  refine lv_iload_n hx hb dX10_learnsAtFirst_20 rfl (lv_at hl 1 rfl) ?_
  refine va_iald (f := gA st 6) (n := 8) hx hb hK hP 11 0 rfl rfl h.1 dX10_learnsAtFirst_21 ?_
  have h := h.2
  refine lv_isub hx hb dX10_learnsAtFirst_22 ?_
  refine lv_aload_n hx hb dX10_learnsAtFirst_23 rfl (lv_at hl 0 rfl) ?_
  refine va_get (D := D) (ci := 9) (v := .ref (ad 3)) (C := RX10) (T := TX10) (N := 8) hx hb hts inlX10 hown hK hP 0 rfl rfl 1 (by decide) (hts _ w_1_19) (fun _ h9 => h9) rfl dX10_learnsAtFirst_24 ?_
  refine va_get (D := D) (ci := 7) (v := .ref (ad 12)) (C := RX7) (T := TX7) (N := 6) hx hb hts inlX7 hown hK hP 3 rfl rfl 4 (by decide) (hts _ w_14_21) (fun _ h9 => h9) rfl dX10_learnsAtFirst_27 ?_
  refine lv_iload_n hx hb dX10_learnsAtFirst_30 rfl (lv_at hl 3 rfl) ?_
  refine va_iald (f := gA st 7) (n := 8) hx hb hK hP 12 0 rfl rfl h.1 dX10_learnsAtFirst_31 ?_
  have h := h.2
  refine lv_aload_n hx hb dX10_learnsAtFirst_32 rfl (lv_at hl 0 rfl) ?_
  refine va_get (D := D) (ci := 9) (v := .ref (ad 3)) (C := RX10) (T := TX10) (N := 8) hx hb hts inlX10 hown hK hP 0 rfl rfl 1 (by decide) (hts _ w_1_19) (fun _ h9 => h9) rfl dX10_learnsAtFirst_33 ?_
  refine va_get (D := D) (ci := 7) (v := .ref (ad 12)) (C := RX7) (T := TX7) (N := 6) hx hb hts inlX7 hown hK hP 3 rfl rfl 4 (by decide) (hts _ w_14_21) (fun _ h9 => h9) rfl dX10_learnsAtFirst_36 ?_
  refine lv_iload_n hx hb dX10_learnsAtFirst_39 rfl (lv_at hl 1 rfl) ?_
  refine va_iald (f := gA st 7) (n := 8) hx hb hK hP 12 0 rfl rfl h.1 dX10_learnsAtFirst_40 ?_
  have h := h.2
  refine lv_isub hx hb dX10_learnsAtFirst_41 ?_
  refine lv_iload_n hx hb dX10_learnsAtFirst_42 rfl (lv_at hl 2 rfl) ?_
  refine callVV (rest := []) SF (c_X3_aim l D cy tz ad st ((gA st 6 a3.toNatClampNeg) - (gA st 6 a1.toNatClampNeg)) ((gA st 7 a3.toNatClampNeg) - (gA st 7 a1.toNatClampNeg)) a2 _ h) (cw_RX10_276 hts ⟨Nat.le_of_ble_eq_true rfl, Nat.le_of_ble_eq_true rfl⟩) rfl rfl (va_recv hK hP (ci := 3) (q0 := 22) rfl rfl) hK hZ hA hP hD hS rfl hl.1 rfl (Nat.le_of_ble_eq_true rfl) dX10_learnsAtFirst_43 ⟨Nat.zero_le _, Nat.zero_le _⟩ (fun t2 H locs h hP hD hS => ?_)
  refine lv_aload_n hx hb dX10_learnsAtFirst_46 rfl (lv_at hl 0 rfl) ?_
  refine lv_iload_n hx hb dX10_learnsAtFirst_47 rfl (lv_at hl 1 rfl) ?_
  refine lv_iload_n hx hb dX10_learnsAtFirst_48 rfl (lv_at hl 2 rfl) ?_
  refine lv_iload_n hx hb dX10_learnsAtFirst_49 rfl (lv_at hl 3 rfl) ?_
  refine lv_aload_n hx hb dX10_learnsAtFirst_50 rfl (lv_at hl 0 rfl) ?_
  refine va_get (D := D) (ci := 9) (v := .ref (ad 3)) (C := RX10) (T := TX10) (N := 8) hx hb hts inlX10 hown hK hP 0 rfl rfl 1 (by decide) (hts _ w_1_19) (fun _ h9 => h9) rfl dX10_learnsAtFirst_51 ?_
  refine callVIr (rest := [.int a3, .int a2, .int a1, .ref (ad 0)]) SF (c_X7_pace l D cy tz ad t2 _ h) (cw_RX10_102 hts ⟨Nat.le_of_ble_eq_true rfl, Nat.le_of_ble_eq_true rfl⟩) rfl rfl (va_recv hK hP (ci := 7) (q0 := 3) rfl rfl) hK hZ hA hP hD hS rfl hl.1 rfl (Nat.le_of_ble_eq_true rfl) dX10_learnsAtFirst_54 ⟨Nat.zero_le _, Nat.zero_le _⟩ (fun r3 H locs h hP hD hS => ?_)
  refine callVI (rest := []) SF (c_X10_tries l D cy tz ad t2 a1 a2 a3 r3 _ h) (cw_RX10_266 hts ⟨Nat.le_of_ble_eq_true rfl, Nat.le_of_ble_eq_true rfl⟩) rfl rfl (va_recv hK hP (ci := 9) (q0 := 0) rfl rfl) hK hZ hA hP hD hS rfl hl.1 rfl (Nat.le_of_ble_eq_true rfl) dX10_learnsAtFirst_57 ⟨Nat.zero_le _, Nat.zero_le _⟩ (fun r5 t6 H locs h hP hD hS => ?_)
  exact hret _ _ _ _ _ _ (narrow_b h.1) h.2 hP hD hS dX10_learnsAtFirst_60
-- X10_learns
def rm_X10_learns : Room := { frames := 7, cells := 0, slots := 0, locals := 161 }
abbrev ws_X10_learns : List Cond := .code yX10_learns cX10_learns 5 (some .int) :: wsL_law
theorem cw_RX10_254 {R : Room} {s : State} {args : Array Value} (hts : ∀ w ∈ wsL_law, w.before args s = true) (hR : rm_X10_areTwo.frames + 1 ≤ R.frames ∧ 8 + (3 + 11) + rm_X10_areTwo.locals ≤ R.locals) : CallW R s args RX10 RX10 254 yX10_areTwo cX10_areTwo 3 (some .boolean) ws_X10_areTwo rm_X10_areTwo rm_X10_areTwo.cells rm_X10_areTwo.slots 2 := cwV 2 hts (gdV w_33_1 w_33_2 w_33_3 w_1_2 w_33_4) rfl rfl rfl (by decide +kernel) hR
theorem cw_RX10_257 {R : Room} {s : State} {args : Array Value} (hts : ∀ w ∈ wsL_law, w.before args s = true) (hR : rm_X10_learnsAtFirst.frames + 1 ≤ R.frames ∧ 8 + (4 + 11) + rm_X10_learnsAtFirst.locals ≤ R.locals) : CallW R s args RX10 RX10 257 yX10_learnsAtFirst cX10_learnsAtFirst 4 (some .boolean) ws_X10_learnsAtFirst rm_X10_learnsAtFirst rm_X10_learnsAtFirst.cells rm_X10_learnsAtFirst.slots 3 := cwV 3 hts (gdV w_33_5 w_33_6 w_33_7 w_1_2 w_33_8) rfl rfl rfl (by decide +kernel) hR
def wp_X10_learns (st : St) (a1 : Int32) (a2 : Int32) (a3 : Int32) (a4 : Int32) (post : Int32 → St → Prop) : Prop := wp_X10_areTwo st a1 a3 (fun r1 => ((¬ r1 = 0) → (wp_X10_within a2 1 200 (fun r4 => ((r4 = 0) → (post (-2) st)) ∧ ((¬ r4 = 0) → (wp_X10_within a4 0 1 (fun r7 => ((¬ r7 = 0) → (wp_X10_learnsAtFirst st a1 a2 a3 (fun r10 t11 => ((¬ r10 = 0) → (((¬ a4 = 0) → (post (gI t11 8) t11)) ∧ ((a4 = 0) → (post (gI t11 9) t11)))) ∧ ((r10 = 0) → (post (-6) t11))))) ∧ ((r7 = 0) → (post (-2) st)))))))) ∧ ((r1 = 0) → (post (-1) st)))
set_option maxHeartbeats 4000000 in
set_option maxRecDepth 100000 in
theorem c_X10_learns (l : Launch) (D : va_G) (cy : Nat → ClassId) (tz : Nat → Nat) (ad : Nat → Nat) (st : St) (a1 : Int32) (a2 : Int32) (a3 : Int32) (a4 : Int32) (post : Int32 → St → Prop) (h : wp_X10_learns st a1 a2 a3 a4 post) : CtI l D cy tz yX10_learns ws_X10_learns rm_X10_learns [.ref (ad 0), .int a1, .int a2, .int a3, .int a4] (wX cy ad st) (wX cy ad) post := by
  refine CtI.of (own := RX10) (nm := "learns") (lv := [(0, .ref (ad 0)), (1, .int a1), (2, .int a2), (3, .int a3), (4, .int a4)]) (plainFor_of_name (by decide)) rfl rfl (Nat.le_of_ble_eq_true rfl) rfl ?_
  intro p e s m args below meth c A Q ls B hP hD hS hl hret
  obtain ⟨hx, hb, hml, hown, hts, hK, hZ, hA, hnm⟩ := B
  have SF : CallFix p m c cX10_learns 5 s args wsL_law RX10 := ⟨hx, hb, hml, hown, hts⟩
  unfold wp_X10_learns at h
  refine lv_aload_n hx hb dX10_learns_0 rfl (lv_at hl 0 rfl) ?_
  refine lv_iload_n hx hb dX10_learns_1 rfl (lv_at hl 1 rfl) ?_
  refine lv_iload_n hx hb dX10_learns_2 rfl (lv_at hl 3 rfl) ?_
  refine callVIr (rest := []) SF (c_X10_areTwo l D cy tz ad st a1 a3 _ h) (cw_RX10_254 hts ⟨Nat.le_of_ble_eq_true rfl, Nat.le_of_ble_eq_true rfl⟩) rfl rfl (va_recv hK hP (ci := 9) (q0 := 0) rfl rfl) hK hZ hA hP hD hS rfl hl.1 rfl (Nat.le_of_ble_eq_true rfl) dX10_learns_3 ⟨Nat.zero_le _, Nat.zero_le _⟩ (fun r1 H locs h hP hD hS => ?_)
  refine lv_if_ne (tgt := 11) hx hb dX10_learns_6 (by decide) (fun c3 => ?_) (fun c3 => ?_)
  · have h := h.1 c3
    refine lv_iload_n hx hb dX10_learns_11 rfl (lv_at hl 2 rfl) ?_
    refine lv_iconst (v := 1) hx hb dX10_learns_12 (by decide) ?_
    refine lv_sipush (v := 200) hx hb dX10_learns_13 (by decide) ?_
    refine callSIr (rest := []) SF (c_X10_within l D cy tz _ a2 1 200 _ h) (cw_RX10_70 hts ⟨Nat.le_of_ble_eq_true rfl, Nat.le_of_ble_eq_true rfl⟩) rfl rfl hK hZ hA hP hD hS rfl hl.1 rfl (Nat.le_of_ble_eq_true rfl) dX10_learns_16 ⟨Nat.zero_le _, Nat.zero_le _⟩ (fun r4 H locs h hP hD hS => ?_)
    refine lv_if_eq (tgt := 32) hx hb dX10_learns_19 (by decide) (fun c6 => ?_) (fun c6 => ?_)
    · have h := h.1 c6
      refine lv_bipush (v := (-2)) hx hb dX10_learns_32 (by decide) ?_
      exact hret _ _ _ _ _ _ rfl h hP hD hS dX10_learns_34
    · have h := h.2 c6
      refine lv_iload hx hb dX10_learns_22 (lv_at hl 4 rfl) ?_
      refine lv_iconst (v := 0) hx hb dX10_learns_24 (by decide) ?_
      refine lv_iconst (v := 1) hx hb dX10_learns_25 (by decide) ?_
      refine callSIr (rest := []) SF (c_X10_within l D cy tz _ a4 0 1 _ h) (cw_RX10_70 hts ⟨Nat.le_of_ble_eq_true rfl, Nat.le_of_ble_eq_true rfl⟩) rfl rfl hK hZ hA hP hD hS rfl hl.1 rfl (Nat.le_of_ble_eq_true rfl) dX10_learns_26 ⟨Nat.zero_le _, Nat.zero_le _⟩ (fun r7 H locs h hP hD hS => ?_)
      refine lv_if_ne (tgt := 35) hx hb dX10_learns_29 (by decide) (fun c9 => ?_) (fun c9 => ?_)
      · have h := h.1 c9
        refine lv_aload_n hx hb dX10_learns_35 rfl (lv_at hl 0 rfl) ?_
        refine lv_iload_n hx hb dX10_learns_36 rfl (lv_at hl 1 rfl) ?_
        refine lv_iload_n hx hb dX10_learns_37 rfl (lv_at hl 2 rfl) ?_
        refine lv_iload_n hx hb dX10_learns_38 rfl (lv_at hl 3 rfl) ?_
        refine callVI (rest := []) SF (c_X10_learnsAtFirst l D cy tz ad st a1 a2 a3 _ h) (cw_RX10_257 hts ⟨Nat.le_of_ble_eq_true rfl, Nat.le_of_ble_eq_true rfl⟩) rfl rfl (va_recv hK hP (ci := 9) (q0 := 0) rfl rfl) hK hZ hA hP hD hS rfl hl.1 rfl (Nat.le_of_ble_eq_true rfl) dX10_learns_39 ⟨Nat.zero_le _, Nat.zero_le _⟩ (fun r10 t11 H locs h hP hD hS => ?_)
        refine lv_if_ne (tgt := 48) hx hb dX10_learns_42 (by decide) (fun c12 => ?_) (fun c12 => ?_)
        · have h := h.1 c12
          refine lv_iload hx hb dX10_learns_48 (lv_at hl 4 rfl) ?_
          refine lv_if_ne (tgt := 63) hx hb dX10_learns_50 (by decide) (fun c13 => ?_) (fun c13 => ?_)
          · have h := h.1 c13
            refine lv_aload_n hx hb dX10_learns_63 rfl (lv_at hl 0 rfl) ?_
            refine va_get (D := D) (ci := 9) (v := .ref (ad 22)) (C := RX10) (T := TX10) (N := 8) hx hb hts inlX10 hown hK hP 0 rfl rfl 7 (by decide) (hts _ w_2_16) (fun _ h9 => h9) rfl dX10_learns_64 ?_
            refine va_get (D := D) (ci := 3) (v := .int (gI t11 8)) (C := RX3) (T := TX3) (N := 2) hx hb hts inlX3 hown hK hP 22 rfl rfl 0 (by decide) (hts _ w_33_0) (fun _ h9 => h9) rfl dX10_learns_67 ?_
            exact hret _ _ _ _ _ _ rfl h hP hD hS dX10_learns_70
          · have h := h.2 c13
            refine lv_aload_n hx hb dX10_learns_53 rfl (lv_at hl 0 rfl) ?_
            refine va_get (D := D) (ci := 9) (v := .ref (ad 22)) (C := RX10) (T := TX10) (N := 8) hx hb hts inlX10 hown hK hP 0 rfl rfl 7 (by decide) (hts _ w_2_16) (fun _ h9 => h9) rfl dX10_learns_54 ?_
            refine va_get (D := D) (ci := 3) (v := .int (gI t11 9)) (C := RX3) (T := TX3) (N := 2) hx hb hts inlX3 hown hK hP 22 rfl rfl 1 (by decide) (hts _ w_32_23) (fun _ h9 => h9) rfl dX10_learns_57 ?_
            refine lv_goto (tgt := 70) hx hb dX10_learns_60 (by decide) ?_
            exact hret _ _ _ _ _ _ rfl h hP hD hS dX10_learns_70
        · have h := h.2 c12
          refine lv_bipush (v := (-6)) hx hb dX10_learns_45 (by decide) ?_
          exact hret _ _ _ _ _ _ rfl h hP hD hS dX10_learns_47
      · have h := h.2 c9
        refine lv_bipush (v := (-2)) hx hb dX10_learns_32 (by decide) ?_
        exact hret _ _ _ _ _ _ rfl h hP hD hS dX10_learns_34
  · have h := h.2 c3
    refine lv_iconst (v := (-1)) hx hb dX10_learns_9 (by decide) ?_
    exact hret _ _ _ _ _ _ rfl h hP hD hS dX10_learns_10
-- X10_along
def rm_X10_along : Room := { frames := 7, cells := 0, slots := 0, locals := 161 }
abbrev ws_X10_along : List Cond := .code yX10_along cX10_along 5 (some .int) :: wsL_law
def wp_X10_along (st : St) (a1 : Int32) (a2 : Int32) (a3 : Int32) (a4 : Int32) (post : Int32 → St → Prop) : Prop := wp_X10_areTwo st a1 a3 (fun r1 => ((¬ r1 = 0) → (wp_X10_within a2 1 200 (fun r4 => ((r4 = 0) → (post (-2) st)) ∧ ((¬ r4 = 0) → (wp_X10_within a4 0 198 (fun r7 => ((¬ r7 = 0) → (wp_X10_learnsAtFirst st a1 a2 a3 (fun r10 t11 => ((¬ r10 = 0) → (wp_X10_tries t11 a1 a2 a3 (a4 - 99) (fun r13 t14 => ((r13 = 0) → (post (-6) t14)) ∧ ((¬ r13 = 0) → (post (gI t14 9) t14))))) ∧ ((r10 = 0) → (post (-6) t11))))) ∧ ((r7 = 0) → (post (-2) st)))))))) ∧ ((r1 = 0) → (post (-1) st)))
set_option maxHeartbeats 4000000 in
set_option maxRecDepth 100000 in
theorem c_X10_along (l : Launch) (D : va_G) (cy : Nat → ClassId) (tz : Nat → Nat) (ad : Nat → Nat) (st : St) (a1 : Int32) (a2 : Int32) (a3 : Int32) (a4 : Int32) (post : Int32 → St → Prop) (h : wp_X10_along st a1 a2 a3 a4 post) : CtI l D cy tz yX10_along ws_X10_along rm_X10_along [.ref (ad 0), .int a1, .int a2, .int a3, .int a4] (wX cy ad st) (wX cy ad) post := by
  refine CtI.of (own := RX10) (nm := "along") (lv := [(0, .ref (ad 0)), (1, .int a1), (2, .int a2), (3, .int a3), (4, .int a4)]) (plainFor_of_name (by decide)) rfl rfl (Nat.le_of_ble_eq_true rfl) rfl ?_
  intro p e s m args below meth c A Q ls B hP hD hS hl hret
  obtain ⟨hx, hb, hml, hown, hts, hK, hZ, hA, hnm⟩ := B
  have SF : CallFix p m c cX10_along 5 s args wsL_law RX10 := ⟨hx, hb, hml, hown, hts⟩
  unfold wp_X10_along at h
  refine lv_aload_n hx hb dX10_along_0 rfl (lv_at hl 0 rfl) ?_
  refine lv_iload_n hx hb dX10_along_1 rfl (lv_at hl 1 rfl) ?_
  refine lv_iload_n hx hb dX10_along_2 rfl (lv_at hl 3 rfl) ?_
  refine callVIr (rest := []) SF (c_X10_areTwo l D cy tz ad st a1 a3 _ h) (cw_RX10_254 hts ⟨Nat.le_of_ble_eq_true rfl, Nat.le_of_ble_eq_true rfl⟩) rfl rfl (va_recv hK hP (ci := 9) (q0 := 0) rfl rfl) hK hZ hA hP hD hS rfl hl.1 rfl (Nat.le_of_ble_eq_true rfl) dX10_along_3 ⟨Nat.zero_le _, Nat.zero_le _⟩ (fun r1 H locs h hP hD hS => ?_)
  refine lv_if_ne (tgt := 11) hx hb dX10_along_6 (by decide) (fun c3 => ?_) (fun c3 => ?_)
  · have h := h.1 c3
    refine lv_iload_n hx hb dX10_along_11 rfl (lv_at hl 2 rfl) ?_
    refine lv_iconst (v := 1) hx hb dX10_along_12 (by decide) ?_
    refine lv_sipush (v := 200) hx hb dX10_along_13 (by decide) ?_
    refine callSIr (rest := []) SF (c_X10_within l D cy tz _ a2 1 200 _ h) (cw_RX10_70 hts ⟨Nat.le_of_ble_eq_true rfl, Nat.le_of_ble_eq_true rfl⟩) rfl rfl hK hZ hA hP hD hS rfl hl.1 rfl (Nat.le_of_ble_eq_true rfl) dX10_along_16 ⟨Nat.zero_le _, Nat.zero_le _⟩ (fun r4 H locs h hP hD hS => ?_)
    refine lv_if_eq (tgt := 34) hx hb dX10_along_19 (by decide) (fun c6 => ?_) (fun c6 => ?_)
    · have h := h.1 c6
      refine lv_bipush (v := (-2)) hx hb dX10_along_34 (by decide) ?_
      exact hret _ _ _ _ _ _ rfl h hP hD hS dX10_along_36
    · have h := h.2 c6
      refine lv_iload hx hb dX10_along_22 (lv_at hl 4 rfl) ?_
      refine lv_iconst (v := 0) hx hb dX10_along_24 (by decide) ?_
      refine lv_sipush (v := 198) hx hb dX10_along_25 (by decide) ?_
      refine callSIr (rest := []) SF (c_X10_within l D cy tz _ a4 0 198 _ h) (cw_RX10_70 hts ⟨Nat.le_of_ble_eq_true rfl, Nat.le_of_ble_eq_true rfl⟩) rfl rfl hK hZ hA hP hD hS rfl hl.1 rfl (Nat.le_of_ble_eq_true rfl) dX10_along_28 ⟨Nat.zero_le _, Nat.zero_le _⟩ (fun r7 H locs h hP hD hS => ?_)
      refine lv_if_ne (tgt := 37) hx hb dX10_along_31 (by decide) (fun c9 => ?_) (fun c9 => ?_)
      · have h := h.1 c9
        refine lv_aload_n hx hb dX10_along_37 rfl (lv_at hl 0 rfl) ?_
        refine lv_iload_n hx hb dX10_along_38 rfl (lv_at hl 1 rfl) ?_
        refine lv_iload_n hx hb dX10_along_39 rfl (lv_at hl 2 rfl) ?_
        refine lv_iload_n hx hb dX10_along_40 rfl (lv_at hl 3 rfl) ?_
        refine callVI (rest := []) SF (c_X10_learnsAtFirst l D cy tz ad st a1 a2 a3 _ h) (cw_RX10_257 hts ⟨Nat.le_of_ble_eq_true rfl, Nat.le_of_ble_eq_true rfl⟩) rfl rfl (va_recv hK hP (ci := 9) (q0 := 0) rfl rfl) hK hZ hA hP hD hS rfl hl.1 rfl (Nat.le_of_ble_eq_true rfl) dX10_along_41 ⟨Nat.zero_le _, Nat.zero_le _⟩ (fun r10 t11 H locs h hP hD hS => ?_)
        refine lv_if_ne (tgt := 50) hx hb dX10_along_44 (by decide) (fun c12 => ?_) (fun c12 => ?_)
        · have h := h.1 c12
          refine lv_aload_n hx hb dX10_along_50 rfl (lv_at hl 0 rfl) ?_
          refine lv_iload_n hx hb dX10_along_51 rfl (lv_at hl 1 rfl) ?_
          refine lv_iload_n hx hb dX10_along_52 rfl (lv_at hl 2 rfl) ?_
          refine lv_iload_n hx hb dX10_along_53 rfl (lv_at hl 3 rfl) ?_
          refine lv_iload hx hb dX10_along_54 (lv_at hl 4 rfl) ?_
          refine lv_bipush (v := 99) hx hb dX10_along_56 (by decide) ?_
          refine lv_isub hx hb dX10_along_58 ?_
          refine callVI (rest := []) SF (c_X10_tries l D cy tz ad t11 a1 a2 a3 (a4 - 99) _ h) (cw_RX10_266 hts ⟨Nat.le_of_ble_eq_true rfl, Nat.le_of_ble_eq_true rfl⟩) rfl rfl (va_recv hK hP (ci := 9) (q0 := 0) rfl rfl) hK hZ hA hP hD hS rfl hl.1 rfl (Nat.le_of_ble_eq_true rfl) dX10_along_59 ⟨Nat.zero_le _, Nat.zero_le _⟩ (fun r13 t14 H locs h hP hD hS => ?_)
          refine lv_if_eq (tgt := 75) hx hb dX10_along_62 (by decide) (fun c15 => ?_) (fun c15 => ?_)
          · have h := h.1 c15
            refine lv_bipush (v := (-6)) hx hb dX10_along_75 (by decide) ?_
            exact hret _ _ _ _ _ _ rfl h hP hD hS dX10_along_77
          · have h := h.2 c15
            refine lv_aload_n hx hb dX10_along_65 rfl (lv_at hl 0 rfl) ?_
            refine va_get (D := D) (ci := 9) (v := .ref (ad 22)) (C := RX10) (T := TX10) (N := 8) hx hb hts inlX10 hown hK hP 0 rfl rfl 7 (by decide) (hts _ w_2_16) (fun _ h9 => h9) rfl dX10_along_66 ?_
            refine va_get (D := D) (ci := 3) (v := .int (gI t14 9)) (C := RX3) (T := TX3) (N := 2) hx hb hts inlX3 hown hK hP 22 rfl rfl 1 (by decide) (hts _ w_32_23) (fun _ h9 => h9) rfl dX10_along_69 ?_
            refine lv_goto (tgt := 77) hx hb dX10_along_72 (by decide) ?_
            exact hret _ _ _ _ _ _ rfl h hP hD hS dX10_along_77
        · have h := h.2 c12
          refine lv_bipush (v := (-6)) hx hb dX10_along_47 (by decide) ?_
          exact hret _ _ _ _ _ _ rfl h hP hD hS dX10_along_49
      · have h := h.2 c9
        refine lv_bipush (v := (-2)) hx hb dX10_along_34 (by decide) ?_
        exact hret _ _ _ _ _ _ rfl h hP hD hS dX10_along_36
  · have h := h.2 c3
    refine lv_iconst (v := (-1)) hx hb dX10_along_9 (by decide) ?_
    exact hret _ _ _ _ _ _ rfl h hP hD hS dX10_along_10
-- X10_told
def rm_X10_told : Room := { frames := 1, cells := 0, slots := 0, locals := 22 }
abbrev ws_X10_told : List Cond := .code yX10_told cX10_told 2 (some .int) :: wsL_law
def wp_X10_told (st : St) (a1 : Int32) (post : Int32 → Prop) : Prop := wp_X10_within a1 0 8 (fun r1 => ((¬ r1 = 0) → (((a1.toInt < 0 ∨ 3 < a1.toInt) → (vp_in (a1 - 4) 5 ∧ (post (gA st 1 (a1 - 4).toNatClampNeg)))) ∧ ((a1.toInt = 0) → (post (gI st 0))) ∧ ((a1.toInt = 1) → (post (gI st 3))) ∧ ((a1.toInt = 2) → (post (gI st 1))) ∧ ((a1.toInt = 3) → (post (gI st 4))))) ∧ ((r1 = 0) → (post (-2))))
set_option maxHeartbeats 4000000 in
set_option maxRecDepth 100000 in
theorem c_X10_told (l : Launch) (D : va_G) (cy : Nat → ClassId) (tz : Nat → Nat) (ad : Nat → Nat) (st : St) (a1 : Int32) (post : Int32 → Prop) (h : wp_X10_told st a1 post) : CtI l D cy tz yX10_told ws_X10_told rm_X10_told [.ref (ad 0), .int a1] (wX cy ad st) (fun _ : Unit => wX cy ad st) (fun r _ => post r) := by
  refine CtI.of (own := RX10) (nm := "told") (lv := [(0, .ref (ad 0)), (1, .int a1)]) (plainFor_of_name (by decide)) rfl rfl (Nat.le_of_ble_eq_true rfl) rfl ?_
  intro p e s m args below meth c A Q ls B hP hD hS hl hret
  obtain ⟨hx, hb, hml, hown, hts, hK, hZ, hA, hnm⟩ := B
  have SF : CallFix p m c cX10_told 2 s args wsL_law RX10 := ⟨hx, hb, hml, hown, hts⟩
  unfold wp_X10_told at h
  refine lv_iload_n hx hb dX10_told_0 rfl (lv_at hl 1 rfl) ?_
  refine lv_iconst (v := 0) hx hb dX10_told_1 (by decide) ?_
  refine lv_bipush (v := 8) hx hb dX10_told_2 (by decide) ?_
  refine callSIr (rest := []) SF (c_X10_within l D cy tz _ a1 0 8 _ h) (cw_RX10_70 hts ⟨Nat.le_of_ble_eq_true rfl, Nat.le_of_ble_eq_true rfl⟩) rfl rfl hK hZ hA hP hD hS rfl hl.1 rfl (Nat.le_of_ble_eq_true rfl) dX10_told_4 ⟨Nat.zero_le _, Nat.zero_le _⟩ (fun r1 H locs h hP hD hS => ?_)
  refine lv_if_ne (tgt := 13) hx hb dX10_told_7 (by decide) (fun c3 => ?_) (fun c3 => ?_)
  · have h := h.1 c3
    refine lv_iload_n hx hb dX10_told_13 rfl (lv_at hl 1 rfl) ?_
    rcases (show ((a1.toInt < 0 ∨ 3 < a1.toInt) ∨ a1.toInt = 0 ∨ a1.toInt = 1 ∨ a1.toInt = 2 ∨ a1.toInt = 3) by omega) with c4 | c4 | c4 | c4 | c4
    · have h := h.1 c4
      refine lv_tableOut (tgt := 82) hx hb dX10_told_14 c4 (by decide) ?_
      refine lv_aload_n hx hb dX10_told_82 rfl (lv_at hl 0 rfl) ?_
      refine va_get (D := D) (ci := 9) (v := .ref (ad 3)) (C := RX10) (T := TX10) (N := 8) hx hb hts inlX10 hown hK hP 0 rfl rfl 1 (by decide) (hts _ w_1_19) (fun _ h9 => h9) rfl dX10_told_83 ?_
      refine va_get (D := D) (ci := 7) (v := .ref (ad 4)) (C := RX7) (T := TX7) (N := 6) hx hb hts inlX7 hown hK hP 3 rfl rfl 0 (by decide) (hts _ w_6_5) (fun _ h9 => h9) rfl dX10_told_86 ?_
      refine lv_iload_n hx hb dX10_told_89 rfl (lv_at hl 1 rfl) ?_
      refine lv_iconst (v := 4) hx hb dX10_told_90 (by decide) ?_
      refine lv_isub hx hb dX10_told_91 ?_
      refine va_iald (f := gA st 1) (n := 5) hx hb hK hP 4 0 rfl rfl h.1 dX10_told_92 ?_
      have h := h.2
      exact hret _ () _ _ _ _ rfl h hP hD hS dX10_told_93
    · have h := h.2.1 c4
      refine lv_tableIn (off := 30) (tgt := 44) hx hb dX10_told_14 (by omega) (by omega) (by rw [c4]; rfl) (by decide) ?_
      refine lv_aload_n hx hb dX10_told_44 rfl (lv_at hl 0 rfl) ?_
      refine va_get (D := D) (ci := 9) (v := .ref (ad 1)) (C := RX10) (T := TX10) (N := 8) hx hb hts inlX10 hown hK hP 0 rfl rfl 0 (by decide) (hts _ w_1_15) (fun _ h9 => h9) rfl dX10_told_45 ?_
      refine va_get (D := D) (ci := 4) (v := .int (gI st 0)) (C := RX4) (T := TX4) (N := 2) hx hb hts inlX4 hown hK hP 1 rfl rfl 1 (by decide) (hts _ w_7_5) (fun _ h9 => h9) rfl dX10_told_48 ?_
      exact hret _ () _ _ _ _ rfl h hP hD hS dX10_told_51
    · have h := h.2.2.1 c4
      refine lv_tableIn (off := 38) (tgt := 52) hx hb dX10_told_14 (by omega) (by omega) (by rw [c4]; rfl) (by decide) ?_
      refine lv_aload_n hx hb dX10_told_52 rfl (lv_at hl 0 rfl) ?_
      refine va_get (D := D) (ci := 9) (v := .ref (ad 3)) (C := RX10) (T := TX10) (N := 8) hx hb hts inlX10 hown hK hP 0 rfl rfl 1 (by decide) (hts _ w_1_19) (fun _ h9 => h9) rfl dX10_told_53 ?_
      refine va_get (D := D) (ci := 7) (v := .ref (ad 5)) (C := RX7) (T := TX7) (N := 6) hx hb hts inlX7 hown hK hP 3 rfl rfl 1 (by decide) (hts _ w_9_7) (fun _ h9 => h9) rfl dX10_told_56 ?_
      refine va_get (D := D) (ci := 6) (v := .int (gI st 3)) (C := RX6) (T := TX6) (N := 4) hx hb hts inlX6 hown hK hP 5 rfl rfl 3 (by decide) (hts _ w_9_8) (fun _ h9 => h9) rfl dX10_told_59 ?_
      exact hret _ () _ _ _ _ rfl h hP hD hS dX10_told_62
    · have h := h.2.2.2.1 c4
      refine lv_tableIn (off := 49) (tgt := 63) hx hb dX10_told_14 (by omega) (by omega) (by rw [c4]; rfl) (by decide) ?_
      refine lv_aload_n hx hb dX10_told_63 rfl (lv_at hl 0 rfl) ?_
      refine va_get (D := D) (ci := 9) (v := .ref (ad 3)) (C := RX10) (T := TX10) (N := 8) hx hb hts inlX10 hown hK hP 0 rfl rfl 1 (by decide) (hts _ w_1_19) (fun _ h9 => h9) rfl dX10_told_64 ?_
      refine va_get (D := D) (ci := 7) (v := .int (gI st 1)) (C := RX7) (T := TX7) (N := 6) hx hb hts inlX7 hown hK hP 3 rfl rfl 5 (by decide) (hts _ w_12_20) (fun _ h9 => h9) rfl dX10_told_67 ?_
      exact hret _ () _ _ _ _ rfl h hP hD hS dX10_told_70
    · have h := h.2.2.2.2 c4
      refine lv_tableIn (off := 57) (tgt := 71) hx hb dX10_told_14 (by omega) (by omega) (by rw [c4]; rfl) (by decide) ?_
      refine lv_aload_n hx hb dX10_told_71 rfl (lv_at hl 0 rfl) ?_
      refine va_get (D := D) (ci := 9) (v := .ref (ad 3)) (C := RX10) (T := TX10) (N := 8) hx hb hts inlX10 hown hK hP 0 rfl rfl 1 (by decide) (hts _ w_1_19) (fun _ h9 => h9) rfl dX10_told_72 ?_
      refine va_get (D := D) (ci := 7) (v := .ref (ad 8)) (C := RX7) (T := TX7) (N := 6) hx hb hts inlX7 hown hK hP 3 rfl rfl 2 (by decide) (hts _ w_29_5) (fun _ h9 => h9) rfl dX10_told_75 ?_
      refine va_get (D := D) (ci := 2) (v := .int (gI st 4)) (C := RX2) (T := TX2) (N := 3) hx hb hts inlX2 hown hK hP 8 rfl rfl 2 (by decide) (hts _ w_29_6) (fun _ h9 => h9) rfl dX10_told_78 ?_
      exact hret _ () _ _ _ _ rfl h hP hD hS dX10_told_81
  · have h := h.2 c3
    refine lv_bipush (v := (-2)) hx hb dX10_told_10 (by decide) ?_
    exact hret _ () _ _ _ _ rfl h hP hD hS dX10_told_12
-- X10_isImage
def rm_X10_isImage : Room := { frames := 1, cells := 0, slots := 0, locals := 22 }
abbrev ws_X10_isImage : List Cond := .code yX10_isImage cX10_isImage 1 (some .boolean) :: wsL_law
def wp_X10_isImage (a1 : Int32) (post : Int32 → Prop) : Prop := wp_X10_within a1 0 1 (fun r1 => r1 &&& 1 = r1 ∧ post r1)
set_option maxHeartbeats 4000000 in
set_option maxRecDepth 100000 in
theorem c_X10_isImage (l : Launch) (D : va_G) (cy : Nat → ClassId) (tz : Nat → Nat) (w : va_W) (a1 : Int32) (post : Int32 → Prop) (h : wp_X10_isImage a1 post) : CtI l D cy tz yX10_isImage ws_X10_isImage rm_X10_isImage [.int a1] w (fun _ : Unit => w) (fun r _ => post r) := by
  refine CtI.of (own := RX10) (nm := "isImage") (lv := [(0, .int a1)]) (plainFor_of_name (by decide)) rfl rfl (Nat.le_of_ble_eq_true rfl) rfl ?_
  intro p e s m args below meth c A Q ls B hP hD hS hl hret
  obtain ⟨hx, hb, hml, hown, hts, hK, hZ, hA, hnm⟩ := B
  have SF : CallFix p m c cX10_isImage 1 s args wsL_law RX10 := ⟨hx, hb, hml, hown, hts⟩
  unfold wp_X10_isImage at h
  refine lv_iload_n hx hb dX10_isImage_0 rfl (lv_at hl 0 rfl) ?_
  refine lv_iconst (v := 0) hx hb dX10_isImage_1 (by decide) ?_
  refine lv_iconst (v := 1) hx hb dX10_isImage_2 (by decide) ?_
  refine callSIr (rest := []) SF (c_X10_within l D cy tz _ a1 0 1 _ h) (cw_RX10_70 hts ⟨Nat.le_of_ble_eq_true rfl, Nat.le_of_ble_eq_true rfl⟩) rfl rfl hK hZ hA hP hD hS rfl hl.1 rfl (Nat.le_of_ble_eq_true rfl) dX10_isImage_3 ⟨Nat.zero_le _, Nat.zero_le _⟩ (fun r1 H locs h hP hD hS => ?_)
  exact hret _ () _ _ _ _ (narrow_b h.1) h.2 hP hD hS dX10_isImage_6
-- X11_in
def rm_X11_in : Room := { frames := 0, cells := 0, slots := 0, locals := 0 }
abbrev ws_X11_in : List Cond := .code yX11_in cX11_in 6 (some .boolean) :: wsL_law
def wp_X11_in (a1 : Int64) (a2 : Int64) (a3 : Int64) (post : Int32 → Prop) : Prop := ((a1 < a2) → (post 0)) ∧ ((¬ a1 < a2) → (((a3 < a1) → (post 0)) ∧ ((¬ a3 < a1) → (post 1))))
set_option maxHeartbeats 4000000 in
set_option maxRecDepth 100000 in
theorem c_X11_in (l : Launch) (D : va_G) (cy : Nat → ClassId) (tz : Nat → Nat) (w : va_W) (a1 : Int64) (a2 : Int64) (a3 : Int64) (post : Int32 → Prop) (h : wp_X11_in a1 a2 a3 post) : CtI l D cy tz yX11_in ws_X11_in rm_X11_in [.long a1, .long a2, .long a3] w (fun _ : Unit => w) (fun r _ => post r) := by
  refine CtI.of (own := RX11) (nm := "in") (lv := [(0, .long a1), (2, .long a2), (4, .long a3)]) (plainFor_of_name (by decide)) rfl rfl (Nat.le_of_ble_eq_true rfl) rfl ?_
  intro p e s m args below meth c A Q ls B hP hD hS hl hret
  obtain ⟨hx, hb, hml, hown, hts, hK, hZ, hA, hnm⟩ := B
  have SF : CallFix p m c cX11_in 6 s args wsL_law RX11 := ⟨hx, hb, hml, hown, hts⟩
  unfold wp_X11_in at h
  refine lv_lload_n hx hb dX11_in_0 rfl (lv_at hl 0 rfl) ?_
  refine lv_lload_n hx hb dX11_in_1 rfl (lv_at hl 1 rfl) ?_
  refine W.lcmp hx hb dX11_in_2 ?_
  refine lv_if_lt (tgt := 17) hx hb dX11_in_3 (by decide) (fun c1 => ?_) (fun c1 => ?_)
  · have h := h.1 ((lg_cmp_lt _ _).mp c1)
    refine lv_iconst (v := 0) hx hb dX11_in_17 (by decide) ?_
    exact hret _ () _ _ _ _ rfl h hP hD hS dX11_in_18
  · have h := h.2 (fun z => c1 ((lg_cmp_lt _ _).mpr z))
    refine lv_lload_n hx hb dX11_in_6 rfl (lv_at hl 0 rfl) ?_
    refine lv_lload hx hb dX11_in_7 (lv_at hl 2 rfl) ?_
    refine W.lcmp hx hb dX11_in_9 ?_
    refine lv_if_gt (tgt := 17) hx hb dX11_in_10 (by decide) (fun c2 => ?_) (fun c2 => ?_)
    · have h := h.1 ((lg_cmp_gt _ _).mp c2)
      refine lv_iconst (v := 0) hx hb dX11_in_17 (by decide) ?_
      exact hret _ () _ _ _ _ rfl h hP hD hS dX11_in_18
    · have h := h.2 (fun z => c2 ((lg_cmp_gt _ _).mpr z))
      refine lv_iconst (v := 1) hx hb dX11_in_13 (by decide) ?_
      refine lv_goto (tgt := 18) hx hb dX11_in_14 (by decide) ?_
      exact hret _ () _ _ _ _ rfl h hP hD hS dX11_in_18
-- X11_size
def rm_X11_size : Room := { frames := 0, cells := 0, slots := 0, locals := 0 }
abbrev ws_X11_size : List Cond := .code yX11_size cX11_size 1 (some .int) :: wsL_law
def wp_X11_size (a1 : Int32) (post : Int32 → Prop) : Prop := ((0 ≤ a1) → (post a1)) ∧ ((¬ 0 ≤ a1) → (post (-a1)))
set_option maxHeartbeats 4000000 in
set_option maxRecDepth 100000 in
theorem c_X11_size (l : Launch) (D : va_G) (cy : Nat → ClassId) (tz : Nat → Nat) (w : va_W) (a1 : Int32) (post : Int32 → Prop) (h : wp_X11_size a1 post) : CtI l D cy tz yX11_size ws_X11_size rm_X11_size [.int a1] w (fun _ : Unit => w) (fun r _ => post r) := by
  refine CtI.of (own := RX11) (nm := "size") (lv := [(0, .int a1)]) (plainFor_of_name (by decide)) rfl rfl (Nat.le_of_ble_eq_true rfl) rfl ?_
  intro p e s m args below meth c A Q ls B hP hD hS hl hret
  obtain ⟨hx, hb, hml, hown, hts, hK, hZ, hA, hnm⟩ := B
  have SF : CallFix p m c cX11_size 1 s args wsL_law RX11 := ⟨hx, hb, hml, hown, hts⟩
  unfold wp_X11_size at h
  refine lv_iload_n hx hb dX11_size_0 rfl (lv_at hl 0 rfl) ?_
  refine lv_if_ge (tgt := 9) hx hb dX11_size_1 (by decide) (fun c1 => ?_) (fun c1 => ?_)
  · have h := h.1 c1
    refine lv_iload_n hx hb dX11_size_9 rfl (lv_at hl 0 rfl) ?_
    exact hret _ () _ _ _ _ rfl h hP hD hS dX11_size_10
  · have h := h.2 c1
    refine lv_iload_n hx hb dX11_size_4 rfl (lv_at hl 0 rfl) ?_
    refine lv_ineg hx hb dX11_size_5 ?_
    refine lv_goto (tgt := 10) hx hb dX11_size_6 (by decide) ?_
    exact hret _ () _ _ _ _ rfl h hP hD hS dX11_size_10
-- X11_isWay
def rm_X11_isWay : Room := { frames := 1, cells := 0, slots := 0, locals := 25 }
abbrev ws_X11_isWay : List Cond := .code yX11_isWay cX11_isWay 1 (some .boolean) :: wsL_law
theorem cw_RX11_67 {R : Room} {s : State} {args : Array Value} (hts : ∀ w ∈ wsL_law, w.before args s = true) (hR : rm_X11_in.frames + 1 ≤ R.frames ∧ 8 + (6 + 11) + rm_X11_in.locals ≤ R.locals) : CallB R s args RX11 67 yX11_in cX11_in 6 (some .boolean) ws_X11_in rm_X11_in rm_X11_in.cells rm_X11_in.slots 3 ∧ (Cond.static yX11_in).before args s = true := va_cwS 3 hts (gdS w_6_18 w_6_19 w_1_5 w_6_20) rfl rfl rfl (by decide +kernel) hR
def wp_X11_isWay (a1 : Int32) (post : Int32 → Prop) : Prop := wp_X11_in a1.toInt64 0 23 (fun r1 => r1 &&& 1 = r1 ∧ post r1)
set_option maxHeartbeats 4000000 in
set_option maxRecDepth 100000 in
theorem c_X11_isWay (l : Launch) (D : va_G) (cy : Nat → ClassId) (tz : Nat → Nat) (w : va_W) (a1 : Int32) (post : Int32 → Prop) (h : wp_X11_isWay a1 post) : CtI l D cy tz yX11_isWay ws_X11_isWay rm_X11_isWay [.int a1] w (fun _ : Unit => w) (fun r _ => post r) := by
  refine CtI.of (own := RX11) (nm := "isWay") (lv := [(0, .int a1)]) (plainFor_of_name (by decide)) rfl rfl (Nat.le_of_ble_eq_true rfl) rfl ?_
  intro p e s m args below meth c A Q ls B hP hD hS hl hret
  obtain ⟨hx, hb, hml, hown, hts, hK, hZ, hA, hnm⟩ := B
  have SF : CallFix p m c cX11_isWay 1 s args wsL_law RX11 := ⟨hx, hb, hml, hown, hts⟩
  unfold wp_X11_isWay at h
  refine lv_iload_n hx hb dX11_isWay_0 rfl (lv_at hl 0 rfl) ?_
  refine lv_i2l (v := a1.toInt64) hx hb dX11_isWay_1 rfl ?_
  refine lv_lconst (v := 0) hx hb dX11_isWay_2 (by decide) ?_
  refine lv_ldc2 (v := 23) hx hb hown (hts _ w_14_8) dX11_isWay_3 ?_
  refine callSIr (rest := []) SF (c_X11_in l D cy tz _ a1.toInt64 0 23 _ h) (cw_RX11_67 hts ⟨Nat.le_of_ble_eq_true rfl, Nat.le_of_ble_eq_true rfl⟩) rfl rfl hK hZ hA hP hD hS rfl hl.1 rfl (Nat.le_of_ble_eq_true rfl) dX11_isWay_6 ⟨Nat.zero_le _, Nat.zero_le _⟩ (fun r1 H locs h hP hD hS => ?_)
  exact hret _ () _ _ _ _ (narrow_b h.1) h.2 hP hD hS dX11_isWay_9
-- X11_isTick
def rm_X11_isTick : Room := { frames := 1, cells := 0, slots := 0, locals := 25 }
abbrev ws_X11_isTick : List Cond := .code yX11_isTick cX11_isTick 1 (some .boolean) :: wsL_law
def wp_X11_isTick (a1 : Int32) (post : Int32 → Prop) : Prop := wp_X11_in a1.toInt64 0 60 (fun r1 => r1 &&& 1 = r1 ∧ post r1)
set_option maxHeartbeats 4000000 in
set_option maxRecDepth 100000 in
theorem c_X11_isTick (l : Launch) (D : va_G) (cy : Nat → ClassId) (tz : Nat → Nat) (w : va_W) (a1 : Int32) (post : Int32 → Prop) (h : wp_X11_isTick a1 post) : CtI l D cy tz yX11_isTick ws_X11_isTick rm_X11_isTick [.int a1] w (fun _ : Unit => w) (fun r _ => post r) := by
  refine CtI.of (own := RX11) (nm := "isTick") (lv := [(0, .int a1)]) (plainFor_of_name (by decide)) rfl rfl (Nat.le_of_ble_eq_true rfl) rfl ?_
  intro p e s m args below meth c A Q ls B hP hD hS hl hret
  obtain ⟨hx, hb, hml, hown, hts, hK, hZ, hA, hnm⟩ := B
  have SF : CallFix p m c cX11_isTick 1 s args wsL_law RX11 := ⟨hx, hb, hml, hown, hts⟩
  unfold wp_X11_isTick at h
  refine lv_iload_n hx hb dX11_isTick_0 rfl (lv_at hl 0 rfl) ?_
  refine lv_i2l (v := a1.toInt64) hx hb dX11_isTick_1 rfl ?_
  refine lv_lconst (v := 0) hx hb dX11_isTick_2 (by decide) ?_
  refine lv_ldc2 (v := 60) hx hb hown (hts _ w_12_5) dX11_isTick_3 ?_
  refine callSIr (rest := []) SF (c_X11_in l D cy tz _ a1.toInt64 0 60 _ h) (cw_RX11_67 hts ⟨Nat.le_of_ble_eq_true rfl, Nat.le_of_ble_eq_true rfl⟩) rfl rfl hK hZ hA hP hD hS rfl hl.1 rfl (Nat.le_of_ble_eq_true rfl) dX11_isTick_6 ⟨Nat.zero_le _, Nat.zero_le _⟩ (fun r1 H locs h hP hD hS => ?_)
  exact hret _ () _ _ _ _ (narrow_b h.1) h.2 hP hD hS dX11_isTick_9
-- X11_isEnd
def rm_X11_isEnd : Room := { frames := 1, cells := 0, slots := 0, locals := 25 }
abbrev ws_X11_isEnd : List Cond := .code yX11_isEnd cX11_isEnd 1 (some .boolean) :: wsL_law
def wp_X11_isEnd (a1 : Int32) (post : Int32 → Prop) : Prop := wp_X11_in a1.toInt64 0 1 (fun r1 => r1 &&& 1 = r1 ∧ post r1)
set_option maxHeartbeats 4000000 in
set_option maxRecDepth 100000 in
theorem c_X11_isEnd (l : Launch) (D : va_G) (cy : Nat → ClassId) (tz : Nat → Nat) (w : va_W) (a1 : Int32) (post : Int32 → Prop) (h : wp_X11_isEnd a1 post) : CtI l D cy tz yX11_isEnd ws_X11_isEnd rm_X11_isEnd [.int a1] w (fun _ : Unit => w) (fun r _ => post r) := by
  refine CtI.of (own := RX11) (nm := "isEnd") (lv := [(0, .int a1)]) (plainFor_of_name (by decide)) rfl rfl (Nat.le_of_ble_eq_true rfl) rfl ?_
  intro p e s m args below meth c A Q ls B hP hD hS hl hret
  obtain ⟨hx, hb, hml, hown, hts, hK, hZ, hA, hnm⟩ := B
  have SF : CallFix p m c cX11_isEnd 1 s args wsL_law RX11 := ⟨hx, hb, hml, hown, hts⟩
  unfold wp_X11_isEnd at h
  refine lv_iload_n hx hb dX11_isEnd_0 rfl (lv_at hl 0 rfl) ?_
  refine lv_i2l (v := a1.toInt64) hx hb dX11_isEnd_1 rfl ?_
  refine lv_lconst (v := 0) hx hb dX11_isEnd_2 (by decide) ?_
  refine lv_lconst (v := 1) hx hb dX11_isEnd_3 (by decide) ?_
  refine callSIr (rest := []) SF (c_X11_in l D cy tz _ a1.toInt64 0 1 _ h) (cw_RX11_67 hts ⟨Nat.le_of_ble_eq_true rfl, Nat.le_of_ble_eq_true rfl⟩) rfl rfl hK hZ hA hP hD hS rfl hl.1 rfl (Nat.le_of_ble_eq_true rfl) dX11_isEnd_4 ⟨Nat.zero_le _, Nat.zero_le _⟩ (fun r1 H locs h hP hD hS => ?_)
  exact hret _ () _ _ _ _ (narrow_b h.1) h.2 hP hD hS dX11_isEnd_7
-- X11_turnPoint
def rm_X11_turnPoint : Room := { frames := 0, cells := 0, slots := 0, locals := 0 }
abbrev ws_X11_turnPoint : List Cond := .code yX11_turnPoint cX11_turnPoint 8 none :: wsL_law
def wp_X11_turnPoint (st : St) (a1 : Int32) (a2 : Int32) (a3 : Int32) (post : St → Prop) : Prop := vp_in a3 24 ∧ (∀ x1 : Int64, x1 = (gA st 0 a3.toNatClampNeg).toInt64 → (vp_in ((a3 + 6) - (a3 + 6) / 24 * 24) 24 ∧ (∀ x3 : Int64, x3 = (gA st 0 ((a3 + 6) - (a3 + 6) / 24 * 24).toNatClampNeg).toInt64 → (∀ x5 : Int32, x5 = (((a1.toInt64 * x3) - (a2.toInt64 * x1)) / 10000).toInt32 → (∀ x7 : Int32, x7 = (((a1.toInt64 * x1) + (a2.toInt64 * x3)) / 10000).toInt32 → (post (sI (sI st 1 x5) 2 x7)))))))
set_option maxHeartbeats 4000000 in
set_option maxRecDepth 100000 in
theorem c_X11_turnPoint (l : Launch) (D : va_G) (cy : Nat → ClassId) (tz : Nat → Nat) (ad : Nat → Nat) (st : St) (a1 : Int32) (a2 : Int32) (a3 : Int32) (post : St → Prop) (h : wp_X11_turnPoint st a1 a2 a3 post) : CtV l D cy tz yX11_turnPoint ws_X11_turnPoint rm_X11_turnPoint [.ref (ad 0), .int a1, .int a2, .int a3] (wM cy ad st) (wM cy ad) post := by
  refine CtV.of (own := RX11) (nm := "turnPoint") (lv := [(0, .ref (ad 0)), (1, .int a1), (2, .int a2), (3, .int a3)]) (plainFor_of_name (by decide)) rfl rfl (Nat.le_of_ble_eq_true rfl) rfl ?_
  intro p e s m args below meth c A Q ls B hP hD hS hl hret
  obtain ⟨hx, hb, hml, hown, hts, hK, hZ, hA, hnm⟩ := B
  have SF : CallFix p m c cX11_turnPoint 8 s args wsL_law RX11 := ⟨hx, hb, hml, hown, hts⟩
  unfold wp_X11_turnPoint at h
  refine lv_aload_n hx hb dX11_turnPoint_0 rfl (lv_at hl 0 rfl) ?_
  refine va_get (D := D) (ci := 10) (v := .ref (ad 1)) (C := RX11) (T := TX11) (N := 35) hx hb hts inlX11 hown hK hP 0 rfl rfl 0 (by decide) (hts _ w_5_6) (fun _ h9 => h9) rfl dX11_turnPoint_1 ?_
  refine lv_iload_n hx hb dX11_turnPoint_4 rfl (lv_at hl 3 rfl) ?_
  refine va_iald (f := gA st 0) (n := 24) hx hb hK hP 1 0 rfl rfl h.1 dX11_turnPoint_5 ?_
  have h := h.2
  refine lv_i2l (v := (gA st 0 a3.toNatClampNeg).toInt64) hx hb dX11_turnPoint_6 rfl ?_
  refine lv_topl (fun x1 e2 => ?_)
  have h := h x1 e2
  refine lv_lstore (lv' := [(4, .long x1), (0, .ref (ad 0)), (1, .int a1), (2, .int a2), (3, .int a3)]) hx hb dX11_turnPoint_7 hl (by decide) rfl (fun ls hl => ?_)
  refine lv_aload_n hx hb dX11_turnPoint_9 rfl (lv_at hl 1 rfl) ?_
  refine va_get (D := D) (ci := 10) (v := .ref (ad 1)) (C := RX11) (T := TX11) (N := 35) hx hb hts inlX11 hown hK hP 0 rfl rfl 0 (by decide) (hts _ w_5_6) (fun _ h9 => h9) rfl dX11_turnPoint_10 ?_
  refine lv_iload_n hx hb dX11_turnPoint_13 rfl (lv_at hl 4 rfl) ?_
  refine lv_bipush (v := 6) hx hb dX11_turnPoint_14 (by decide) ?_
  refine lv_iadd hx hb dX11_turnPoint_16 ?_
  refine lv_bipush (v := 24) hx hb dX11_turnPoint_17 (by decide) ?_
  refine lv_irem hx hb dX11_turnPoint_19 (by decide) ?_
  refine va_iald (f := gA st 0) (n := 24) hx hb hK hP 1 0 rfl rfl h.1 dX11_turnPoint_20 ?_
  have h := h.2
  refine lv_i2l (v := (gA st 0 ((a3 + 6) - (a3 + 6) / 24 * 24).toNatClampNeg).toInt64) hx hb dX11_turnPoint_21 rfl ?_
  refine lv_topl (fun x3 e4 => ?_)
  have h := h x3 e4
  refine lv_lstore (lv' := [(6, .long x3), (4, .long x1), (0, .ref (ad 0)), (1, .int a1), (2, .int a2), (3, .int a3)]) hx hb dX11_turnPoint_22 hl (by decide) rfl (fun ls hl => ?_)
  refine lv_aload_n hx hb dX11_turnPoint_24 rfl (lv_at hl 2 rfl) ?_
  refine lv_iload_n hx hb dX11_turnPoint_25 rfl (lv_at hl 3 rfl) ?_
  refine lv_i2l (v := a1.toInt64) hx hb dX11_turnPoint_26 rfl ?_
  refine lv_lload hx hb dX11_turnPoint_27 (lv_at hl 0 rfl) ?_
  refine lv_lmul hx hb dX11_turnPoint_29 ?_
  refine lv_iload_n hx hb dX11_turnPoint_30 rfl (lv_at hl 4 rfl) ?_
  refine lv_i2l (v := a2.toInt64) hx hb dX11_turnPoint_31 rfl ?_
  refine lv_lload hx hb dX11_turnPoint_32 (lv_at hl 1 rfl) ?_
  refine lv_lmul hx hb dX11_turnPoint_34 ?_
  refine lv_lsub hx hb dX11_turnPoint_35 ?_
  refine lv_ldc2 (v := 10000) hx hb hown (hts _ w_14_13) dX11_turnPoint_36 ?_
  refine lv_ldiv hx hb dX11_turnPoint_39 (by decide) ?_
  refine lv_l2i (v := (((a1.toInt64 * x3) - (a2.toInt64 * x1)) / 10000).toInt32) hx hb dX11_turnPoint_40 rfl ?_
  refine lv_topi (fun x5 e6 => ?_)
  have h := h x5 e6
  refine va_put (D := D) (ci := 10) (v := .int x5) (ty := .int) (C := RX11) (T := TX11) (N := 35) hx hb hts inlX11 tyX11 tyX11_ok nmX11 hown hK hP hD hS 0 rfl rfl 1 (by decide) (hts _ w_14_3) (fun _ h9 => h9) rfl (by decide +kernel) rfl rfl (Nat.le_of_ble_eq_true rfl) dX11_turnPoint_41 (fun H locs hP hD hS => ?_)
  have hP : va_P D vwCl (wM cy ad (sI st 1 x5)) H := hP
  have hD : va_D A (wM cy ad (sI st 1 x5)) := hD
  refine lv_aload_n hx hb dX11_turnPoint_44 rfl (lv_at hl 2 rfl) ?_
  refine lv_iload_n hx hb dX11_turnPoint_45 rfl (lv_at hl 3 rfl) ?_
  refine lv_i2l (v := a1.toInt64) hx hb dX11_turnPoint_46 rfl ?_
  refine lv_lload hx hb dX11_turnPoint_47 (lv_at hl 1 rfl) ?_
  refine lv_lmul hx hb dX11_turnPoint_49 ?_
  refine lv_iload_n hx hb dX11_turnPoint_50 rfl (lv_at hl 4 rfl) ?_
  refine lv_i2l (v := a2.toInt64) hx hb dX11_turnPoint_51 rfl ?_
  refine lv_lload hx hb dX11_turnPoint_52 (lv_at hl 0 rfl) ?_
  refine lv_lmul hx hb dX11_turnPoint_54 ?_
  refine lv_ladd hx hb dX11_turnPoint_55 ?_
  refine lv_ldc2 (v := 10000) hx hb hown (hts _ w_14_13) dX11_turnPoint_56 ?_
  refine lv_ldiv hx hb dX11_turnPoint_59 (by decide) ?_
  refine lv_l2i (v := (((a1.toInt64 * x1) + (a2.toInt64 * x3)) / 10000).toInt32) hx hb dX11_turnPoint_60 rfl ?_
  refine lv_topi (fun x7 e8 => ?_)
  have h := h x7 e8
  refine va_put (D := D) (ci := 10) (v := .int x7) (ty := .int) (C := RX11) (T := TX11) (N := 35) hx hb hts inlX11 tyX11 tyX11_ok nmX11 hown hK hP hD hS 0 rfl rfl 2 (by decide) (hts _ w_14_4) (fun _ h9 => h9) rfl (by decide +kernel) rfl rfl (Nat.le_of_ble_eq_true rfl) dX11_turnPoint_61 (fun H locs hP hD hS => ?_)
  have hP : va_P D vwCl (wM cy ad (sI (sI st 1 x5) 2 x7)) H := hP
  have hD : va_D A (wM cy ad (sI (sI st 1 x5) 2 x7)) := hD
  exact hret _ _ _ _ _ h hP hD hS dX11_turnPoint_64
-- X11_setNow
def rm_X11_setNow : Room := { frames := 0, cells := 0, slots := 0, locals := 0 }
abbrev ws_X11_setNow : List Cond := .code yX11_setNow cX11_setNow 2 (some .int) :: wsL_law
def wp_X11_setNow (st : St) (a1 : Int32) (post : Int32 → Prop) : Prop := ((¬ a1 = 0) → (vp_in a1 5 ∧ (post (gA st 3 a1.toNatClampNeg)))) ∧ ((a1 = 0) → (post ((gA st 3 (0 : Int32).toNatClampNeg) + 100)))
set_option maxHeartbeats 4000000 in
set_option maxRecDepth 100000 in
theorem c_X11_setNow (l : Launch) (D : va_G) (cy : Nat → ClassId) (tz : Nat → Nat) (ad : Nat → Nat) (st : St) (a1 : Int32) (post : Int32 → Prop) (h : wp_X11_setNow st a1 post) : CtI l D cy tz yX11_setNow ws_X11_setNow rm_X11_setNow [.ref (ad 0), .int a1] (wM cy ad st) (fun _ : Unit => wM cy ad st) (fun r _ => post r) := by
  refine CtI.of (own := RX11) (nm := "setNow") (lv := [(0, .ref (ad 0)), (1, .int a1)]) (plainFor_of_name (by decide)) rfl rfl (Nat.le_of_ble_eq_true rfl) rfl ?_
  intro p e s m args below meth c A Q ls B hP hD hS hl hret
  obtain ⟨hx, hb, hml, hown, hts, hK, hZ, hA, hnm⟩ := B
  have SF : CallFix p m c cX11_setNow 2 s args wsL_law RX11 := ⟨hx, hb, hml, hown, hts⟩
  unfold wp_X11_setNow at h
  refine lv_iload_n hx hb dX11_setNow_0 rfl (lv_at hl 1 rfl) ?_
  refine lv_if_ne (tgt := 16) hx hb dX11_setNow_1 (by decide) (fun c1 => ?_) (fun c1 => ?_)
  · have h := h.1 c1
    refine lv_aload_n hx hb dX11_setNow_16 rfl (lv_at hl 0 rfl) ?_
    refine va_get (D := D) (ci := 10) (v := .ref (ad 2)) (C := RX11) (T := TX11) (N := 35) hx hb hts inlX11 hown hK hP 0 rfl rfl 3 (by decide) (hts _ w_5_7) (fun _ h9 => h9) rfl dX11_setNow_17 ?_
    refine lv_iload_n hx hb dX11_setNow_20 rfl (lv_at hl 1 rfl) ?_
    refine va_iald (f := gA st 3) (n := 5) hx hb hK hP 2 0 rfl rfl h.1 dX11_setNow_21 ?_
    have h := h.2
    exact hret _ () _ _ _ _ rfl h hP hD hS dX11_setNow_22
  · have h := h.2 c1
    refine lv_aload_n hx hb dX11_setNow_4 rfl (lv_at hl 0 rfl) ?_
    refine va_get (D := D) (ci := 10) (v := .ref (ad 2)) (C := RX11) (T := TX11) (N := 35) hx hb hts inlX11 hown hK hP 0 rfl rfl 3 (by decide) (hts _ w_5_7) (fun _ h9 => h9) rfl dX11_setNow_5 ?_
    refine lv_iconst (v := 0) hx hb dX11_setNow_8 (by decide) ?_
    refine va_iald (f := gA st 3) (n := 5) hx hb hK hP 2 0 rfl rfl (vin (by decide +kernel)) dX11_setNow_9 ?_
    refine lv_bipush (v := 100) hx hb dX11_setNow_10 (by decide) ?_
    refine lv_iadd hx hb dX11_setNow_12 ?_
    refine lv_goto (tgt := 22) hx hb dX11_setNow_13 (by decide) ?_
    exact hret _ () _ _ _ _ rfl h hP hD hS dX11_setNow_22
