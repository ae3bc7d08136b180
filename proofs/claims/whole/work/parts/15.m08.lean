-- X11_point
def rm_X11_point : Room := { frames := 2, cells := 0, slots := 0, locals := 49 }
abbrev ws_X11_point : List Cond := .code yX11_point cX11_point 4 (some .int) :: wsL_law
theorem cw_RX11_142 {R : Room} {s : State} {args : Array Value} (hts : ∀ w ∈ wsL_law, w.before args s = true) (hR : rm_X11_isOne.frames + 1 ≤ R.frames ∧ 8 + (2 + 11) + rm_X11_isOne.locals ≤ R.locals) : CallW R s args RX11 RX11 142 yX11_isOne cX11_isOne 2 (some .boolean) ws_X11_isOne rm_X11_isOne rm_X11_isOne.cells rm_X11_isOne.slots 1 := cwV 1 hts (gdV w_15_18 w_15_19 w_15_20 w_1_5 w_15_21) rfl rfl rfl (by decide +kernel) hR
theorem cw_RX11_149 {R : Room} {s : State} {args : Array Value} (hts : ∀ w ∈ wsL_law, w.before args s = true) (hR : rm_X11_layOne.frames + 1 ≤ R.frames ∧ 8 + (3 + 11) + rm_X11_layOne.locals ≤ R.locals) : CallW R s args RX11 RX11 149 yX11_layOne cX11_layOne 3 none ws_X11_layOne rm_X11_layOne rm_X11_layOne.cells rm_X11_layOne.slots 2 := cwV 2 hts (gdV w_15_22 w_15_23 w_16_0 w_1_5 w_16_1) rfl rfl rfl (by decide +kernel) hR
def wp_X11_point (st : St) (a1 : Int32) (a2 : Int32) (a3 : Int32) (post : Int32 → St → Prop) : Prop := wp_X11_isOne st a1 (fun r1 => ((¬ r1 = 0) → (wp_X11_isTick a2 (fun r4 => ((r4 = 0) → (post (-100000002) st)) ∧ ((¬ r4 = 0) → (wp_X11_in a3.toInt64 0 3 (fun r7 => ((¬ r7 = 0) → (((2 ≤ a3) → (wp_X11_layTurns st (fun t12 => wp_X11_layOne t12 a1 a2 (fun t14 => ((¬ a3 = 2) → (post (gI t14 2) t14)) ∧ ((a3 = 2) → (post (gI t14 1) t14)))))) ∧ ((¬ 2 ≤ a3) → (((¬ a3 = 0) → (vp_in a1 8 ∧ (post (gA st 13 a1.toNatClampNeg) st))) ∧ ((a3 = 0) → (vp_in a1 8 ∧ (post (gA st 12 a1.toNatClampNeg) st))))))) ∧ ((r7 = 0) → (post (-100000002) st)))))))) ∧ ((r1 = 0) → (post (-100000001) st)))
set_option maxHeartbeats 4000000 in
set_option maxRecDepth 100000 in
theorem c_X11_point (l : Launch) (D : va_G) (cy : Nat → ClassId) (tz : Nat → Nat) (ad : Nat → Nat) (st : St) (a1 : Int32) (a2 : Int32) (a3 : Int32) (post : Int32 → St → Prop) (h : wp_X11_point st a1 a2 a3 post) : CtI l D cy tz yX11_point ws_X11_point rm_X11_point [.ref (ad 0), .int a1, .int a2, .int a3] (wM cy ad st) (wM cy ad) post := by
  refine CtI.of (own := RX11) (nm := "point") (lv := [(0, .ref (ad 0)), (1, .int a1), (2, .int a2), (3, .int a3)]) (plainFor_of_name (by decide)) rfl rfl (Nat.le_of_ble_eq_true rfl) rfl ?_
  intro p e s m args below meth c A Q ls B hP hD hS hl hret
  obtain ⟨hx, hb, hml, hown, hts, hK, hZ, hA, hnm⟩ := B
  have SF : CallFix p m c cX11_point 4 s args wsL_law RX11 := ⟨hx, hb, hml, hown, hts⟩
  unfold wp_X11_point at h
  refine lv_aload_n hx hb dX11_point_0 rfl (lv_at hl 0 rfl) ?_
  refine lv_iload_n hx hb dX11_point_1 rfl (lv_at hl 1 rfl) ?_
  refine callVIr (rest := []) SF (c_X11_isOne l D cy tz ad st a1 _ h) (cw_RX11_142 hts ⟨Nat.le_of_ble_eq_true rfl, Nat.le_of_ble_eq_true rfl⟩) rfl rfl (va_recv hK hP (ci := 10) (q0 := 0) rfl rfl) hK hZ hA hP hD hS rfl hl.1 rfl (Nat.le_of_ble_eq_true rfl) dX11_point_2 ⟨Nat.zero_le _, Nat.zero_le _⟩ (fun r1 H locs h hP hD hS => ?_)
  refine lv_if_ne (tgt := 11) hx hb dX11_point_5 (by decide) (fun c3 => ?_) (fun c3 => ?_)
  · have h := h.1 c3
    refine lv_iload_n hx hb dX11_point_11 rfl (lv_at hl 2 rfl) ?_
    refine callSIr (rest := []) SF (c_X11_isTick l D cy tz _ a2 _ h) (cw_RX11_118 hts ⟨Nat.le_of_ble_eq_true rfl, Nat.le_of_ble_eq_true rfl⟩) rfl rfl hK hZ hA hP hD hS rfl hl.1 rfl (Nat.le_of_ble_eq_true rfl) dX11_point_12 ⟨Nat.zero_le _, Nat.zero_le _⟩ (fun r4 H locs h hP hD hS => ?_)
    refine lv_if_eq (tgt := 30) hx hb dX11_point_15 (by decide) (fun c6 => ?_) (fun c6 => ?_)
    · have h := h.1 c6
      refine lv_ldc (v := (-100000002)) hx hb hown (hts _ w_15_17) dX11_point_30 ?_
      exact hret _ _ _ _ _ _ rfl h hP hD hS dX11_point_32
    · have h := h.2 c6
      refine lv_iload_n hx hb dX11_point_18 rfl (lv_at hl 3 rfl) ?_
      refine lv_i2l (v := a3.toInt64) hx hb dX11_point_19 rfl ?_
      refine lv_lconst (v := 0) hx hb dX11_point_20 (by decide) ?_
      refine lv_ldc2 (v := 3) hx hb hown (hts _ w_15_16) dX11_point_21 ?_
      refine callSIr (rest := []) SF (c_X11_in l D cy tz _ a3.toInt64 0 3 _ h) (cw_RX11_67 hts ⟨Nat.le_of_ble_eq_true rfl, Nat.le_of_ble_eq_true rfl⟩) rfl rfl hK hZ hA hP hD hS rfl hl.1 rfl (Nat.le_of_ble_eq_true rfl) dX11_point_24 ⟨Nat.zero_le _, Nat.zero_le _⟩ (fun r7 H locs h hP hD hS => ?_)
      refine lv_if_ne (tgt := 33) hx hb dX11_point_27 (by decide) (fun c9 => ?_) (fun c9 => ?_)
      · have h := h.1 c9
        refine lv_iload_n hx hb dX11_point_33 rfl (lv_at hl 3 rfl) ?_
        refine lv_iconst (v := 2) hx hb dX11_point_34 (by decide) ?_
        refine lv_icmp_ge (tgt := 58) hx hb dX11_point_35 (by decide) (fun c10 => ?_) (fun c10 => ?_)
        · have h := h.1 c10
          refine lv_aload_n hx hb dX11_point_58 rfl (lv_at hl 0 rfl) ?_
          refine callVV (rest := []) SF (c_X11_layTurns l D cy tz ad st _ h) (cw_RX11_124 hts ⟨Nat.le_of_ble_eq_true rfl, Nat.le_of_ble_eq_true rfl⟩) rfl rfl (va_recv hK hP (ci := 10) (q0 := 0) rfl rfl) hK hZ hA hP hD hS rfl hl.1 rfl (Nat.le_of_ble_eq_true rfl) dX11_point_59 ⟨Nat.zero_le _, Nat.zero_le _⟩ (fun t12 H locs h hP hD hS => ?_)
          refine lv_aload_n hx hb dX11_point_62 rfl (lv_at hl 0 rfl) ?_
          refine lv_iload_n hx hb dX11_point_63 rfl (lv_at hl 1 rfl) ?_
          refine lv_iload_n hx hb dX11_point_64 rfl (lv_at hl 2 rfl) ?_
          refine callVV (rest := []) SF (c_X11_layOne l D cy tz ad t12 a1 a2 _ h) (cw_RX11_149 hts ⟨Nat.le_of_ble_eq_true rfl, Nat.le_of_ble_eq_true rfl⟩) rfl rfl (va_recv hK hP (ci := 10) (q0 := 0) rfl rfl) hK hZ hA hP hD hS rfl hl.1 rfl (Nat.le_of_ble_eq_true rfl) dX11_point_65 ⟨Nat.zero_le _, Nat.zero_le _⟩ (fun t14 H locs h hP hD hS => ?_)
          refine lv_iload_n hx hb dX11_point_68 rfl (lv_at hl 3 rfl) ?_
          refine lv_iconst (v := 2) hx hb dX11_point_69 (by decide) ?_
          refine lv_icmp_ne (tgt := 80) hx hb dX11_point_70 (by decide) (fun c15 => ?_) (fun c15 => ?_)
          · have h := h.1 c15
            refine lv_aload_n hx hb dX11_point_80 rfl (lv_at hl 0 rfl) ?_
            refine va_get (D := D) (ci := 10) (v := .int (gI t14 2)) (C := RX11) (T := TX11) (N := 35) hx hb hts inlX11 hown hK hP 0 rfl rfl 2 (by decide) (hts _ w_14_4) (fun _ h9 => h9) rfl dX11_point_81 ?_
            exact hret _ _ _ _ _ _ rfl h hP hD hS dX11_point_84
          · have h := h.2 c15
            refine lv_aload_n hx hb dX11_point_73 rfl (lv_at hl 0 rfl) ?_
            refine va_get (D := D) (ci := 10) (v := .int (gI t14 1)) (C := RX11) (T := TX11) (N := 35) hx hb hts inlX11 hown hK hP 0 rfl rfl 1 (by decide) (hts _ w_14_3) (fun _ h9 => h9) rfl dX11_point_74 ?_
            refine lv_goto (tgt := 84) hx hb dX11_point_77 (by decide) ?_
            exact hret _ _ _ _ _ _ rfl h hP hD hS dX11_point_84
        · have h := h.2 c10
          refine lv_iload_n hx hb dX11_point_38 rfl (lv_at hl 3 rfl) ?_
          refine lv_if_ne (tgt := 51) hx hb dX11_point_39 (by decide) (fun c16 => ?_) (fun c16 => ?_)
          · have h := h.1 c16
            refine lv_aload_n hx hb dX11_point_51 rfl (lv_at hl 0 rfl) ?_
            refine va_get (D := D) (ci := 10) (v := .ref (ad 9)) (C := RX11) (T := TX11) (N := 35) hx hb hts inlX11 hown hK hP 0 rfl rfl 13 (by decide) (hts _ w_5_14) (fun _ h9 => h9) rfl dX11_point_52 ?_
            refine lv_iload_n hx hb dX11_point_55 rfl (lv_at hl 1 rfl) ?_
            refine va_iald (f := gA st 13) (n := 8) hx hb hK hP 9 0 rfl rfl h.1 dX11_point_56 ?_
            have h := h.2
            exact hret _ _ _ _ _ _ rfl h hP hD hS dX11_point_57
          · have h := h.2 c16
            refine lv_aload_n hx hb dX11_point_42 rfl (lv_at hl 0 rfl) ?_
            refine va_get (D := D) (ci := 10) (v := .ref (ad 8)) (C := RX11) (T := TX11) (N := 35) hx hb hts inlX11 hown hK hP 0 rfl rfl 12 (by decide) (hts _ w_5_13) (fun _ h9 => h9) rfl dX11_point_43 ?_
            refine lv_iload_n hx hb dX11_point_46 rfl (lv_at hl 1 rfl) ?_
            refine va_iald (f := gA st 12) (n := 8) hx hb hK hP 8 0 rfl rfl h.1 dX11_point_47 ?_
            have h := h.2
            refine lv_goto (tgt := 57) hx hb dX11_point_48 (by decide) ?_
            exact hret _ _ _ _ _ _ rfl h hP hD hS dX11_point_57
      · have h := h.2 c9
        refine lv_ldc (v := (-100000002)) hx hb hown (hts _ w_15_17) dX11_point_30 ?_
        exact hret _ _ _ _ _ _ rfl h hP hD hS dX11_point_32
  · have h := h.2 c3
    refine lv_ldc (v := (-100000001)) hx hb hown (hts _ w_15_15) dX11_point_8 ?_
    exact hret _ _ _ _ _ _ rfl h hP hD hS dX11_point_10
-- X11_layThrow
def rm_X11_layThrow : Room := { frames := 2, cells := 0, slots := 0, locals := 49 }
abbrev ws_X11_layThrow : List Cond := .code yX11_layThrow cX11_layThrow 4 none :: wsL_law
def wp_X11_layThrow (st : St) (a1 : Int32) (a2 : Int32) (a3 : Int32) (post : St → Prop) : Prop := wp_X11_layOne st a1 0 (fun t2 => ∀ x3 : Int32, x3 = gI t2 1 → (∀ x5 : Int32, x5 = gI t2 2 → (wp_X11_layOne (sI (sI t2 15 x3) 16 x5) a1 1 (fun t8 => ∀ x9 : Int32, x9 = (gI t8 1 - gI t8 15) → (∀ x11 : Int32, x11 = (gI t8 2 - gI t8 16) → (wp_X11_turnPoint (sI (sI t8 17 x9) 18 x11) a2 0 a3 (fun t14 => ∀ x15 : Int32, x15 = (gI t14 17 + gI t14 1) → (∀ x17 : Int32, x17 = (gI t14 18 + gI t14 2) → (post (sI (sI t14 17 x15) 18 x17))))))))))
set_option maxHeartbeats 4000000 in
set_option maxRecDepth 100000 in
theorem c_X11_layThrow (l : Launch) (D : va_G) (cy : Nat → ClassId) (tz : Nat → Nat) (ad : Nat → Nat) (st : St) (a1 : Int32) (a2 : Int32) (a3 : Int32) (post : St → Prop) (h : wp_X11_layThrow st a1 a2 a3 post) : CtV l D cy tz yX11_layThrow ws_X11_layThrow rm_X11_layThrow [.ref (ad 0), .int a1, .int a2, .int a3] (wM cy ad st) (wM cy ad) post := by
  refine CtV.of (own := RX11) (nm := "layThrow") (lv := [(0, .ref (ad 0)), (1, .int a1), (2, .int a2), (3, .int a3)]) (plainFor_of_name (by decide)) rfl rfl (Nat.le_of_ble_eq_true rfl) rfl ?_
  intro p e s m args below meth c A Q ls B hP hD hS hl hret
  obtain ⟨hx, hb, hml, hown, hts, hK, hZ, hA, hnm⟩ := B
  have SF : CallFix p m c cX11_layThrow 4 s args wsL_law RX11 := ⟨hx, hb, hml, hown, hts⟩
  unfold wp_X11_layThrow at h
  refine lv_aload_n hx hb dX11_layThrow_0 rfl (lv_at hl 0 rfl) ?_
  refine lv_iload_n hx hb dX11_layThrow_1 rfl (lv_at hl 1 rfl) ?_
  refine lv_iconst (v := 0) hx hb dX11_layThrow_2 (by decide) ?_
  refine callVV (rest := []) SF (c_X11_layOne l D cy tz ad st a1 0 _ h) (cw_RX11_149 hts ⟨Nat.le_of_ble_eq_true rfl, Nat.le_of_ble_eq_true rfl⟩) rfl rfl (va_recv hK hP (ci := 10) (q0 := 0) rfl rfl) hK hZ hA hP hD hS rfl hl.1 rfl (Nat.le_of_ble_eq_true rfl) dX11_layThrow_3 ⟨Nat.zero_le _, Nat.zero_le _⟩ (fun t2 H locs h hP hD hS => ?_)
  refine lv_aload_n hx hb dX11_layThrow_6 rfl (lv_at hl 0 rfl) ?_
  refine lv_aload_n hx hb dX11_layThrow_7 rfl (lv_at hl 0 rfl) ?_
  refine va_get (D := D) (ci := 10) (v := .int (gI t2 1)) (C := RX11) (T := TX11) (N := 35) hx hb hts inlX11 hown hK hP 0 rfl rfl 1 (by decide) (hts _ w_14_3) (fun _ h9 => h9) rfl dX11_layThrow_8 ?_
  refine lv_topi (fun x3 e4 => ?_)
  have h := h x3 e4
  refine va_put (D := D) (ci := 10) (v := .int x3) (ty := .int) (C := RX11) (T := TX11) (N := 35) hx hb hts inlX11 tyX11 tyX11_ok nmX11 hown hK hP hD hS 0 rfl rfl 15 (by decide) (hts _ w_18_7) (fun _ h9 => h9) rfl (by decide +kernel) rfl rfl (Nat.le_of_ble_eq_true rfl) dX11_layThrow_11 (fun H locs hP hD hS => ?_)
  have hP : va_P D vwCl (wM cy ad (sI t2 15 x3)) H := hP
  have hD : va_D A (wM cy ad (sI t2 15 x3)) := hD
  refine lv_aload_n hx hb dX11_layThrow_14 rfl (lv_at hl 0 rfl) ?_
  refine lv_aload_n hx hb dX11_layThrow_15 rfl (lv_at hl 0 rfl) ?_
  refine va_get (D := D) (ci := 10) (v := .int (gI t2 2)) (C := RX11) (T := TX11) (N := 35) hx hb hts inlX11 hown hK hP 0 rfl rfl 2 (by decide) (hts _ w_14_4) (fun _ h9 => h9) rfl dX11_layThrow_16 ?_
  refine lv_topi (fun x5 e6 => ?_)
  have h := h x5 e6
  refine va_put (D := D) (ci := 10) (v := .int x5) (ty := .int) (C := RX11) (T := TX11) (N := 35) hx hb hts inlX11 tyX11 tyX11_ok nmX11 hown hK hP hD hS 0 rfl rfl 16 (by decide) (hts _ w_18_8) (fun _ h9 => h9) rfl (by decide +kernel) rfl rfl (Nat.le_of_ble_eq_true rfl) dX11_layThrow_19 (fun H locs hP hD hS => ?_)
  have hP : va_P D vwCl (wM cy ad (sI (sI t2 15 x3) 16 x5)) H := hP
  have hD : va_D A (wM cy ad (sI (sI t2 15 x3) 16 x5)) := hD
  refine lv_aload_n hx hb dX11_layThrow_22 rfl (lv_at hl 0 rfl) ?_
  refine lv_iload_n hx hb dX11_layThrow_23 rfl (lv_at hl 1 rfl) ?_
  refine lv_iconst (v := 1) hx hb dX11_layThrow_24 (by decide) ?_
  refine callVV (rest := []) SF (c_X11_layOne l D cy tz ad (sI (sI t2 15 x3) 16 x5) a1 1 _ h) (cw_RX11_149 hts ⟨Nat.le_of_ble_eq_true rfl, Nat.le_of_ble_eq_true rfl⟩) rfl rfl (va_recv hK hP (ci := 10) (q0 := 0) rfl rfl) hK hZ hA hP hD hS rfl hl.1 rfl (Nat.le_of_ble_eq_true rfl) dX11_layThrow_25 ⟨Nat.zero_le _, Nat.zero_le _⟩ (fun t8 H locs h hP hD hS => ?_)
  refine lv_aload_n hx hb dX11_layThrow_28 rfl (lv_at hl 0 rfl) ?_
  refine lv_aload_n hx hb dX11_layThrow_29 rfl (lv_at hl 0 rfl) ?_
  refine va_get (D := D) (ci := 10) (v := .int (gI t8 1)) (C := RX11) (T := TX11) (N := 35) hx hb hts inlX11 hown hK hP 0 rfl rfl 1 (by decide) (hts _ w_14_3) (fun _ h9 => h9) rfl dX11_layThrow_30 ?_
  refine lv_aload_n hx hb dX11_layThrow_33 rfl (lv_at hl 0 rfl) ?_
  refine va_get (D := D) (ci := 10) (v := .int (gI t8 15)) (C := RX11) (T := TX11) (N := 35) hx hb hts inlX11 hown hK hP 0 rfl rfl 15 (by decide) (hts _ w_18_7) (fun _ h9 => h9) rfl dX11_layThrow_34 ?_
  refine lv_isub hx hb dX11_layThrow_37 ?_
  refine lv_topi (fun x9 e10 => ?_)
  have h := h x9 e10
  refine va_put (D := D) (ci := 10) (v := .int x9) (ty := .int) (C := RX11) (T := TX11) (N := 35) hx hb hts inlX11 tyX11 tyX11_ok nmX11 hown hK hP hD hS 0 rfl rfl 17 (by decide) (hts _ w_18_9) (fun _ h9 => h9) rfl (by decide +kernel) rfl rfl (Nat.le_of_ble_eq_true rfl) dX11_layThrow_38 (fun H locs hP hD hS => ?_)
  have hP : va_P D vwCl (wM cy ad (sI t8 17 x9)) H := hP
  have hD : va_D A (wM cy ad (sI t8 17 x9)) := hD
  refine lv_aload_n hx hb dX11_layThrow_41 rfl (lv_at hl 0 rfl) ?_
  refine lv_aload_n hx hb dX11_layThrow_42 rfl (lv_at hl 0 rfl) ?_
  refine va_get (D := D) (ci := 10) (v := .int (gI t8 2)) (C := RX11) (T := TX11) (N := 35) hx hb hts inlX11 hown hK hP 0 rfl rfl 2 (by decide) (hts _ w_14_4) (fun _ h9 => h9) rfl dX11_layThrow_43 ?_
  refine lv_aload_n hx hb dX11_layThrow_46 rfl (lv_at hl 0 rfl) ?_
  refine va_get (D := D) (ci := 10) (v := .int (gI t8 16)) (C := RX11) (T := TX11) (N := 35) hx hb hts inlX11 hown hK hP 0 rfl rfl 16 (by decide) (hts _ w_18_8) (fun _ h9 => h9) rfl dX11_layThrow_47 ?_
  refine lv_isub hx hb dX11_layThrow_50 ?_
  refine lv_topi (fun x11 e12 => ?_)
  have h := h x11 e12
  refine va_put (D := D) (ci := 10) (v := .int x11) (ty := .int) (C := RX11) (T := TX11) (N := 35) hx hb hts inlX11 tyX11 tyX11_ok nmX11 hown hK hP hD hS 0 rfl rfl 18 (by decide) (hts _ w_18_10) (fun _ h9 => h9) rfl (by decide +kernel) rfl rfl (Nat.le_of_ble_eq_true rfl) dX11_layThrow_51 (fun H locs hP hD hS => ?_)
  have hP : va_P D vwCl (wM cy ad (sI (sI t8 17 x9) 18 x11)) H := hP
  have hD : va_D A (wM cy ad (sI (sI t8 17 x9) 18 x11)) := hD
  refine lv_aload_n hx hb dX11_layThrow_54 rfl (lv_at hl 0 rfl) ?_
  refine lv_iload_n hx hb dX11_layThrow_55 rfl (lv_at hl 2 rfl) ?_
  refine lv_iconst (v := 0) hx hb dX11_layThrow_56 (by decide) ?_
  refine lv_iload_n hx hb dX11_layThrow_57 rfl (lv_at hl 3 rfl) ?_
  refine callVV (rest := []) SF (c_X11_turnPoint l D cy tz ad (sI (sI t8 17 x9) 18 x11) a2 0 a3 _ h) (cw_RX11_135 hts ⟨Nat.le_of_ble_eq_true rfl, Nat.le_of_ble_eq_true rfl⟩) rfl rfl (va_recv hK hP (ci := 10) (q0 := 0) rfl rfl) hK hZ hA hP hD hS rfl hl.1 rfl (Nat.le_of_ble_eq_true rfl) dX11_layThrow_58 ⟨Nat.zero_le _, Nat.zero_le _⟩ (fun t14 H locs h hP hD hS => ?_)
  refine lv_aload_n hx hb dX11_layThrow_61 rfl (lv_at hl 0 rfl) ?_
  refine lv_dup hx hb dX11_layThrow_62 rfl ?_
  refine va_get (D := D) (ci := 10) (v := .int (gI t14 17)) (C := RX11) (T := TX11) (N := 35) hx hb hts inlX11 hown hK hP 0 rfl rfl 17 (by decide) (hts _ w_18_9) (fun _ h9 => h9) rfl dX11_layThrow_63 ?_
  refine lv_aload_n hx hb dX11_layThrow_66 rfl (lv_at hl 0 rfl) ?_
  refine va_get (D := D) (ci := 10) (v := .int (gI t14 1)) (C := RX11) (T := TX11) (N := 35) hx hb hts inlX11 hown hK hP 0 rfl rfl 1 (by decide) (hts _ w_14_3) (fun _ h9 => h9) rfl dX11_layThrow_67 ?_
  refine lv_iadd hx hb dX11_layThrow_70 ?_
  refine lv_topi (fun x15 e16 => ?_)
  have h := h x15 e16
  refine va_put (D := D) (ci := 10) (v := .int x15) (ty := .int) (C := RX11) (T := TX11) (N := 35) hx hb hts inlX11 tyX11 tyX11_ok nmX11 hown hK hP hD hS 0 rfl rfl 17 (by decide) (hts _ w_18_9) (fun _ h9 => h9) rfl (by decide +kernel) rfl rfl (Nat.le_of_ble_eq_true rfl) dX11_layThrow_71 (fun H locs hP hD hS => ?_)
  have hP : va_P D vwCl (wM cy ad (sI t14 17 x15)) H := hP
  have hD : va_D A (wM cy ad (sI t14 17 x15)) := hD
  refine lv_aload_n hx hb dX11_layThrow_74 rfl (lv_at hl 0 rfl) ?_
  refine lv_dup hx hb dX11_layThrow_75 rfl ?_
  refine va_get (D := D) (ci := 10) (v := .int (gI t14 18)) (C := RX11) (T := TX11) (N := 35) hx hb hts inlX11 hown hK hP 0 rfl rfl 18 (by decide) (hts _ w_18_10) (fun _ h9 => h9) rfl dX11_layThrow_76 ?_
  refine lv_aload_n hx hb dX11_layThrow_79 rfl (lv_at hl 0 rfl) ?_
  refine va_get (D := D) (ci := 10) (v := .int (gI t14 2)) (C := RX11) (T := TX11) (N := 35) hx hb hts inlX11 hown hK hP 0 rfl rfl 2 (by decide) (hts _ w_14_4) (fun _ h9 => h9) rfl dX11_layThrow_80 ?_
  refine lv_iadd hx hb dX11_layThrow_83 ?_
  refine lv_topi (fun x17 e18 => ?_)
  have h := h x17 e18
  refine va_put (D := D) (ci := 10) (v := .int x17) (ty := .int) (C := RX11) (T := TX11) (N := 35) hx hb hts inlX11 tyX11 tyX11_ok nmX11 hown hK hP hD hS 0 rfl rfl 18 (by decide) (hts _ w_18_10) (fun _ h9 => h9) rfl (by decide +kernel) rfl rfl (Nat.le_of_ble_eq_true rfl) dX11_layThrow_84 (fun H locs hP hD hS => ?_)
  have hP : va_P D vwCl (wM cy ad (sI (sI t14 17 x15) 18 x17)) H := hP
  have hD : va_D A (wM cy ad (sI (sI t14 17 x15) 18 x17)) := hD
  exact hret _ _ _ _ _ h hP hD hS dX11_layThrow_87
-- X11_ballX
def rm_X11_ballX : Room := { frames := 0, cells := 0, slots := 0, locals := 0 }
abbrev ws_X11_ballX : List Cond := .code yX11_ballX cX11_ballX 2 (some .int) :: wsL_law
def wp_X11_ballX (st : St) (a1 : Int32) (post : Int32 → Prop) : Prop := post (gI st 15 + (a1 * gI st 17))
set_option maxHeartbeats 4000000 in
set_option maxRecDepth 100000 in
theorem c_X11_ballX (l : Launch) (D : va_G) (cy : Nat → ClassId) (tz : Nat → Nat) (ad : Nat → Nat) (st : St) (a1 : Int32) (post : Int32 → Prop) (h : wp_X11_ballX st a1 post) : CtI l D cy tz yX11_ballX ws_X11_ballX rm_X11_ballX [.ref (ad 0), .int a1] (wM cy ad st) (fun _ : Unit => wM cy ad st) (fun r _ => post r) := by
  refine CtI.of (own := RX11) (nm := "ballX") (lv := [(0, .ref (ad 0)), (1, .int a1)]) (plainFor_of_name (by decide)) rfl rfl (Nat.le_of_ble_eq_true rfl) rfl ?_
  intro p e s m args below meth c A Q ls B hP hD hS hl hret
  obtain ⟨hx, hb, hml, hown, hts, hK, hZ, hA, hnm⟩ := B
  have SF : CallFix p m c cX11_ballX 2 s args wsL_law RX11 := ⟨hx, hb, hml, hown, hts⟩
  unfold wp_X11_ballX at h
  refine lv_aload_n hx hb dX11_ballX_0 rfl (lv_at hl 0 rfl) ?_
  refine va_get (D := D) (ci := 10) (v := .int (gI st 15)) (C := RX11) (T := TX11) (N := 35) hx hb hts inlX11 hown hK hP 0 rfl rfl 15 (by decide) (hts _ w_18_7) (fun _ h9 => h9) rfl dX11_ballX_1 ?_
  refine lv_iload_n hx hb dX11_ballX_4 rfl (lv_at hl 1 rfl) ?_
  refine lv_aload_n hx hb dX11_ballX_5 rfl (lv_at hl 0 rfl) ?_
  refine va_get (D := D) (ci := 10) (v := .int (gI st 17)) (C := RX11) (T := TX11) (N := 35) hx hb hts inlX11 hown hK hP 0 rfl rfl 17 (by decide) (hts _ w_18_9) (fun _ h9 => h9) rfl dX11_ballX_6 ?_
  refine lv_imul hx hb dX11_ballX_9 ?_
  refine lv_iadd hx hb dX11_ballX_10 ?_
  exact hret _ () _ _ _ _ rfl h hP hD hS dX11_ballX_11
-- X11_ballY
def rm_X11_ballY : Room := { frames := 0, cells := 0, slots := 0, locals := 0 }
abbrev ws_X11_ballY : List Cond := .code yX11_ballY cX11_ballY 2 (some .int) :: wsL_law
def wp_X11_ballY (st : St) (a1 : Int32) (post : Int32 → Prop) : Prop := post (gI st 16 + (a1 * gI st 18))
set_option maxHeartbeats 4000000 in
set_option maxRecDepth 100000 in
theorem c_X11_ballY (l : Launch) (D : va_G) (cy : Nat → ClassId) (tz : Nat → Nat) (ad : Nat → Nat) (st : St) (a1 : Int32) (post : Int32 → Prop) (h : wp_X11_ballY st a1 post) : CtI l D cy tz yX11_ballY ws_X11_ballY rm_X11_ballY [.ref (ad 0), .int a1] (wM cy ad st) (fun _ : Unit => wM cy ad st) (fun r _ => post r) := by
  refine CtI.of (own := RX11) (nm := "ballY") (lv := [(0, .ref (ad 0)), (1, .int a1)]) (plainFor_of_name (by decide)) rfl rfl (Nat.le_of_ble_eq_true rfl) rfl ?_
  intro p e s m args below meth c A Q ls B hP hD hS hl hret
  obtain ⟨hx, hb, hml, hown, hts, hK, hZ, hA, hnm⟩ := B
  have SF : CallFix p m c cX11_ballY 2 s args wsL_law RX11 := ⟨hx, hb, hml, hown, hts⟩
  unfold wp_X11_ballY at h
  refine lv_aload_n hx hb dX11_ballY_0 rfl (lv_at hl 0 rfl) ?_
  refine va_get (D := D) (ci := 10) (v := .int (gI st 16)) (C := RX11) (T := TX11) (N := 35) hx hb hts inlX11 hown hK hP 0 rfl rfl 16 (by decide) (hts _ w_18_8) (fun _ h9 => h9) rfl dX11_ballY_1 ?_
  refine lv_iload_n hx hb dX11_ballY_4 rfl (lv_at hl 1 rfl) ?_
  refine lv_aload_n hx hb dX11_ballY_5 rfl (lv_at hl 0 rfl) ?_
  refine va_get (D := D) (ci := 10) (v := .int (gI st 18)) (C := RX11) (T := TX11) (N := 35) hx hb hts inlX11 hown hK hP 0 rfl rfl 18 (by decide) (hts _ w_18_10) (fun _ h9 => h9) rfl dX11_ballY_6 ?_
  refine lv_imul hx hb dX11_ballY_9 ?_
  refine lv_iadd hx hb dX11_ballY_10 ?_
  exact hret _ () _ _ _ _ rfl h hP hD hS dX11_ballY_11
-- X11_seeBall
def rm_X11_seeBall : Room := { frames := 1, cells := 0, slots := 0, locals := 27 }
abbrev ws_X11_seeBall : List Cond := .code yX11_seeBall cX11_seeBall 2 none :: wsL_law
theorem cw_RX11_165 {R : Room} {s : State} {args : Array Value} (hts : ∀ w ∈ wsL_law, w.before args s = true) (hR : rm_X11_ballX.frames + 1 ≤ R.frames ∧ 8 + (2 + 11) + rm_X11_ballX.locals ≤ R.locals) : CallW R s args RX11 RX11 165 yX11_ballX cX11_ballX 2 (some .int) ws_X11_ballX rm_X11_ballX rm_X11_ballX.cells rm_X11_ballX.slots 1 := cwV 1 hts (gdV w_18_11 w_18_12 w_18_13 w_1_5 w_18_14) rfl rfl rfl (by decide +kernel) hR
theorem cw_RX11_168 {R : Room} {s : State} {args : Array Value} (hts : ∀ w ∈ wsL_law, w.before args s = true) (hR : rm_X11_ballY.frames + 1 ≤ R.frames ∧ 8 + (2 + 11) + rm_X11_ballY.locals ≤ R.locals) : CallW R s args RX11 RX11 168 yX11_ballY cX11_ballY 2 (some .int) ws_X11_ballY rm_X11_ballY rm_X11_ballY.cells rm_X11_ballY.slots 1 := cwV 1 hts (gdV w_18_15 w_18_16 w_18_17 w_1_5 w_18_18) rfl rfl rfl (by decide +kernel) hR
def wp_X11_seeBall (st : St) (a1 : Int32) (post : St → Prop) : Prop := wp_X11_ballX st a1 (fun r1 => wp_X11_ballY st a1 (fun r3 => wp_X11_wayAt st a1 (fun r5 => wp_X11_turnPoint st r1 r3 ((24 - r5) - (24 - r5) / 24 * 24) (fun t8 => post t8))))
set_option maxHeartbeats 4000000 in
set_option maxRecDepth 100000 in
theorem c_X11_seeBall (l : Launch) (D : va_G) (cy : Nat → ClassId) (tz : Nat → Nat) (ad : Nat → Nat) (st : St) (a1 : Int32) (post : St → Prop) (h : wp_X11_seeBall st a1 post) : CtV l D cy tz yX11_seeBall ws_X11_seeBall rm_X11_seeBall [.ref (ad 0), .int a1] (wM cy ad st) (wM cy ad) post := by
  refine CtV.of (own := RX11) (nm := "seeBall") (lv := [(0, .ref (ad 0)), (1, .int a1)]) (plainFor_of_name (by decide)) rfl rfl (Nat.le_of_ble_eq_true rfl) rfl ?_
  intro p e s m args below meth c A Q ls B hP hD hS hl hret
  obtain ⟨hx, hb, hml, hown, hts, hK, hZ, hA, hnm⟩ := B
  have SF : CallFix p m c cX11_seeBall 2 s args wsL_law RX11 := ⟨hx, hb, hml, hown, hts⟩
  unfold wp_X11_seeBall at h
  refine lv_aload_n hx hb dX11_seeBall_0 rfl (lv_at hl 0 rfl) ?_
  refine lv_aload_n hx hb dX11_seeBall_1 rfl (lv_at hl 0 rfl) ?_
  refine lv_iload_n hx hb dX11_seeBall_2 rfl (lv_at hl 1 rfl) ?_
  refine callVIr (rest := [.ref (ad 0)]) SF (c_X11_ballX l D cy tz ad st a1 _ h) (cw_RX11_165 hts ⟨Nat.le_of_ble_eq_true rfl, Nat.le_of_ble_eq_true rfl⟩) rfl rfl (va_recv hK hP (ci := 10) (q0 := 0) rfl rfl) hK hZ hA hP hD hS rfl hl.1 rfl (Nat.le_of_ble_eq_true rfl) dX11_seeBall_3 ⟨Nat.zero_le _, Nat.zero_le _⟩ (fun r1 H locs h hP hD hS => ?_)
  refine lv_aload_n hx hb dX11_seeBall_6 rfl (lv_at hl 0 rfl) ?_
  refine lv_iload_n hx hb dX11_seeBall_7 rfl (lv_at hl 1 rfl) ?_
  refine callVIr (rest := [.int r1, .ref (ad 0)]) SF (c_X11_ballY l D cy tz ad st a1 _ h) (cw_RX11_168 hts ⟨Nat.le_of_ble_eq_true rfl, Nat.le_of_ble_eq_true rfl⟩) rfl rfl (va_recv hK hP (ci := 10) (q0 := 0) rfl rfl) hK hZ hA hP hD hS rfl hl.1 rfl (Nat.le_of_ble_eq_true rfl) dX11_seeBall_8 ⟨Nat.zero_le _, Nat.zero_le _⟩ (fun r3 H locs h hP hD hS => ?_)
  refine lv_bipush (v := 24) hx hb dX11_seeBall_11 (by decide) ?_
  refine lv_aload_n hx hb dX11_seeBall_13 rfl (lv_at hl 0 rfl) ?_
  refine lv_iload_n hx hb dX11_seeBall_14 rfl (lv_at hl 1 rfl) ?_
  refine callVIr (rest := [.int 24, .int r3, .int r1, .ref (ad 0)]) SF (c_X11_wayAt l D cy tz ad st a1 _ h) (cw_RX11_139 hts ⟨Nat.le_of_ble_eq_true rfl, Nat.le_of_ble_eq_true rfl⟩) rfl rfl (va_recv hK hP (ci := 10) (q0 := 0) rfl rfl) hK hZ hA hP hD hS rfl hl.1 rfl (Nat.le_of_ble_eq_true rfl) dX11_seeBall_15 ⟨Nat.zero_le _, Nat.zero_le _⟩ (fun r5 H locs h hP hD hS => ?_)
  refine lv_isub hx hb dX11_seeBall_18 ?_
  refine lv_bipush (v := 24) hx hb dX11_seeBall_19 (by decide) ?_
  refine lv_irem hx hb dX11_seeBall_21 (by decide) ?_
  refine callVV (rest := []) SF (c_X11_turnPoint l D cy tz ad st r1 r3 ((24 - r5) - (24 - r5) / 24 * 24) _ h) (cw_RX11_135 hts ⟨Nat.le_of_ble_eq_true rfl, Nat.le_of_ble_eq_true rfl⟩) rfl rfl (va_recv hK hP (ci := 10) (q0 := 0) rfl rfl) hK hZ hA hP hD hS rfl hl.1 rfl (Nat.le_of_ble_eq_true rfl) dX11_seeBall_22 ⟨Nat.zero_le _, Nat.zero_le _⟩ (fun t8 H locs h hP hD hS => ?_)
  exact hret _ _ _ _ _ h hP hD hS dX11_seeBall_25
-- X11_isThrow
def rm_X11_isThrow : Room := { frames := 2, cells := 0, slots := 0, locals := 45 }
abbrev ws_X11_isThrow : List Cond := .code yX11_isThrow cX11_isThrow 2 (some .boolean) :: wsL_law
def wp_X11_isThrow (a1 : Int32) (a2 : Int32) (post : Int32 → Prop) : Prop := wp_X11_in a1.toInt64 0 200 (fun r1 => ((r1 = 0) → (post 0)) ∧ ((¬ r1 = 0) → (wp_X11_isWay a2 (fun r4 => ((r4 = 0) → (post 0)) ∧ ((¬ r4 = 0) → (post 1))))))
set_option maxHeartbeats 4000000 in
set_option maxRecDepth 100000 in
theorem c_X11_isThrow (l : Launch) (D : va_G) (cy : Nat → ClassId) (tz : Nat → Nat) (w : va_W) (a1 : Int32) (a2 : Int32) (post : Int32 → Prop) (h : wp_X11_isThrow a1 a2 post) : CtI l D cy tz yX11_isThrow ws_X11_isThrow rm_X11_isThrow [.int a1, .int a2] w (fun _ : Unit => w) (fun r _ => post r) := by
  refine CtI.of (own := RX11) (nm := "isThrow") (lv := [(0, .int a1), (1, .int a2)]) (plainFor_of_name (by decide)) rfl rfl (Nat.le_of_ble_eq_true rfl) rfl ?_
  intro p e s m args below meth c A Q ls B hP hD hS hl hret
  obtain ⟨hx, hb, hml, hown, hts, hK, hZ, hA, hnm⟩ := B
  have SF : CallFix p m c cX11_isThrow 2 s args wsL_law RX11 := ⟨hx, hb, hml, hown, hts⟩
  unfold wp_X11_isThrow at h
  refine lv_iload_n hx hb dX11_isThrow_0 rfl (lv_at hl 0 rfl) ?_
  refine lv_i2l (v := a1.toInt64) hx hb dX11_isThrow_1 rfl ?_
  refine lv_lconst (v := 0) hx hb dX11_isThrow_2 (by decide) ?_
  refine lv_ldc2 (v := 200) hx hb hown (hts _ w_18_2) dX11_isThrow_3 ?_
  refine callSIr (rest := []) SF (c_X11_in l D cy tz _ a1.toInt64 0 200 _ h) (cw_RX11_67 hts ⟨Nat.le_of_ble_eq_true rfl, Nat.le_of_ble_eq_true rfl⟩) rfl rfl hK hZ hA hP hD hS rfl hl.1 rfl (Nat.le_of_ble_eq_true rfl) dX11_isThrow_6 ⟨Nat.zero_le _, Nat.zero_le _⟩ (fun r1 H locs h hP hD hS => ?_)
  refine lv_if_eq (tgt := 23) hx hb dX11_isThrow_9 (by decide) (fun c3 => ?_) (fun c3 => ?_)
  · have h := h.1 c3
    refine lv_iconst (v := 0) hx hb dX11_isThrow_23 (by decide) ?_
    exact hret _ () _ _ _ _ rfl h hP hD hS dX11_isThrow_24
  · have h := h.2 c3
    refine lv_iload_n hx hb dX11_isThrow_12 rfl (lv_at hl 1 rfl) ?_
    refine callSIr (rest := []) SF (c_X11_isWay l D cy tz _ a2 _ h) (cw_RX11_129 hts ⟨Nat.le_of_ble_eq_true rfl, Nat.le_of_ble_eq_true rfl⟩) rfl rfl hK hZ hA hP hD hS rfl hl.1 rfl (Nat.le_of_ble_eq_true rfl) dX11_isThrow_13 ⟨Nat.zero_le _, Nat.zero_le _⟩ (fun r4 H locs h hP hD hS => ?_)
    refine lv_if_eq (tgt := 23) hx hb dX11_isThrow_16 (by decide) (fun c6 => ?_) (fun c6 => ?_)
    · have h := h.1 c6
      refine lv_iconst (v := 0) hx hb dX11_isThrow_23 (by decide) ?_
      exact hret _ () _ _ _ _ rfl h hP hD hS dX11_isThrow_24
    · have h := h.2 c6
      refine lv_iconst (v := 1) hx hb dX11_isThrow_19 (by decide) ?_
      refine lv_goto (tgt := 24) hx hb dX11_isThrow_20 (by decide) ?_
      exact hret _ () _ _ _ _ rfl h hP hD hS dX11_isThrow_24
-- X11_ball
def rm_X11_ball : Room := { frames := 3, cells := 0, slots := 0, locals := 72 }
abbrev ws_X11_ball : List Cond := .code yX11_ball cX11_ball 6 (some .int) :: wsL_law
theorem cw_RX11_173 {R : Room} {s : State} {args : Array Value} (hts : ∀ w ∈ wsL_law, w.before args s = true) (hR : rm_X11_isThrow.frames + 1 ≤ R.frames ∧ 8 + (2 + 11) + rm_X11_isThrow.locals ≤ R.locals) : CallB R s args RX11 173 yX11_isThrow cX11_isThrow 2 (some .boolean) ws_X11_isThrow rm_X11_isThrow rm_X11_isThrow.cells rm_X11_isThrow.slots 2 ∧ (Cond.static yX11_isThrow).before args s = true := va_cwS 2 hts (gdS w_17_23 w_18_0 w_1_5 w_18_1) rfl rfl rfl (by decide +kernel) hR
theorem cw_RX11_177 {R : Room} {s : State} {args : Array Value} (hts : ∀ w ∈ wsL_law, w.before args s = true) (hR : rm_X11_layThrow.frames + 1 ≤ R.frames ∧ 8 + (4 + 11) + rm_X11_layThrow.locals ≤ R.locals) : CallW R s args RX11 RX11 177 yX11_layThrow cX11_layThrow 4 none ws_X11_layThrow rm_X11_layThrow rm_X11_layThrow.cells rm_X11_layThrow.slots 3 := cwV 3 hts (gdV w_18_3 w_18_4 w_18_5 w_1_5 w_18_6) rfl rfl rfl (by decide +kernel) hR
theorem cw_RX11_180 {R : Room} {s : State} {args : Array Value} (hts : ∀ w ∈ wsL_law, w.before args s = true) (hR : rm_X11_seeBall.frames + 1 ≤ R.frames ∧ 8 + (2 + 11) + rm_X11_seeBall.locals ≤ R.locals) : CallW R s args RX11 RX11 180 yX11_seeBall cX11_seeBall 2 none ws_X11_seeBall rm_X11_seeBall rm_X11_seeBall.cells rm_X11_seeBall.slots 1 := cwV 1 hts (gdV w_18_19 w_18_20 w_18_21 w_1_5 w_18_22) rfl rfl rfl (by decide +kernel) hR
def wp_X11_ball (st : St) (a1 : Int32) (a2 : Int32) (a3 : Int32) (a4 : Int32) (a5 : Int32) (post : Int32 → St → Prop) : Prop := wp_X11_isOne st a1 (fun r1 => ((¬ r1 = 0) → (wp_X11_isThrow a2 a3 (fun r4 => ((r4 = 0) → (post (-100000002) st)) ∧ ((¬ r4 = 0) → (wp_X11_isTick a4 (fun r7 => ((r7 = 0) → (post (-100000002) st)) ∧ ((¬ r7 = 0) → (wp_X11_in a5.toInt64 0 3 (fun r10 => ((¬ r10 = 0) → (wp_X11_layTurns st (fun t14 => wp_X11_layThrow t14 a1 a2 a3 (fun t16 => ((2 ≤ a5) → (wp_X11_seeBall t16 a4 (fun t19 => ((¬ a5 = 2) → (post (gI t19 2) t19)) ∧ ((a5 = 2) → (post (gI t19 1) t19))))) ∧ ((¬ 2 ≤ a5) → (((¬ a5 = 0) → (wp_X11_ballY t16 a4 (fun r22 => post r22 t16))) ∧ ((a5 = 0) → (wp_X11_ballX t16 a4 (fun r24 => post r24 t16))))))))) ∧ ((r10 = 0) → (post (-100000002) st))))))))))) ∧ ((r1 = 0) → (post (-100000001) st)))
set_option maxHeartbeats 4000000 in
set_option maxRecDepth 100000 in
theorem c_X11_ball (l : Launch) (D : va_G) (cy : Nat → ClassId) (tz : Nat → Nat) (ad : Nat → Nat) (st : St) (a1 : Int32) (a2 : Int32) (a3 : Int32) (a4 : Int32) (a5 : Int32) (post : Int32 → St → Prop) (h : wp_X11_ball st a1 a2 a3 a4 a5 post) : CtI l D cy tz yX11_ball ws_X11_ball rm_X11_ball [.ref (ad 0), .int a1, .int a2, .int a3, .int a4, .int a5] (wM cy ad st) (wM cy ad) post := by
  refine CtI.of (own := RX11) (nm := "ball") (lv := [(0, .ref (ad 0)), (1, .int a1), (2, .int a2), (3, .int a3), (4, .int a4), (5, .int a5)]) (plainFor_of_name (by decide)) rfl rfl (Nat.le_of_ble_eq_true rfl) rfl ?_
  intro p e s m args below meth c A Q ls B hP hD hS hl hret
  obtain ⟨hx, hb, hml, hown, hts, hK, hZ, hA, hnm⟩ := B
  have SF : CallFix p m c cX11_ball 6 s args wsL_law RX11 := ⟨hx, hb, hml, hown, hts⟩
  unfold wp_X11_ball at h
  refine lv_aload_n hx hb dX11_ball_0 rfl (lv_at hl 0 rfl) ?_
  refine lv_iload_n hx hb dX11_ball_1 rfl (lv_at hl 1 rfl) ?_
  refine callVIr (rest := []) SF (c_X11_isOne l D cy tz ad st a1 _ h) (cw_RX11_142 hts ⟨Nat.le_of_ble_eq_true rfl, Nat.le_of_ble_eq_true rfl⟩) rfl rfl (va_recv hK hP (ci := 10) (q0 := 0) rfl rfl) hK hZ hA hP hD hS rfl hl.1 rfl (Nat.le_of_ble_eq_true rfl) dX11_ball_2 ⟨Nat.zero_le _, Nat.zero_le _⟩ (fun r1 H locs h hP hD hS => ?_)
  refine lv_if_ne (tgt := 11) hx hb dX11_ball_5 (by decide) (fun c3 => ?_) (fun c3 => ?_)
  · have h := h.1 c3
    refine lv_iload_n hx hb dX11_ball_11 rfl (lv_at hl 2 rfl) ?_
    refine lv_iload_n hx hb dX11_ball_12 rfl (lv_at hl 3 rfl) ?_
    refine callSIr (rest := []) SF (c_X11_isThrow l D cy tz _ a2 a3 _ h) (cw_RX11_173 hts ⟨Nat.le_of_ble_eq_true rfl, Nat.le_of_ble_eq_true rfl⟩) rfl rfl hK hZ hA hP hD hS rfl hl.1 rfl (Nat.le_of_ble_eq_true rfl) dX11_ball_13 ⟨Nat.zero_le _, Nat.zero_le _⟩ (fun r4 H locs h hP hD hS => ?_)
    refine lv_if_eq (tgt := 40) hx hb dX11_ball_16 (by decide) (fun c6 => ?_) (fun c6 => ?_)
    · have h := h.1 c6
      refine lv_ldc (v := (-100000002)) hx hb hown (hts _ w_15_17) dX11_ball_40 ?_
      exact hret _ _ _ _ _ _ rfl h hP hD hS dX11_ball_42
    · have h := h.2 c6
      refine lv_iload hx hb dX11_ball_19 (lv_at hl 4 rfl) ?_
      refine callSIr (rest := []) SF (c_X11_isTick l D cy tz _ a4 _ h) (cw_RX11_118 hts ⟨Nat.le_of_ble_eq_true rfl, Nat.le_of_ble_eq_true rfl⟩) rfl rfl hK hZ hA hP hD hS rfl hl.1 rfl (Nat.le_of_ble_eq_true rfl) dX11_ball_21 ⟨Nat.zero_le _, Nat.zero_le _⟩ (fun r7 H locs h hP hD hS => ?_)
      refine lv_if_eq (tgt := 40) hx hb dX11_ball_24 (by decide) (fun c9 => ?_) (fun c9 => ?_)
      · have h := h.1 c9
        refine lv_ldc (v := (-100000002)) hx hb hown (hts _ w_15_17) dX11_ball_40 ?_
        exact hret _ _ _ _ _ _ rfl h hP hD hS dX11_ball_42
      · have h := h.2 c9
        refine lv_iload hx hb dX11_ball_27 (lv_at hl 5 rfl) ?_
        refine lv_i2l (v := a5.toInt64) hx hb dX11_ball_29 rfl ?_
        refine lv_lconst (v := 0) hx hb dX11_ball_30 (by decide) ?_
        refine lv_ldc2 (v := 3) hx hb hown (hts _ w_15_16) dX11_ball_31 ?_
        refine callSIr (rest := []) SF (c_X11_in l D cy tz _ a5.toInt64 0 3 _ h) (cw_RX11_67 hts ⟨Nat.le_of_ble_eq_true rfl, Nat.le_of_ble_eq_true rfl⟩) rfl rfl hK hZ hA hP hD hS rfl hl.1 rfl (Nat.le_of_ble_eq_true rfl) dX11_ball_34 ⟨Nat.zero_le _, Nat.zero_le _⟩ (fun r10 H locs h hP hD hS => ?_)
        refine lv_if_ne (tgt := 43) hx hb dX11_ball_37 (by decide) (fun c12 => ?_) (fun c12 => ?_)
        · have h := h.1 c12
          refine lv_aload_n hx hb dX11_ball_43 rfl (lv_at hl 0 rfl) ?_
          refine callVV (rest := []) SF (c_X11_layTurns l D cy tz ad st _ h) (cw_RX11_124 hts ⟨Nat.le_of_ble_eq_true rfl, Nat.le_of_ble_eq_true rfl⟩) rfl rfl (va_recv hK hP (ci := 10) (q0 := 0) rfl rfl) hK hZ hA hP hD hS rfl hl.1 rfl (Nat.le_of_ble_eq_true rfl) dX11_ball_44 ⟨Nat.zero_le _, Nat.zero_le _⟩ (fun t14 H locs h hP hD hS => ?_)
          refine lv_aload_n hx hb dX11_ball_47 rfl (lv_at hl 0 rfl) ?_
          refine lv_iload_n hx hb dX11_ball_48 rfl (lv_at hl 1 rfl) ?_
          refine lv_iload_n hx hb dX11_ball_49 rfl (lv_at hl 2 rfl) ?_
          refine lv_iload_n hx hb dX11_ball_50 rfl (lv_at hl 3 rfl) ?_
          refine callVV (rest := []) SF (c_X11_layThrow l D cy tz ad t14 a1 a2 a3 _ h) (cw_RX11_177 hts ⟨Nat.le_of_ble_eq_true rfl, Nat.le_of_ble_eq_true rfl⟩) rfl rfl (va_recv hK hP (ci := 10) (q0 := 0) rfl rfl) hK hZ hA hP hD hS rfl hl.1 rfl (Nat.le_of_ble_eq_true rfl) dX11_ball_51 ⟨Nat.zero_le _, Nat.zero_le _⟩ (fun t16 H locs h hP hD hS => ?_)
          refine lv_iload hx hb dX11_ball_54 (lv_at hl 5 rfl) ?_
          refine lv_iconst (v := 2) hx hb dX11_ball_56 (by decide) ?_
          refine lv_icmp_ge (tgt := 81) hx hb dX11_ball_57 (by decide) (fun c17 => ?_) (fun c17 => ?_)
          · have h := h.1 c17
            refine lv_aload_n hx hb dX11_ball_81 rfl (lv_at hl 0 rfl) ?_
            refine lv_iload hx hb dX11_ball_82 (lv_at hl 4 rfl) ?_
            refine callVV (rest := []) SF (c_X11_seeBall l D cy tz ad t16 a4 _ h) (cw_RX11_180 hts ⟨Nat.le_of_ble_eq_true rfl, Nat.le_of_ble_eq_true rfl⟩) rfl rfl (va_recv hK hP (ci := 10) (q0 := 0) rfl rfl) hK hZ hA hP hD hS rfl hl.1 rfl (Nat.le_of_ble_eq_true rfl) dX11_ball_84 ⟨Nat.zero_le _, Nat.zero_le _⟩ (fun t19 H locs h hP hD hS => ?_)
            refine lv_iload hx hb dX11_ball_87 (lv_at hl 5 rfl) ?_
            refine lv_iconst (v := 2) hx hb dX11_ball_89 (by decide) ?_
            refine lv_icmp_ne (tgt := 100) hx hb dX11_ball_90 (by decide) (fun c20 => ?_) (fun c20 => ?_)
            · have h := h.1 c20
              refine lv_aload_n hx hb dX11_ball_100 rfl (lv_at hl 0 rfl) ?_
              refine va_get (D := D) (ci := 10) (v := .int (gI t19 2)) (C := RX11) (T := TX11) (N := 35) hx hb hts inlX11 hown hK hP 0 rfl rfl 2 (by decide) (hts _ w_14_4) (fun _ h9 => h9) rfl dX11_ball_101 ?_
              exact hret _ _ _ _ _ _ rfl h hP hD hS dX11_ball_104
            · have h := h.2 c20
              refine lv_aload_n hx hb dX11_ball_93 rfl (lv_at hl 0 rfl) ?_
              refine va_get (D := D) (ci := 10) (v := .int (gI t19 1)) (C := RX11) (T := TX11) (N := 35) hx hb hts inlX11 hown hK hP 0 rfl rfl 1 (by decide) (hts _ w_14_3) (fun _ h9 => h9) rfl dX11_ball_94 ?_
              refine lv_goto (tgt := 104) hx hb dX11_ball_97 (by decide) ?_
              exact hret _ _ _ _ _ _ rfl h hP hD hS dX11_ball_104
          · have h := h.2 c17
            refine lv_iload hx hb dX11_ball_60 (lv_at hl 5 rfl) ?_
            refine lv_if_ne (tgt := 74) hx hb dX11_ball_62 (by decide) (fun c21 => ?_) (fun c21 => ?_)
            · have h := h.1 c21
              refine lv_aload_n hx hb dX11_ball_74 rfl (lv_at hl 0 rfl) ?_
              refine lv_iload hx hb dX11_ball_75 (lv_at hl 4 rfl) ?_
              refine callVIr (rest := []) SF (c_X11_ballY l D cy tz ad t16 a4 _ h) (cw_RX11_168 hts ⟨Nat.le_of_ble_eq_true rfl, Nat.le_of_ble_eq_true rfl⟩) rfl rfl (va_recv hK hP (ci := 10) (q0 := 0) rfl rfl) hK hZ hA hP hD hS rfl hl.1 rfl (Nat.le_of_ble_eq_true rfl) dX11_ball_77 ⟨Nat.zero_le _, Nat.zero_le _⟩ (fun r22 H locs h hP hD hS => ?_)
              exact hret _ _ _ _ _ _ rfl h hP hD hS dX11_ball_80
            · have h := h.2 c21
              refine lv_aload_n hx hb dX11_ball_65 rfl (lv_at hl 0 rfl) ?_
              refine lv_iload hx hb dX11_ball_66 (lv_at hl 4 rfl) ?_
              refine callVIr (rest := []) SF (c_X11_ballX l D cy tz ad t16 a4 _ h) (cw_RX11_165 hts ⟨Nat.le_of_ble_eq_true rfl, Nat.le_of_ble_eq_true rfl⟩) rfl rfl (va_recv hK hP (ci := 10) (q0 := 0) rfl rfl) hK hZ hA hP hD hS rfl hl.1 rfl (Nat.le_of_ble_eq_true rfl) dX11_ball_68 ⟨Nat.zero_le _, Nat.zero_le _⟩ (fun r24 H locs h hP hD hS => ?_)
              refine lv_goto (tgt := 80) hx hb dX11_ball_71 (by decide) ?_
              exact hret _ _ _ _ _ _ rfl h hP hD hS dX11_ball_80
        · have h := h.2 c12
          refine lv_ldc (v := (-100000002)) hx hb hown (hts _ w_15_17) dX11_ball_40 ?_
          exact hret _ _ _ _ _ _ rfl h hP hD hS dX11_ball_42
  · have h := h.2 c3
    refine lv_ldc (v := (-100000001)) hx hb hown (hts _ w_15_15) dX11_ball_8 ?_
    exact hret _ _ _ _ _ _ rfl h hP hD hS dX11_ball_10
-- X11_farFrom
def rm_X11_farFrom : Room := { frames := 2, cells := 0, slots := 0, locals := 49 }
abbrev ws_X11_farFrom : List Cond := .code yX11_farFrom cX11_farFrom 5 (some .int) :: wsL_law
theorem cw_RX11_184 {R : Room} {s : State} {args : Array Value} (hts : ∀ w ∈ wsL_law, w.before args s = true) (hR : rm_X11_size.frames + 1 ≤ R.frames ∧ 8 + (1 + 11) + rm_X11_size.locals ≤ R.locals) : CallB R s args RX11 184 yX11_size cX11_size 1 (some .int) ws_X11_size rm_X11_size rm_X11_size.cells rm_X11_size.slots 1 ∧ (Cond.static yX11_size).before args s = true := va_cwS 1 hts (gdS w_20_20 w_20_21 w_1_5 w_20_22) rfl rfl rfl (by decide +kernel) hR
def wp_X11_farFrom (st : St) (a1 : Int32) (a2 : Int32) (post : Int32 → St → Prop) : Prop := wp_X11_layOne st a1 a2 (fun t2 => wp_X11_ballX t2 a2 (fun r3 => wp_X11_size (r3 - gI t2 1) (fun r5 => wp_X11_ballY t2 a2 (fun r7 => wp_X11_size (r7 - gI t2 2) (fun r9 => ((r5 ≤ r9) → (post r9 t2)) ∧ ((¬ r5 ≤ r9) → (post r5 t2)))))))
set_option maxHeartbeats 4000000 in
set_option maxRecDepth 100000 in
theorem c_X11_farFrom (l : Launch) (D : va_G) (cy : Nat → ClassId) (tz : Nat → Nat) (ad : Nat → Nat) (st : St) (a1 : Int32) (a2 : Int32) (post : Int32 → St → Prop) (h : wp_X11_farFrom st a1 a2 post) : CtI l D cy tz yX11_farFrom ws_X11_farFrom rm_X11_farFrom [.ref (ad 0), .int a1, .int a2] (wM cy ad st) (wM cy ad) post := by
  refine CtI.of (own := RX11) (nm := "farFrom") (lv := [(0, .ref (ad 0)), (1, .int a1), (2, .int a2)]) (plainFor_of_name (by decide)) rfl rfl (Nat.le_of_ble_eq_true rfl) rfl ?_
  intro p e s m args below meth c A Q ls B hP hD hS hl hret
  obtain ⟨hx, hb, hml, hown, hts, hK, hZ, hA, hnm⟩ := B
  have SF : CallFix p m c cX11_farFrom 5 s args wsL_law RX11 := ⟨hx, hb, hml, hown, hts⟩
  unfold wp_X11_farFrom at h
  refine lv_aload_n hx hb dX11_farFrom_0 rfl (lv_at hl 0 rfl) ?_
  refine lv_iload_n hx hb dX11_farFrom_1 rfl (lv_at hl 1 rfl) ?_
  refine lv_iload_n hx hb dX11_farFrom_2 rfl (lv_at hl 2 rfl) ?_
  refine callVV (rest := []) SF (c_X11_layOne l D cy tz ad st a1 a2 _ h) (cw_RX11_149 hts ⟨Nat.le_of_ble_eq_true rfl, Nat.le_of_ble_eq_true rfl⟩) rfl rfl (va_recv hK hP (ci := 10) (q0 := 0) rfl rfl) hK hZ hA hP hD hS rfl hl.1 rfl (Nat.le_of_ble_eq_true rfl) dX11_farFrom_3 ⟨Nat.zero_le _, Nat.zero_le _⟩ (fun t2 H locs h hP hD hS => ?_)
  refine lv_aload_n hx hb dX11_farFrom_6 rfl (lv_at hl 0 rfl) ?_
  refine lv_iload_n hx hb dX11_farFrom_7 rfl (lv_at hl 2 rfl) ?_
  refine callVIr (rest := []) SF (c_X11_ballX l D cy tz ad t2 a2 _ h) (cw_RX11_165 hts ⟨Nat.le_of_ble_eq_true rfl, Nat.le_of_ble_eq_true rfl⟩) rfl rfl (va_recv hK hP (ci := 10) (q0 := 0) rfl rfl) hK hZ hA hP hD hS rfl hl.1 rfl (Nat.le_of_ble_eq_true rfl) dX11_farFrom_8 ⟨Nat.zero_le _, Nat.zero_le _⟩ (fun r3 H locs h hP hD hS => ?_)
  refine lv_aload_n hx hb dX11_farFrom_11 rfl (lv_at hl 0 rfl) ?_
  refine va_get (D := D) (ci := 10) (v := .int (gI t2 1)) (C := RX11) (T := TX11) (N := 35) hx hb hts inlX11 hown hK hP 0 rfl rfl 1 (by decide) (hts _ w_14_3) (fun _ h9 => h9) rfl dX11_farFrom_12 ?_
  refine lv_isub hx hb dX11_farFrom_15 ?_
  refine callSIr (rest := []) SF (c_X11_size l D cy tz _ (r3 - gI t2 1) _ h) (cw_RX11_184 hts ⟨Nat.le_of_ble_eq_true rfl, Nat.le_of_ble_eq_true rfl⟩) rfl rfl hK hZ hA hP hD hS rfl hl.1 rfl (Nat.le_of_ble_eq_true rfl) dX11_farFrom_16 ⟨Nat.zero_le _, Nat.zero_le _⟩ (fun r5 H locs h hP hD hS => ?_)
  refine lv_istore_n (lv' := [(3, .int r5), (0, .ref (ad 0)), (1, .int a1), (2, .int a2)]) hx hb dX11_farFrom_19 rfl hl (by decide) rfl (fun ls hl => ?_)
  refine lv_aload_n hx hb dX11_farFrom_20 rfl (lv_at hl 1 rfl) ?_
  refine lv_iload_n hx hb dX11_farFrom_21 rfl (lv_at hl 3 rfl) ?_
  refine callVIr (rest := []) SF (c_X11_ballY l D cy tz ad t2 a2 _ h) (cw_RX11_168 hts ⟨Nat.le_of_ble_eq_true rfl, Nat.le_of_ble_eq_true rfl⟩) rfl rfl (va_recv hK hP (ci := 10) (q0 := 0) rfl rfl) hK hZ hA hP hD hS rfl hl.1 rfl (Nat.le_of_ble_eq_true rfl) dX11_farFrom_22 ⟨Nat.zero_le _, Nat.zero_le _⟩ (fun r7 H locs h hP hD hS => ?_)
  refine lv_aload_n hx hb dX11_farFrom_25 rfl (lv_at hl 1 rfl) ?_
  refine va_get (D := D) (ci := 10) (v := .int (gI t2 2)) (C := RX11) (T := TX11) (N := 35) hx hb hts inlX11 hown hK hP 0 rfl rfl 2 (by decide) (hts _ w_14_4) (fun _ h9 => h9) rfl dX11_farFrom_26 ?_
  refine lv_isub hx hb dX11_farFrom_29 ?_
  refine callSIr (rest := []) SF (c_X11_size l D cy tz _ (r7 - gI t2 2) _ h) (cw_RX11_184 hts ⟨Nat.le_of_ble_eq_true rfl, Nat.le_of_ble_eq_true rfl⟩) rfl rfl hK hZ hA hP hD hS rfl hl.1 rfl (Nat.le_of_ble_eq_true rfl) dX11_farFrom_30 ⟨Nat.zero_le _, Nat.zero_le _⟩ (fun r9 H locs h hP hD hS => ?_)
  refine lv_istore (lv' := [(4, .int r9), (3, .int r5), (0, .ref (ad 0)), (1, .int a1), (2, .int a2)]) hx hb dX11_farFrom_33 hl (by decide) rfl (fun ls hl => ?_)
  refine lv_iload_n hx hb dX11_farFrom_35 rfl (lv_at hl 1 rfl) ?_
  refine lv_iload hx hb dX11_farFrom_36 (lv_at hl 0 rfl) ?_
  refine lv_icmp_le (tgt := 45) hx hb dX11_farFrom_38 (by decide) (fun c11 => ?_) (fun c11 => ?_)
  · have h := h.1 c11
    refine lv_iload hx hb dX11_farFrom_45 (lv_at hl 0 rfl) ?_
    exact hret _ _ _ _ _ _ rfl h hP hD hS dX11_farFrom_47
  · have h := h.2 c11
    refine lv_iload_n hx hb dX11_farFrom_41 rfl (lv_at hl 1 rfl) ?_
    refine lv_goto (tgt := 47) hx hb dX11_farFrom_42 (by decide) ?_
    exact hret _ _ _ _ _ _ rfl h hP hD hS dX11_farFrom_47
-- X11_caughtOf
def rm_X11_caughtOf : Room := { frames := 3, cells := 0, slots := 0, locals := 73 }
abbrev ws_X11_caughtOf : List Cond := .code yX11_caughtOf cX11_caughtOf 6 (some .int) :: wsL_law
theorem cw_RX11_187 {R : Room} {s : State} {args : Array Value} (hts : ∀ w ∈ wsL_law, w.before args s = true) (hR : rm_X11_farFrom.frames + 1 ≤ R.frames ∧ 8 + (5 + 11) + rm_X11_farFrom.locals ≤ R.locals) : CallW R s args RX11 RX11 187 yX11_farFrom cX11_farFrom 5 (some .int) ws_X11_farFrom rm_X11_farFrom rm_X11_farFrom.cells rm_X11_farFrom.slots 2 := cwV 2 hts (gdV w_20_16 w_20_17 w_20_18 w_1_5 w_20_19) rfl rfl rfl (by decide +kernel) hR
def wp_X11_caughtOf_L10 (post : Int32 → St → Prop) (K : St → Prop) (a4 : Int32) : Nat → St → Int32 → Prop
  | 0, _, _ => False
  | n10 + 1, t4, v3 => ((60 < v3) → (K t4)) ∧ ((¬ 60 < v3) → (wp_X11_farFrom t4 a4 v3 (fun r6 t7 => (((gA t7 3 (2 : Int32).toNatClampNeg) < r6) → (∀ x9 : Int32, x9 = v3 + 1 → (wp_X11_caughtOf_L10 post K a4 n10 t7 x9))) ∧ ((¬ (gA t7 3 (2 : Int32).toNatClampNeg) < r6) → (post v3 t7)))))
def wp_X11_caughtOf (st : St) (a1 : Int32) (a2 : Int32) (a3 : Int32) (a4 : Int32) (post : Int32 → St → Prop) : Prop := wp_X11_layThrow st a1 a2 a3 (fun t2 => ∃ m10 : Nat, wp_X11_caughtOf_L10 post (fun t11 => post (-6) t11) a4 m10 t2 1)
set_option maxHeartbeats 4000000 in
set_option maxRecDepth 100000 in
theorem c_X11_caughtOf (l : Launch) (D : va_G) (cy : Nat → ClassId) (tz : Nat → Nat) (ad : Nat → Nat) (st : St) (a1 : Int32) (a2 : Int32) (a3 : Int32) (a4 : Int32) (post : Int32 → St → Prop) (h : wp_X11_caughtOf st a1 a2 a3 a4 post) : CtI l D cy tz yX11_caughtOf ws_X11_caughtOf rm_X11_caughtOf [.ref (ad 0), .int a1, .int a2, .int a3, .int a4] (wM cy ad st) (wM cy ad) post := by
  refine CtI.of (own := RX11) (nm := "caughtOf") (lv := [(0, .ref (ad 0)), (1, .int a1), (2, .int a2), (3, .int a3), (4, .int a4)]) (plainFor_of_name (by decide)) rfl rfl (Nat.le_of_ble_eq_true rfl) rfl ?_
  intro p e s m args below meth c A Q ls B hP hD hS hl hret
  obtain ⟨hx, hb, hml, hown, hts, hK, hZ, hA, hnm⟩ := B
  have SF : CallFix p m c cX11_caughtOf 6 s args wsL_law RX11 := ⟨hx, hb, hml, hown, hts⟩
  unfold wp_X11_caughtOf at h
  refine lv_aload_n hx hb dX11_caughtOf_0 rfl (lv_at hl 0 rfl) ?_
  refine lv_iload_n hx hb dX11_caughtOf_1 rfl (lv_at hl 1 rfl) ?_
  refine lv_iload_n hx hb dX11_caughtOf_2 rfl (lv_at hl 2 rfl) ?_
  refine lv_iload_n hx hb dX11_caughtOf_3 rfl (lv_at hl 3 rfl) ?_
  refine callVV (rest := []) SF (c_X11_layThrow l D cy tz ad st a1 a2 a3 _ h) (cw_RX11_177 hts ⟨Nat.le_of_ble_eq_true rfl, Nat.le_of_ble_eq_true rfl⟩) rfl rfl (va_recv hK hP (ci := 10) (q0 := 0) rfl rfl) hK hZ hA hP hD hS rfl hl.1 rfl (Nat.le_of_ble_eq_true rfl) dX11_caughtOf_4 ⟨Nat.zero_le _, Nat.zero_le _⟩ (fun t2 H locs h hP hD hS => ?_)
  refine lv_iconst (v := 1) hx hb dX11_caughtOf_7 (by decide) ?_
  refine lv_istore (lv' := [(5, .int 1), (0, .ref (ad 0)), (1, .int a1), (2, .int a2), (3, .int a3), (4, .int a4)]) hx hb dX11_caughtOf_8 hl (by decide) rfl (fun ls hl => ?_)
  have loop10 : ∀ (K : St → Prop), (∀ (t11 : St) (H : Heap) (locs : List Loc) (ls : Array Slot), K t11 → va_P D vwCl (wM cy ad t11) H → va_D A (wM cy ad t11) → va_S A s.heap H locs → lv_has ls 6 [] → W p l e rm_X11_caughtOf s m args below meth c H locs 0 0 Q (F0 m 43 ls [])) → ∀ (n : Nat) (t4 : St) (v3 : Int32) (H : Heap) (locs : List Loc) (ls : Array Slot), wp_X11_caughtOf_L10 post K a4 n t4 v3 → va_P D vwCl (wM cy ad t4) H → va_D A (wM cy ad t4) → va_S A s.heap H locs → lv_has ls 6 [(0, .ref (ad 0)), (4, .int a4), (5, .int v3)] → W p l e rm_X11_caughtOf s m args below meth c H locs 0 0 Q (F0 m 10 ls []) := by
    intro K hE10 n
    induction n with
    | zero => intro t4 v3 H locs ls h; exact h.elim
    | succ n ih10 =>
      intro t4 v3 H locs ls h hP hD hS hl
      rw [wp_X11_caughtOf_L10] at h
      refine lv_iload hx hb dX11_caughtOf_10 (lv_at hl 2 rfl) ?_
      refine lv_bipush (v := 60) hx hb dX11_caughtOf_12 (by decide) ?_
      refine lv_icmp_gt (tgt := 43) hx hb dX11_caughtOf_14 (by decide) (fun c5 => ?_) (fun c5 => ?_)
      · have h := h.1 c5
        exact hE10 _ _ _ _ h hP hD hS (lv_sub hl [] rfl)
      · have h := h.2 c5
        refine lv_aload_n hx hb dX11_caughtOf_17 rfl (lv_at hl 0 rfl) ?_
        refine lv_iload hx hb dX11_caughtOf_18 (lv_at hl 1 rfl) ?_
        refine lv_iload hx hb dX11_caughtOf_20 (lv_at hl 2 rfl) ?_
        refine callVI (rest := []) SF (c_X11_farFrom l D cy tz ad t4 a4 v3 _ h) (cw_RX11_187 hts ⟨Nat.le_of_ble_eq_true rfl, Nat.le_of_ble_eq_true rfl⟩) rfl rfl (va_recv hK hP (ci := 10) (q0 := 0) rfl rfl) hK hZ hA hP hD hS rfl hl.1 rfl (Nat.le_of_ble_eq_true rfl) dX11_caughtOf_22 ⟨Nat.zero_le _, Nat.zero_le _⟩ (fun r6 t7 H locs h hP hD hS => ?_)
        refine lv_aload_n hx hb dX11_caughtOf_25 rfl (lv_at hl 0 rfl) ?_
        refine va_get (D := D) (ci := 10) (v := .ref (ad 2)) (C := RX11) (T := TX11) (N := 35) hx hb hts inlX11 hown hK hP 0 rfl rfl 3 (by decide) (hts _ w_5_7) (fun _ h9 => h9) rfl dX11_caughtOf_26 ?_
        refine lv_iconst (v := 2) hx hb dX11_caughtOf_29 (by decide) ?_
        refine va_iald (f := gA t7 3) (n := 5) hx hb hK hP 2 0 rfl rfl (vin (by decide +kernel)) dX11_caughtOf_30 ?_
        refine lv_icmp_gt (tgt := 37) hx hb dX11_caughtOf_31 (by decide) (fun c8 => ?_) (fun c8 => ?_)
        · have h := h.1 c8
          obtain ⟨x9, e10⟩ : ∃ z : Int32, z = v3 + 1 := ⟨_, rfl⟩
          have h := h x9 e10
          refine lv_iinc (v := x9) (lv' := [(5, .int x9), (0, .ref (ad 0)), (4, .int a4)]) hx hb dX11_caughtOf_37 hl (k := 2) rfl (by rw [e10]; rfl) (by decide) rfl (fun ls hl => ?_)
          refine lv_goto (tgt := 10) hx hb dX11_caughtOf_40 (by decide) ?_
          exact ih10 _ _ _ _ _ h hP hD hS (lv_sub hl [1, 2, 0] rfl)
        · have h := h.2 c8
          refine lv_iload hx hb dX11_caughtOf_34 (lv_at hl 2 rfl) ?_
          exact hret _ _ _ _ _ _ rfl h hP hD hS dX11_caughtOf_36
  obtain ⟨n, h⟩ := h
  refine loop10 _ ?_ n _ _ _ _ _ h hP hD hS (lv_sub hl [1, 5, 0] rfl)
  intro t11 H locs ls h hP hD hS hl
  refine lv_bipush (v := (-6)) hx hb dX11_caughtOf_43 (by decide) ?_
  exact hret _ _ _ _ _ _ rfl h hP hD hS dX11_caughtOf_45
-- X11_caught
def rm_X11_caught : Room := { frames := 4, cells := 0, slots := 0, locals := 98 }
abbrev ws_X11_caught : List Cond := .code yX11_caught cX11_caught 5 (some .int) :: wsL_law
theorem cw_RX11_191 {R : Room} {s : State} {args : Array Value} (hts : ∀ w ∈ wsL_law, w.before args s = true) (hR : rm_X11_caughtOf.frames + 1 ≤ R.frames ∧ 8 + (6 + 11) + rm_X11_caughtOf.locals ≤ R.locals) : CallW R s args RX11 RX11 191 yX11_caughtOf cX11_caughtOf 6 (some .int) ws_X11_caughtOf rm_X11_caughtOf rm_X11_caughtOf.cells rm_X11_caughtOf.slots 4 := cwV 4 hts (gdV w_20_12 w_20_13 w_20_14 w_1_5 w_20_15) rfl rfl rfl (by decide +kernel) hR
def wp_X11_caught (st : St) (a1 : Int32) (a2 : Int32) (a3 : Int32) (a4 : Int32) (post : Int32 → St → Prop) : Prop := wp_X11_isOne st a1 (fun r1 => ((r1 = 0) → (post (-1) st)) ∧ ((¬ r1 = 0) → (wp_X11_isOne st a4 (fun r4 => ((¬ r4 = 0) → (wp_X11_isThrow a2 a3 (fun r7 => ((¬ r7 = 0) → (wp_X11_layTurns st (fun t11 => wp_X11_caughtOf t11 a1 a2 a3 a4 (fun r12 t13 => post r12 t13)))) ∧ ((r7 = 0) → (post (-2) st))))) ∧ ((r4 = 0) → (post (-1) st))))))
set_option maxHeartbeats 4000000 in
set_option maxRecDepth 100000 in
theorem c_X11_caught (l : Launch) (D : va_G) (cy : Nat → ClassId) (tz : Nat → Nat) (ad : Nat → Nat) (st : St) (a1 : Int32) (a2 : Int32) (a3 : Int32) (a4 : Int32) (post : Int32 → St → Prop) (h : wp_X11_caught st a1 a2 a3 a4 post) : CtI l D cy tz yX11_caught ws_X11_caught rm_X11_caught [.ref (ad 0), .int a1, .int a2, .int a3, .int a4] (wM cy ad st) (wM cy ad) post := by
  refine CtI.of (own := RX11) (nm := "caught") (lv := [(0, .ref (ad 0)), (1, .int a1), (2, .int a2), (3, .int a3), (4, .int a4)]) (plainFor_of_name (by decide)) rfl rfl (Nat.le_of_ble_eq_true rfl) rfl ?_
  intro p e s m args below meth c A Q ls B hP hD hS hl hret
  obtain ⟨hx, hb, hml, hown, hts, hK, hZ, hA, hnm⟩ := B
  have SF : CallFix p m c cX11_caught 5 s args wsL_law RX11 := ⟨hx, hb, hml, hown, hts⟩
  unfold wp_X11_caught at h
  refine lv_aload_n hx hb dX11_caught_0 rfl (lv_at hl 0 rfl) ?_
  refine lv_iload_n hx hb dX11_caught_1 rfl (lv_at hl 1 rfl) ?_
  refine callVIr (rest := []) SF (c_X11_isOne l D cy tz ad st a1 _ h) (cw_RX11_142 hts ⟨Nat.le_of_ble_eq_true rfl, Nat.le_of_ble_eq_true rfl⟩) rfl rfl (va_recv hK hP (ci := 10) (q0 := 0) rfl rfl) hK hZ hA hP hD hS rfl hl.1 rfl (Nat.le_of_ble_eq_true rfl) dX11_caught_2 ⟨Nat.zero_le _, Nat.zero_le _⟩ (fun r1 H locs h hP hD hS => ?_)
  refine lv_if_eq (tgt := 17) hx hb dX11_caught_5 (by decide) (fun c3 => ?_) (fun c3 => ?_)
  · have h := h.1 c3
    refine lv_iconst (v := (-1)) hx hb dX11_caught_17 (by decide) ?_
    exact hret _ _ _ _ _ _ rfl h hP hD hS dX11_caught_18
  · have h := h.2 c3
    refine lv_aload_n hx hb dX11_caught_8 rfl (lv_at hl 0 rfl) ?_
    refine lv_iload hx hb dX11_caught_9 (lv_at hl 4 rfl) ?_
    refine callVIr (rest := []) SF (c_X11_isOne l D cy tz ad st a4 _ h) (cw_RX11_142 hts ⟨Nat.le_of_ble_eq_true rfl, Nat.le_of_ble_eq_true rfl⟩) rfl rfl (va_recv hK hP (ci := 10) (q0 := 0) rfl rfl) hK hZ hA hP hD hS rfl hl.1 rfl (Nat.le_of_ble_eq_true rfl) dX11_caught_11 ⟨Nat.zero_le _, Nat.zero_le _⟩ (fun r4 H locs h hP hD hS => ?_)
    refine lv_if_ne (tgt := 19) hx hb dX11_caught_14 (by decide) (fun c6 => ?_) (fun c6 => ?_)
    · have h := h.1 c6
      refine lv_iload_n hx hb dX11_caught_19 rfl (lv_at hl 2 rfl) ?_
      refine lv_iload_n hx hb dX11_caught_20 rfl (lv_at hl 3 rfl) ?_
      refine callSIr (rest := []) SF (c_X11_isThrow l D cy tz _ a2 a3 _ h) (cw_RX11_173 hts ⟨Nat.le_of_ble_eq_true rfl, Nat.le_of_ble_eq_true rfl⟩) rfl rfl hK hZ hA hP hD hS rfl hl.1 rfl (Nat.le_of_ble_eq_true rfl) dX11_caught_21 ⟨Nat.zero_le _, Nat.zero_le _⟩ (fun r7 H locs h hP hD hS => ?_)
      refine lv_if_ne (tgt := 30) hx hb dX11_caught_24 (by decide) (fun c9 => ?_) (fun c9 => ?_)
      · have h := h.1 c9
        refine lv_aload_n hx hb dX11_caught_30 rfl (lv_at hl 0 rfl) ?_
        refine callVV (rest := []) SF (c_X11_layTurns l D cy tz ad st _ h) (cw_RX11_124 hts ⟨Nat.le_of_ble_eq_true rfl, Nat.le_of_ble_eq_true rfl⟩) rfl rfl (va_recv hK hP (ci := 10) (q0 := 0) rfl rfl) hK hZ hA hP hD hS rfl hl.1 rfl (Nat.le_of_ble_eq_true rfl) dX11_caught_31 ⟨Nat.zero_le _, Nat.zero_le _⟩ (fun t11 H locs h hP hD hS => ?_)
        refine lv_aload_n hx hb dX11_caught_34 rfl (lv_at hl 0 rfl) ?_
        refine lv_iload_n hx hb dX11_caught_35 rfl (lv_at hl 1 rfl) ?_
        refine lv_iload_n hx hb dX11_caught_36 rfl (lv_at hl 2 rfl) ?_
        refine lv_iload_n hx hb dX11_caught_37 rfl (lv_at hl 3 rfl) ?_
        refine lv_iload hx hb dX11_caught_38 (lv_at hl 4 rfl) ?_
        refine callVI (rest := []) SF (c_X11_caughtOf l D cy tz ad t11 a1 a2 a3 a4 _ h) (cw_RX11_191 hts ⟨Nat.le_of_ble_eq_true rfl, Nat.le_of_ble_eq_true rfl⟩) rfl rfl (va_recv hK hP (ci := 10) (q0 := 0) rfl rfl) hK hZ hA hP hD hS rfl hl.1 rfl (Nat.le_of_ble_eq_true rfl) dX11_caught_40 ⟨Nat.zero_le _, Nat.zero_le _⟩ (fun r12 t13 H locs h hP hD hS => ?_)
        exact hret _ _ _ _ _ _ rfl h hP hD hS dX11_caught_43
      · have h := h.2 c9
        refine lv_bipush (v := (-2)) hx hb dX11_caught_27 (by decide) ?_
        exact hret _ _ _ _ _ _ rfl h hP hD hS dX11_caught_29
    · have h := h.2 c6
      refine lv_iconst (v := (-1)) hx hb dX11_caught_17 (by decide) ?_
      exact hret _ _ _ _ _ _ rfl h hP hD hS dX11_caught_18
-- X11_neighbours
def rm_X11_neighbours : Room := { frames := 0, cells := 0, slots := 0, locals := 0 }
abbrev ws_X11_neighbours : List Cond := .code yX11_neighbours cX11_neighbours 7 (some .int) :: wsL_law
def wp_X11_neighbours_L19 (post : Int32 → Prop) (K : Int32 → Prop) (st : St) (a1 : Int32) (a2 : Int32) (v4 : Int32) : Nat → Int32 → Int32 → Prop
  | 0, _, _ => False
  | n19 + 1, v7, v8 => ((25 < v8) → (K v7)) ∧ ((¬ 25 < v8) → (((¬ v4 = a1) → (vp_in ((24 * v4) + ((a2 + v8) - (a2 + v8) / 24 * 24)) 1488 ∧ ((((gA st 19 ((24 * v4) + ((a2 + v8) - (a2 + v8) / 24 * 24)).toNatClampNeg) = 0) → (∀ x14 : Int32, x14 = (v7 + 0) → (∀ x16 : Int32, x16 = v8 + 1 → (wp_X11_neighbours_L19 post K st a1 a2 v4 n19 x14 x16)))) ∧ ((¬ (gA st 19 ((24 * v4) + ((a2 + v8) - (a2 + v8) / 24 * 24)).toNatClampNeg) = 0) → (∀ x18 : Int32, x18 = (v7 + 1) → (∀ x20 : Int32, x20 = v8 + 1 → (wp_X11_neighbours_L19 post K st a1 a2 v4 n19 x18 x20))))))) ∧ ((v4 = a1) → (((¬ v8 = 24) → (vp_in ((24 * v4) + ((a2 + v8) - (a2 + v8) / 24 * 24)) 1488 ∧ ((((gA st 19 ((24 * v4) + ((a2 + v8) - (a2 + v8) / 24 * 24)).toNatClampNeg) = 0) → (∀ x25 : Int32, x25 = (v7 + 0) → (∀ x27 : Int32, x27 = v8 + 1 → (wp_X11_neighbours_L19 post K st a1 a2 v4 n19 x25 x27)))) ∧ ((¬ (gA st 19 ((24 * v4) + ((a2 + v8) - (a2 + v8) / 24 * 24)).toNatClampNeg) = 0) → (∀ x29 : Int32, x29 = (v7 + 1) → (∀ x31 : Int32, x31 = v8 + 1 → (wp_X11_neighbours_L19 post K st a1 a2 v4 n19 x29 x31))))))) ∧ ((v8 = 24) → (∀ x34 : Int32, x34 = (v7 + 0) → (∀ x36 : Int32, x36 = v8 + 1 → (wp_X11_neighbours_L19 post K st a1 a2 v4 n19 x34 x36))))))))
def wp_X11_neighbours_L7 (post : Int32 → Prop) (K : Int32 → Prop) (st : St) (a1 : Int32) (a2 : Int32) : Nat → Int32 → Int32 → Prop
  | 0, _, _ => False
  | n7 + 1, v3, v4 => (((a1 + 1) < v4) → (K v3)) ∧ ((¬ (a1 + 1) < v4) → (∃ m19 : Nat, wp_X11_neighbours_L19 post (fun v38 => ∀ x40 : Int32, x40 = v4 + 1 → (wp_X11_neighbours_L7 post K st a1 a2 n7 v38 x40)) st a1 a2 v4 m19 v3 23))
def wp_X11_neighbours (st : St) (a1 : Int32) (a2 : Int32) (post : Int32 → Prop) : Prop := ∀ x1 : Int32, x1 = (a1 - 1) → (∃ m7 : Nat, wp_X11_neighbours_L7 post (fun v42 => post v42) st a1 a2 m7 0 x1)
set_option maxHeartbeats 4000000 in
set_option maxRecDepth 100000 in
theorem c_X11_neighbours (l : Launch) (D : va_G) (cy : Nat → ClassId) (tz : Nat → Nat) (ad : Nat → Nat) (st : St) (a1 : Int32) (a2 : Int32) (post : Int32 → Prop) (h : wp_X11_neighbours st a1 a2 post) : CtI l D cy tz yX11_neighbours ws_X11_neighbours rm_X11_neighbours [.ref (ad 0), .int a1, .int a2] (wM cy ad st) (fun _ : Unit => wM cy ad st) (fun r _ => post r) := by
  refine CtI.of (own := RX11) (nm := "neighbours") (lv := [(0, .ref (ad 0)), (1, .int a1), (2, .int a2)]) (plainFor_of_name (by decide)) rfl rfl (Nat.le_of_ble_eq_true rfl) rfl ?_
  intro p e s m args below meth c A Q ls B hP hD hS hl hret
  obtain ⟨hx, hb, hml, hown, hts, hK, hZ, hA, hnm⟩ := B
  have SF : CallFix p m c cX11_neighbours 7 s args wsL_law RX11 := ⟨hx, hb, hml, hown, hts⟩
  unfold wp_X11_neighbours at h
  refine lv_iconst (v := 0) hx hb dX11_neighbours_0 (by decide) ?_
  refine lv_istore_n (lv' := [(3, .int 0), (0, .ref (ad 0)), (1, .int a1), (2, .int a2)]) hx hb dX11_neighbours_1 rfl hl (by decide) rfl (fun ls hl => ?_)
  refine lv_iload_n hx hb dX11_neighbours_2 rfl (lv_at hl 2 rfl) ?_
  refine lv_iconst (v := 1) hx hb dX11_neighbours_3 (by decide) ?_
  refine lv_isub hx hb dX11_neighbours_4 ?_
  refine lv_topi (fun x1 e2 => ?_)
  have h := h x1 e2
  refine lv_istore (lv' := [(4, .int x1), (3, .int 0), (0, .ref (ad 0)), (1, .int a1), (2, .int a2)]) hx hb dX11_neighbours_5 hl (by decide) rfl (fun ls hl => ?_)
  have loop7 : ∀ (K : Int32 → Prop), (∀ (v42 : Int32) (H : Heap) (locs : List Loc) (ls : Array Slot), K v42 → va_P D vwCl (wM cy ad st) H → va_D A (wM cy ad st) → va_S A s.heap H locs → lv_has ls 7 [(3, .int v42)] → W p l e rm_X11_neighbours s m args below meth c H locs 0 0 Q (F0 m 92 ls [])) → ∀ (n : Nat) (v3 : Int32) (v4 : Int32) (H : Heap) (locs : List Loc) (ls : Array Slot), wp_X11_neighbours_L7 post K st a1 a2 n v3 v4 → va_P D vwCl (wM cy ad st) H → va_D A (wM cy ad st) → va_S A s.heap H locs → lv_has ls 7 [(0, .ref (ad 0)), (1, .int a1), (2, .int a2), (3, .int v3), (4, .int v4)] → W p l e rm_X11_neighbours s m args below meth c H locs 0 0 Q (F0 m 7 ls []) := by
    intro K hE7 n
    induction n with
    | zero => intro v3 v4 H locs ls h; exact h.elim
    | succ n ih7 =>
      intro v3 v4 H locs ls h hP hD hS hl
      rw [wp_X11_neighbours_L7] at h
      refine lv_iload hx hb dX11_neighbours_7 (lv_at hl 4 rfl) ?_
      refine lv_iload_n hx hb dX11_neighbours_9 rfl (lv_at hl 1 rfl) ?_
      refine lv_iconst (v := 1) hx hb dX11_neighbours_10 (by decide) ?_
      refine lv_iadd hx hb dX11_neighbours_11 ?_
      refine lv_icmp_gt (tgt := 92) hx hb dX11_neighbours_12 (by decide) (fun c6 => ?_) (fun c6 => ?_)
      · have h := h.1 c6
        exact hE7 _ _ _ _ h hP hD hS (lv_sub hl [3] rfl)
      · have h := h.2 c6
        refine lv_bipush (v := 23) hx hb dX11_neighbours_15 (by decide) ?_
        refine lv_istore (lv' := [(5, .int 23), (0, .ref (ad 0)), (1, .int a1), (2, .int a2), (3, .int v3), (4, .int v4)]) hx hb dX11_neighbours_17 hl (by decide) rfl (fun ls hl => ?_)
        have loop19 : ∀ (K : Int32 → Prop), (∀ (v38 : Int32) (H : Heap) (locs : List Loc) (ls : Array Slot), K v38 → va_P D vwCl (wM cy ad st) H → va_D A (wM cy ad st) → va_S A s.heap H locs → lv_has ls 7 [(0, .ref (ad 0)), (1, .int a1), (2, .int a2), (3, .int v38), (4, .int v4)] → W p l e rm_X11_neighbours s m args below meth c H locs 0 0 Q (F0 m 86 ls [])) → ∀ (n : Nat) (v7 : Int32) (v8 : Int32) (H : Heap) (locs : List Loc) (ls : Array Slot), wp_X11_neighbours_L19 post K st a1 a2 v4 n v7 v8 → va_P D vwCl (wM cy ad st) H → va_D A (wM cy ad st) → va_S A s.heap H locs → lv_has ls 7 [(0, .ref (ad 0)), (1, .int a1), (2, .int a2), (3, .int v7), (4, .int v4), (5, .int v8)] → W p l e rm_X11_neighbours s m args below meth c H locs 0 0 Q (F0 m 19 ls []) := by
          intro K hE19 n
          induction n with
          | zero => intro v7 v8 H locs ls h; exact h.elim
          | succ n ih19 =>
            intro v7 v8 H locs ls h hP hD hS hl
            rw [wp_X11_neighbours_L19] at h
            refine lv_iload hx hb dX11_neighbours_19 (lv_at hl 5 rfl) ?_
            refine lv_bipush (v := 25) hx hb dX11_neighbours_21 (by decide) ?_
            refine lv_icmp_gt (tgt := 86) hx hb dX11_neighbours_23 (by decide) (fun c10 => ?_) (fun c10 => ?_)
            · have h := h.1 c10
              exact hE19 _ _ _ _ h hP hD hS (lv_sub hl [0, 1, 2, 3, 4] rfl)
            · have h := h.2 c10
              refine lv_iload hx hb dX11_neighbours_26 (lv_at hl 4 rfl) ?_
              refine lv_iload_n hx hb dX11_neighbours_28 rfl (lv_at hl 1 rfl) ?_
              refine lv_icmp_ne (tgt := 43) hx hb dX11_neighbours_29 (by decide) (fun c11 => ?_) (fun c11 => ?_)
              · have h := h.1 c11
                refine lv_iconst (v := 0) hx hb dX11_neighbours_43 (by decide) ?_
                refine lv_istore (lv' := [(6, .int 0), (0, .ref (ad 0)), (1, .int a1), (2, .int a2), (3, .int v7), (4, .int v4), (5, .int v8)]) hx hb dX11_neighbours_44 hl (by decide) rfl (fun ls hl => ?_)
                refine lv_iload_n hx hb dX11_neighbours_46 rfl (lv_at hl 4 rfl) ?_
                refine lv_iload hx hb dX11_neighbours_47 (lv_at hl 0 rfl) ?_
                refine lv_if_ne (tgt := 77) hx hb dX11_neighbours_49 (by decide) (fun c12 => ?_) (fun c12 => ?_)
                · exact absurd c12 (by decide)
                · refine lv_aload_n hx hb dX11_neighbours_52 rfl (lv_at hl 1 rfl) ?_
                  refine va_get (D := D) (ci := 10) (v := .ref (ad 10)) (C := RX11) (T := TX11) (N := 35) hx hb hts inlX11 hown hK hP 0 rfl rfl 19 (by decide) (hts _ w_5_16) (fun _ h9 => h9) rfl dX11_neighbours_53 ?_
                  refine lv_bipush (v := 24) hx hb dX11_neighbours_56 (by decide) ?_
                  refine lv_iload hx hb dX11_neighbours_58 (lv_at hl 5 rfl) ?_
                  refine lv_imul hx hb dX11_neighbours_60 ?_
                  refine lv_iload_n hx hb dX11_neighbours_61 rfl (lv_at hl 3 rfl) ?_
                  refine lv_iload hx hb dX11_neighbours_62 (lv_at hl 6 rfl) ?_
                  refine lv_iadd hx hb dX11_neighbours_64 ?_
                  refine lv_bipush (v := 24) hx hb dX11_neighbours_65 (by decide) ?_
                  refine lv_irem hx hb dX11_neighbours_67 (by decide) ?_
                  refine lv_iadd hx hb dX11_neighbours_68 ?_
                  refine va_zald (f := gA st 19) (n := 1488) hx hb hK hP 10 2 rfl rfl h.1 dX11_neighbours_69 ?_
                  have h := h.2
                  refine lv_if_eq (tgt := 77) hx hb dX11_neighbours_70 (by decide) (fun c13 => ?_) (fun c13 => ?_)
                  · have h := h.1 c13
                    refine lv_iconst (v := 0) hx hb dX11_neighbours_77 (by decide) ?_
                    refine lv_iadd hx hb dX11_neighbours_78 ?_
                    refine lv_topi (fun x14 e15 => ?_)
                    have h := h x14 e15
                    refine lv_istore_n (lv' := [(3, .int x14), (6, .int 0), (0, .ref (ad 0)), (1, .int a1), (2, .int a2), (4, .int v4), (5, .int v8)]) hx hb dX11_neighbours_79 rfl hl (by decide) rfl (fun ls hl => ?_)
                    obtain ⟨x16, e17⟩ : ∃ z : Int32, z = v8 + 1 := ⟨_, rfl⟩
                    have h := h x16 e17
                    refine lv_iinc (v := x16) (lv' := [(5, .int x16), (3, .int x14), (6, .int 0), (0, .ref (ad 0)), (1, .int a1), (2, .int a2), (4, .int v4)]) hx hb dX11_neighbours_80 hl (k := 6) rfl (by rw [e17]; rfl) (by decide) rfl (fun ls hl => ?_)
                    refine lv_goto (tgt := 19) hx hb dX11_neighbours_83 (by decide) ?_
                    exact ih19 _ _ _ _ _ h hP hD hS (lv_sub hl [3, 4, 5, 1, 6, 0] rfl)
                  · have h := h.2 c13
                    refine lv_iconst (v := 1) hx hb dX11_neighbours_73 (by decide) ?_
                    refine lv_goto (tgt := 78) hx hb dX11_neighbours_74 (by decide) ?_
                    refine lv_iadd hx hb dX11_neighbours_78 ?_
                    refine lv_topi (fun x18 e19 => ?_)
                    have h := h x18 e19
                    refine lv_istore_n (lv' := [(3, .int x18), (6, .int 0), (0, .ref (ad 0)), (1, .int a1), (2, .int a2), (4, .int v4), (5, .int v8)]) hx hb dX11_neighbours_79 rfl hl (by decide) rfl (fun ls hl => ?_)
                    obtain ⟨x20, e21⟩ : ∃ z : Int32, z = v8 + 1 := ⟨_, rfl⟩
                    have h := h x20 e21
                    refine lv_iinc (v := x20) (lv' := [(5, .int x20), (3, .int x18), (6, .int 0), (0, .ref (ad 0)), (1, .int a1), (2, .int a2), (4, .int v4)]) hx hb dX11_neighbours_80 hl (k := 6) rfl (by rw [e21]; rfl) (by decide) rfl (fun ls hl => ?_)
                    refine lv_goto (tgt := 19) hx hb dX11_neighbours_83 (by decide) ?_
                    exact ih19 _ _ _ _ _ h hP hD hS (lv_sub hl [3, 4, 5, 1, 6, 0] rfl)
              · have h := h.2 c11
                refine lv_iload hx hb dX11_neighbours_32 (lv_at hl 5 rfl) ?_
                refine lv_bipush (v := 24) hx hb dX11_neighbours_34 (by decide) ?_
                refine lv_icmp_ne (tgt := 43) hx hb dX11_neighbours_36 (by decide) (fun c22 => ?_) (fun c22 => ?_)
                · have h := h.1 c22
                  refine lv_iconst (v := 0) hx hb dX11_neighbours_43 (by decide) ?_
                  refine lv_istore (lv' := [(6, .int 0), (0, .ref (ad 0)), (1, .int a1), (2, .int a2), (3, .int v7), (4, .int v4), (5, .int v8)]) hx hb dX11_neighbours_44 hl (by decide) rfl (fun ls hl => ?_)
                  refine lv_iload_n hx hb dX11_neighbours_46 rfl (lv_at hl 4 rfl) ?_
                  refine lv_iload hx hb dX11_neighbours_47 (lv_at hl 0 rfl) ?_
                  refine lv_if_ne (tgt := 77) hx hb dX11_neighbours_49 (by decide) (fun c23 => ?_) (fun c23 => ?_)
                  · exact absurd c23 (by decide)
                  · refine lv_aload_n hx hb dX11_neighbours_52 rfl (lv_at hl 1 rfl) ?_
                    refine va_get (D := D) (ci := 10) (v := .ref (ad 10)) (C := RX11) (T := TX11) (N := 35) hx hb hts inlX11 hown hK hP 0 rfl rfl 19 (by decide) (hts _ w_5_16) (fun _ h9 => h9) rfl dX11_neighbours_53 ?_
                    refine lv_bipush (v := 24) hx hb dX11_neighbours_56 (by decide) ?_
                    refine lv_iload hx hb dX11_neighbours_58 (lv_at hl 5 rfl) ?_
                    refine lv_imul hx hb dX11_neighbours_60 ?_
                    refine lv_iload_n hx hb dX11_neighbours_61 rfl (lv_at hl 3 rfl) ?_
                    refine lv_iload hx hb dX11_neighbours_62 (lv_at hl 6 rfl) ?_
                    refine lv_iadd hx hb dX11_neighbours_64 ?_
                    refine lv_bipush (v := 24) hx hb dX11_neighbours_65 (by decide) ?_
                    refine lv_irem hx hb dX11_neighbours_67 (by decide) ?_
                    refine lv_iadd hx hb dX11_neighbours_68 ?_
                    refine va_zald (f := gA st 19) (n := 1488) hx hb hK hP 10 2 rfl rfl h.1 dX11_neighbours_69 ?_
                    have h := h.2
                    refine lv_if_eq (tgt := 77) hx hb dX11_neighbours_70 (by decide) (fun c24 => ?_) (fun c24 => ?_)
                    · have h := h.1 c24
                      refine lv_iconst (v := 0) hx hb dX11_neighbours_77 (by decide) ?_
                      refine lv_iadd hx hb dX11_neighbours_78 ?_
                      refine lv_topi (fun x25 e26 => ?_)
                      have h := h x25 e26
                      refine lv_istore_n (lv' := [(3, .int x25), (6, .int 0), (0, .ref (ad 0)), (1, .int a1), (2, .int a2), (4, .int v4), (5, .int v8)]) hx hb dX11_neighbours_79 rfl hl (by decide) rfl (fun ls hl => ?_)
                      obtain ⟨x27, e28⟩ : ∃ z : Int32, z = v8 + 1 := ⟨_, rfl⟩
                      have h := h x27 e28
                      refine lv_iinc (v := x27) (lv' := [(5, .int x27), (3, .int x25), (6, .int 0), (0, .ref (ad 0)), (1, .int a1), (2, .int a2), (4, .int v4)]) hx hb dX11_neighbours_80 hl (k := 6) rfl (by rw [e28]; rfl) (by decide) rfl (fun ls hl => ?_)
                      refine lv_goto (tgt := 19) hx hb dX11_neighbours_83 (by decide) ?_
                      exact ih19 _ _ _ _ _ h hP hD hS (lv_sub hl [3, 4, 5, 1, 6, 0] rfl)
                    · have h := h.2 c24
                      refine lv_iconst (v := 1) hx hb dX11_neighbours_73 (by decide) ?_
                      refine lv_goto (tgt := 78) hx hb dX11_neighbours_74 (by decide) ?_
                      refine lv_iadd hx hb dX11_neighbours_78 ?_
                      refine lv_topi (fun x29 e30 => ?_)
                      have h := h x29 e30
                      refine lv_istore_n (lv' := [(3, .int x29), (6, .int 0), (0, .ref (ad 0)), (1, .int a1), (2, .int a2), (4, .int v4), (5, .int v8)]) hx hb dX11_neighbours_79 rfl hl (by decide) rfl (fun ls hl => ?_)
                      obtain ⟨x31, e32⟩ : ∃ z : Int32, z = v8 + 1 := ⟨_, rfl⟩
                      have h := h x31 e32
                      refine lv_iinc (v := x31) (lv' := [(5, .int x31), (3, .int x29), (6, .int 0), (0, .ref (ad 0)), (1, .int a1), (2, .int a2), (4, .int v4)]) hx hb dX11_neighbours_80 hl (k := 6) rfl (by rw [e32]; rfl) (by decide) rfl (fun ls hl => ?_)
                      refine lv_goto (tgt := 19) hx hb dX11_neighbours_83 (by decide) ?_
                      exact ih19 _ _ _ _ _ h hP hD hS (lv_sub hl [3, 4, 5, 1, 6, 0] rfl)
                · have h := h.2 c22
                  refine lv_iconst (v := 1) hx hb dX11_neighbours_39 (by decide) ?_
                  refine lv_goto (tgt := 44) hx hb dX11_neighbours_40 (by decide) ?_
                  refine lv_istore (lv' := [(6, .int 1), (0, .ref (ad 0)), (1, .int a1), (2, .int a2), (3, .int v7), (4, .int v4), (5, .int v8)]) hx hb dX11_neighbours_44 hl (by decide) rfl (fun ls hl => ?_)
                  refine lv_iload_n hx hb dX11_neighbours_46 rfl (lv_at hl 4 rfl) ?_
                  refine lv_iload hx hb dX11_neighbours_47 (lv_at hl 0 rfl) ?_
                  refine lv_if_ne (tgt := 77) hx hb dX11_neighbours_49 (by decide) (fun c33 => ?_) (fun c33 => ?_)
                  · refine lv_iconst (v := 0) hx hb dX11_neighbours_77 (by decide) ?_
                    refine lv_iadd hx hb dX11_neighbours_78 ?_
                    refine lv_topi (fun x34 e35 => ?_)
                    have h := h x34 e35
                    refine lv_istore_n (lv' := [(3, .int x34), (6, .int 1), (0, .ref (ad 0)), (1, .int a1), (2, .int a2), (4, .int v4), (5, .int v8)]) hx hb dX11_neighbours_79 rfl hl (by decide) rfl (fun ls hl => ?_)
                    obtain ⟨x36, e37⟩ : ∃ z : Int32, z = v8 + 1 := ⟨_, rfl⟩
                    have h := h x36 e37
                    refine lv_iinc (v := x36) (lv' := [(5, .int x36), (3, .int x34), (6, .int 1), (0, .ref (ad 0)), (1, .int a1), (2, .int a2), (4, .int v4)]) hx hb dX11_neighbours_80 hl (k := 6) rfl (by rw [e37]; rfl) (by decide) rfl (fun ls hl => ?_)
                    refine lv_goto (tgt := 19) hx hb dX11_neighbours_83 (by decide) ?_
                    exact ih19 _ _ _ _ _ h hP hD hS (lv_sub hl [3, 4, 5, 1, 6, 0] rfl)
                  · exact absurd c33 (by decide)
        obtain ⟨n, h⟩ := h
        refine loop19 _ ?_ n _ _ _ _ _ h hP hD hS (lv_sub hl [1, 2, 3, 4, 5, 0] rfl)
        intro v38 H locs ls h hP hD hS hl
        obtain ⟨x40, e41⟩ : ∃ z : Int32, z = v4 + 1 := ⟨_, rfl⟩
        have h := h x40 e41
        refine lv_iinc (v := x40) (lv' := [(4, .int x40), (0, .ref (ad 0)), (1, .int a1), (2, .int a2), (3, .int v38)]) hx hb dX11_neighbours_86 hl (k := 4) rfl (by rw [e41]; rfl) (by decide) rfl (fun ls hl => ?_)
        refine lv_goto (tgt := 7) hx hb dX11_neighbours_89 (by decide) ?_
        exact ih7 _ _ _ _ _ h hP hD hS (lv_sub hl [1, 2, 3, 4, 0] rfl)
  obtain ⟨n, h⟩ := h
  refine loop7 _ ?_ n _ _ _ _ _ h hP hD hS (lv_sub hl [2, 3, 4, 1, 0] rfl)
  intro v42 H locs ls h hP hD hS hl
  refine lv_iload_n hx hb dX11_neighbours_92 rfl (lv_at hl 0 rfl) ?_
  exact hret _ () _ _ _ _ rfl h hP hD hS dX11_neighbours_93
-- X11_all
def rm_X11_all : Room := { frames := 4, cells := 0, slots := 0, locals := 98 }
abbrev ws_X11_all : List Cond := .code yX11_all cX11_all 9 (some .int) :: wsL_law
theorem cw_RX11_195 {R : Room} {s : State} {args : Array Value} (hts : ∀ w ∈ wsL_law, w.before args s = true) (hR : rm_X11_neighbours.frames + 1 ≤ R.frames ∧ 8 + (7 + 11) + rm_X11_neighbours.locals ≤ R.locals) : CallW R s args RX11 RX11 195 yX11_neighbours cX11_neighbours 7 (some .int) ws_X11_neighbours rm_X11_neighbours rm_X11_neighbours.cells rm_X11_neighbours.slots 2 := cwV 2 hts (gdV w_22_19 w_22_20 w_22_21 w_1_5 w_22_22) rfl rfl rfl (by decide +kernel) hR
def wp_X11_all_L50 (post : Int32 → St → Prop) (K : St → Prop) (a1 : Int32) (a2 : Int32) (v12 : Int32) : Nat → St → Int32 → Prop
  | 0, _, _ => False
  | n50 + 1, t16, v15 => ((24 ≤ v15) → (K t16)) ∧ ((¬ 24 ≤ v15) → (wp_X11_caughtOf t16 a1 v12 v15 a2 (fun r18 t19 => ((r18 < 0) → (vp_in ((24 * v12) + v15) 1488 ∧ (∀ x21 : Int32, x21 = v15 + 1 → (wp_X11_all_L50 post K a1 a2 v12 n50 (sA t19 19 (upd (gA t19 19) ((24 * v12) + v15).toNatClampNeg (vp_nar .boolean 0))) x21)))) ∧ ((¬ r18 < 0) → (vp_in ((24 * v12) + v15) 1488 ∧ (∀ x23 : Int32, x23 = v15 + 1 → (wp_X11_all_L50 post K a1 a2 v12 n50 (sA t19 19 (upd (gA t19 19) ((24 * v12) + v15).toNatClampNeg (vp_nar .boolean 1))) x23)))))))
def wp_X11_all_L114 (post : Int32 → St → Prop) (K : Int32 → Int32 → Int32 → Prop) (t28 : St) : Nat → Int32 → Int32 → Int32 → Int32 → Prop
  | 0, _, _, _, _ => False
  | n114 + 1, v29, v30, v31, v32 => ((1464 ≤ v32) → (K v29 v30 v31)) ∧ ((¬ 1464 ≤ v32) → (vp_in v32 1488 ∧ ((((gA t28 19 v32.toNatClampNeg) = 0) → (∀ x36 : Int32, x36 = v32 + 1 → (wp_X11_all_L114 post K t28 n114 v29 v30 v31 x36))) ∧ ((¬ (gA t28 19 v32.toNatClampNeg) = 0) → (∀ x38 : Int32, x38 = v29 + 1 → (wp_X11_neighbours t28 (v32 / 24) (v32 - v32 / 24 * 24) (fun r40 => ((v30 < 0) → (∀ x43 : Int32, x43 = v32 + 1 → (wp_X11_all_L114 post K t28 n114 x38 v32 r40 x43))) ∧ ((¬ v30 < 0) → (((r40 ≤ v31) → (∀ x46 : Int32, x46 = v32 + 1 → (wp_X11_all_L114 post K t28 n114 x38 v30 v31 x46))) ∧ ((¬ r40 ≤ v31) → (∀ x48 : Int32, x48 = v32 + 1 → (wp_X11_all_L114 post K t28 n114 x38 v32 r40 x48))))))))))))
def wp_X11_all_L40 (post : Int32 → St → Prop) (K : St → Prop) (a1 : Int32) (a2 : Int32) : Nat → St → Int32 → Prop
  | 0, _, _ => False
  | n40 + 1, t13, v12 => ((61 < v12) → (K t13)) ∧ ((¬ 61 < v12) → (∃ m50 : Nat, wp_X11_all_L50 post (fun t25 => ∀ x26 : Int32, x26 = v12 + 1 → (wp_X11_all_L40 post K a1 a2 n40 t25 x26)) a1 a2 v12 m50 t13 0))
def wp_X11_all (st : St) (a1 : Int32) (a2 : Int32) (a3 : Int32) (post : Int32 → St → Prop) : Prop := wp_X11_isOne st a1 (fun r1 => ((r1 = 0) → (post (-1) st)) ∧ ((¬ r1 = 0) → (wp_X11_isOne st a2 (fun r4 => ((¬ r4 = 0) → (wp_X11_in a3.toInt64 0 3 (fun r7 => ((¬ r7 = 0) → (wp_X11_layTurns st (fun t11 => ∃ m40 : Nat, wp_X11_all_L40 post (fun t28 => ∃ m114 : Nat, wp_X11_all_L114 post (fun v50 v51 v52 => ((¬ a3 = 0) → (((0 ≤ v51) → (((¬ a3 = 1) → (((¬ a3 = 2) → (post v52 t28)) ∧ ((a3 = 2) → (post (v51 - v51 / 24 * 24) t28)))) ∧ ((a3 = 1) → (post (v51 / 24) t28)))) ∧ ((¬ 0 ≤ v51) → (post (-6) t28)))) ∧ ((a3 = 0) → (post v50 t28))) t28 m114 0 (-6) 0 24) a1 a2 m40 t11 0))) ∧ ((r7 = 0) → (post (-2) st))))) ∧ ((r4 = 0) → (post (-1) st))))))
set_option maxHeartbeats 4000000 in
set_option maxRecDepth 100000 in
theorem c_X11_all (l : Launch) (D : va_G) (cy : Nat → ClassId) (tz : Nat → Nat) (ad : Nat → Nat) (st : St) (a1 : Int32) (a2 : Int32) (a3 : Int32) (post : Int32 → St → Prop) (h : wp_X11_all st a1 a2 a3 post) : CtI l D cy tz yX11_all ws_X11_all rm_X11_all [.ref (ad 0), .int a1, .int a2, .int a3] (wM cy ad st) (wM cy ad) post := by
  refine CtI.of (own := RX11) (nm := "all") (lv := [(0, .ref (ad 0)), (1, .int a1), (2, .int a2), (3, .int a3)]) (plainFor_of_name (by decide)) rfl rfl (Nat.le_of_ble_eq_true rfl) rfl ?_
  intro p e s m args below meth c A Q ls B hP hD hS hl hret
  obtain ⟨hx, hb, hml, hown, hts, hK, hZ, hA, hnm⟩ := B
  have SF : CallFix p m c cX11_all 9 s args wsL_law RX11 := ⟨hx, hb, hml, hown, hts⟩
  unfold wp_X11_all at h
  refine lv_aload_n hx hb dX11_all_0 rfl (lv_at hl 0 rfl) ?_
  refine lv_iload_n hx hb dX11_all_1 rfl (lv_at hl 1 rfl) ?_
  refine callVIr (rest := []) SF (c_X11_isOne l D cy tz ad st a1 _ h) (cw_RX11_142 hts ⟨Nat.le_of_ble_eq_true rfl, Nat.le_of_ble_eq_true rfl⟩) rfl rfl (va_recv hK hP (ci := 10) (q0 := 0) rfl rfl) hK hZ hA hP hD hS rfl hl.1 rfl (Nat.le_of_ble_eq_true rfl) dX11_all_2 ⟨Nat.zero_le _, Nat.zero_le _⟩ (fun r1 H locs h hP hD hS => ?_)
  refine lv_if_eq (tgt := 16) hx hb dX11_all_5 (by decide) (fun c3 => ?_) (fun c3 => ?_)
  · have h := h.1 c3
    refine lv_iconst (v := (-1)) hx hb dX11_all_16 (by decide) ?_
    exact hret _ _ _ _ _ _ rfl h hP hD hS dX11_all_17
  · have h := h.2 c3
    refine lv_aload_n hx hb dX11_all_8 rfl (lv_at hl 0 rfl) ?_
    refine lv_iload_n hx hb dX11_all_9 rfl (lv_at hl 2 rfl) ?_
    refine callVIr (rest := []) SF (c_X11_isOne l D cy tz ad st a2 _ h) (cw_RX11_142 hts ⟨Nat.le_of_ble_eq_true rfl, Nat.le_of_ble_eq_true rfl⟩) rfl rfl (va_recv hK hP (ci := 10) (q0 := 0) rfl rfl) hK hZ hA hP hD hS rfl hl.1 rfl (Nat.le_of_ble_eq_true rfl) dX11_all_10 ⟨Nat.zero_le _, Nat.zero_le _⟩ (fun r4 H locs h hP hD hS => ?_)
    refine lv_if_ne (tgt := 18) hx hb dX11_all_13 (by decide) (fun c6 => ?_) (fun c6 => ?_)
    · have h := h.1 c6
      refine lv_iload_n hx hb dX11_all_18 rfl (lv_at hl 3 rfl) ?_
      refine lv_i2l (v := a3.toInt64) hx hb dX11_all_19 rfl ?_
      refine lv_lconst (v := 0) hx hb dX11_all_20 (by decide) ?_
      refine lv_ldc2 (v := 3) hx hb hown (hts _ w_15_16) dX11_all_21 ?_
      refine callSIr (rest := []) SF (c_X11_in l D cy tz _ a3.toInt64 0 3 _ h) (cw_RX11_67 hts ⟨Nat.le_of_ble_eq_true rfl, Nat.le_of_ble_eq_true rfl⟩) rfl rfl hK hZ hA hP hD hS rfl hl.1 rfl (Nat.le_of_ble_eq_true rfl) dX11_all_24 ⟨Nat.zero_le _, Nat.zero_le _⟩ (fun r7 H locs h hP hD hS => ?_)
      refine lv_if_ne (tgt := 33) hx hb dX11_all_27 (by decide) (fun c9 => ?_) (fun c9 => ?_)
      · have h := h.1 c9
        refine lv_aload_n hx hb dX11_all_33 rfl (lv_at hl 0 rfl) ?_
        refine callVV (rest := []) SF (c_X11_layTurns l D cy tz ad st _ h) (cw_RX11_124 hts ⟨Nat.le_of_ble_eq_true rfl, Nat.le_of_ble_eq_true rfl⟩) rfl rfl (va_recv hK hP (ci := 10) (q0 := 0) rfl rfl) hK hZ hA hP hD hS rfl hl.1 rfl (Nat.le_of_ble_eq_true rfl) dX11_all_34 ⟨Nat.zero_le _, Nat.zero_le _⟩ (fun t11 H locs h hP hD hS => ?_)
        refine lv_iconst (v := 0) hx hb dX11_all_37 (by decide) ?_
        refine lv_istore (lv' := [(4, .int 0), (0, .ref (ad 0)), (1, .int a1), (2, .int a2), (3, .int a3)]) hx hb dX11_all_38 hl (by decide) rfl (fun ls hl => ?_)
        have loop40 : ∀ (K : St → Prop), (∀ (t28 : St) (H : Heap) (locs : List Loc) (ls : Array Slot), K t28 → va_P D vwCl (wM cy ad t28) H → va_D A (wM cy ad t28) → va_S A s.heap H locs → lv_has ls 9 [(0, .ref (ad 0)), (3, .int a3)] → W p l e rm_X11_all s m args below meth c H locs 0 0 Q (F0 m 100 ls [])) → ∀ (n : Nat) (t13 : St) (v12 : Int32) (H : Heap) (locs : List Loc) (ls : Array Slot), wp_X11_all_L40 post K a1 a2 n t13 v12 → va_P D vwCl (wM cy ad t13) H → va_D A (wM cy ad t13) → va_S A s.heap H locs → lv_has ls 9 [(0, .ref (ad 0)), (1, .int a1), (2, .int a2), (3, .int a3), (4, .int v12)] → W p l e rm_X11_all s m args below meth c H locs 0 0 Q (F0 m 40 ls []) := by
          intro K hE40 n
          induction n with
          | zero => intro t13 v12 H locs ls h; exact h.elim
          | succ n ih40 =>
            intro t13 v12 H locs ls h hP hD hS hl
            rw [wp_X11_all_L40] at h
            refine lv_iload hx hb dX11_all_40 (lv_at hl 4 rfl) ?_
            refine lv_bipush (v := 61) hx hb dX11_all_42 (by decide) ?_
            refine lv_icmp_gt (tgt := 100) hx hb dX11_all_44 (by decide) (fun c14 => ?_) (fun c14 => ?_)
            · have h := h.1 c14
              exact hE40 _ _ _ _ h hP hD hS (lv_sub hl [0, 3] rfl)
            · have h := h.2 c14
              refine lv_iconst (v := 0) hx hb dX11_all_47 (by decide) ?_
              refine lv_istore (lv' := [(5, .int 0), (0, .ref (ad 0)), (1, .int a1), (2, .int a2), (3, .int a3), (4, .int v12)]) hx hb dX11_all_48 hl (by decide) rfl (fun ls hl => ?_)
              have loop50 : ∀ (K : St → Prop), (∀ (t25 : St) (H : Heap) (locs : List Loc) (ls : Array Slot), K t25 → va_P D vwCl (wM cy ad t25) H → va_D A (wM cy ad t25) → va_S A s.heap H locs → lv_has ls 9 [(0, .ref (ad 0)), (1, .int a1), (2, .int a2), (3, .int a3), (4, .int v12)] → W p l e rm_X11_all s m args below meth c H locs 0 0 Q (F0 m 94 ls [])) → ∀ (n : Nat) (t16 : St) (v15 : Int32) (H : Heap) (locs : List Loc) (ls : Array Slot), wp_X11_all_L50 post K a1 a2 v12 n t16 v15 → va_P D vwCl (wM cy ad t16) H → va_D A (wM cy ad t16) → va_S A s.heap H locs → lv_has ls 9 [(0, .ref (ad 0)), (1, .int a1), (2, .int a2), (3, .int a3), (4, .int v12), (5, .int v15)] → W p l e rm_X11_all s m args below meth c H locs 0 0 Q (F0 m 50 ls []) := by
                intro K hE50 n
                induction n with
                | zero => intro t16 v15 H locs ls h; exact h.elim
                | succ n ih50 =>
                  intro t16 v15 H locs ls h hP hD hS hl
                  rw [wp_X11_all_L50] at h
                  refine lv_iload hx hb dX11_all_50 (lv_at hl 5 rfl) ?_
                  refine lv_bipush (v := 24) hx hb dX11_all_52 (by decide) ?_
                  refine lv_icmp_ge (tgt := 94) hx hb dX11_all_54 (by decide) (fun c17 => ?_) (fun c17 => ?_)
                  · have h := h.1 c17
                    exact hE50 _ _ _ _ h hP hD hS (lv_sub hl [0, 1, 2, 3, 4] rfl)
                  · have h := h.2 c17
                    refine lv_aload_n hx hb dX11_all_57 rfl (lv_at hl 0 rfl) ?_
                    refine va_get (D := D) (ci := 10) (v := .ref (ad 10)) (C := RX11) (T := TX11) (N := 35) hx hb hts inlX11 hown hK hP 0 rfl rfl 19 (by decide) (hts _ w_5_16) (fun _ h9 => h9) rfl dX11_all_58 ?_
                    refine lv_bipush (v := 24) hx hb dX11_all_61 (by decide) ?_
                    refine lv_iload hx hb dX11_all_63 (lv_at hl 4 rfl) ?_
                    refine lv_imul hx hb dX11_all_65 ?_
                    refine lv_iload hx hb dX11_all_66 (lv_at hl 5 rfl) ?_
                    refine lv_iadd hx hb dX11_all_68 ?_
                    refine lv_aload_n hx hb dX11_all_69 rfl (lv_at hl 0 rfl) ?_
                    refine lv_iload_n hx hb dX11_all_70 rfl (lv_at hl 1 rfl) ?_
                    refine lv_iload hx hb dX11_all_71 (lv_at hl 4 rfl) ?_
                    refine lv_iload hx hb dX11_all_73 (lv_at hl 5 rfl) ?_
                    refine lv_iload_n hx hb dX11_all_75 rfl (lv_at hl 2 rfl) ?_
                    refine callVI (rest := [.int ((24 * v12) + v15), .ref (ad 10)]) SF (c_X11_caughtOf l D cy tz ad t16 a1 v12 v15 a2 _ h) (cw_RX11_191 hts ⟨Nat.le_of_ble_eq_true rfl, Nat.le_of_ble_eq_true rfl⟩) rfl rfl (va_recv hK hP (ci := 10) (q0 := 0) rfl rfl) hK hZ hA hP hD hS rfl hl.1 rfl (Nat.le_of_ble_eq_true rfl) dX11_all_76 ⟨Nat.zero_le _, Nat.zero_le _⟩ (fun r18 t19 H locs h hP hD hS => ?_)
                    refine lv_if_lt (tgt := 86) hx hb dX11_all_79 (by decide) (fun c20 => ?_) (fun c20 => ?_)
                    · have h := h.1 c20
                      refine lv_iconst (v := 0) hx hb dX11_all_86 (by decide) ?_
                      refine va_zast (f := gA t19 19) (n := 1488) hx hb hK hP hD hS 10 2 rfl rfl h.1 dX11_all_87 (fun H locs hP hD hS => ?_)
                      have h := h.2
                      have hP : va_P D vwCl (wM cy ad (sA t19 19 (upd (gA t19 19) ((24 * v12) + v15).toNatClampNeg (vp_nar .boolean 0)))) H := hP
                      have hD : va_D A (wM cy ad (sA t19 19 (upd (gA t19 19) ((24 * v12) + v15).toNatClampNeg (vp_nar .boolean 0)))) := hD
                      obtain ⟨x21, e22⟩ : ∃ z : Int32, z = v15 + 1 := ⟨_, rfl⟩
                      have h := h x21 e22
                      refine lv_iinc (v := x21) (lv' := [(5, .int x21), (0, .ref (ad 0)), (1, .int a1), (2, .int a2), (3, .int a3), (4, .int v12)]) hx hb dX11_all_88 hl (k := 5) rfl (by rw [e22]; rfl) (by decide) rfl (fun ls hl => ?_)
                      refine lv_goto (tgt := 50) hx hb dX11_all_91 (by decide) ?_
                      exact ih50 _ _ _ _ _ h hP hD hS (lv_sub hl [1, 2, 3, 4, 5, 0] rfl)
                    · have h := h.2 c20
                      refine lv_iconst (v := 1) hx hb dX11_all_82 (by decide) ?_
                      refine lv_goto (tgt := 87) hx hb dX11_all_83 (by decide) ?_
                      refine va_zast (f := gA t19 19) (n := 1488) hx hb hK hP hD hS 10 2 rfl rfl h.1 dX11_all_87 (fun H locs hP hD hS => ?_)
                      have h := h.2
                      have hP : va_P D vwCl (wM cy ad (sA t19 19 (upd (gA t19 19) ((24 * v12) + v15).toNatClampNeg (vp_nar .boolean 1)))) H := hP
                      have hD : va_D A (wM cy ad (sA t19 19 (upd (gA t19 19) ((24 * v12) + v15).toNatClampNeg (vp_nar .boolean 1)))) := hD
                      obtain ⟨x23, e24⟩ : ∃ z : Int32, z = v15 + 1 := ⟨_, rfl⟩
                      have h := h x23 e24
                      refine lv_iinc (v := x23) (lv' := [(5, .int x23), (0, .ref (ad 0)), (1, .int a1), (2, .int a2), (3, .int a3), (4, .int v12)]) hx hb dX11_all_88 hl (k := 5) rfl (by rw [e24]; rfl) (by decide) rfl (fun ls hl => ?_)
                      refine lv_goto (tgt := 50) hx hb dX11_all_91 (by decide) ?_
                      exact ih50 _ _ _ _ _ h hP hD hS (lv_sub hl [1, 2, 3, 4, 5, 0] rfl)
              obtain ⟨n, h⟩ := h
              refine loop50 _ ?_ n _ _ _ _ _ h hP hD hS (lv_sub hl [1, 2, 3, 4, 5, 0] rfl)
              intro t25 H locs ls h hP hD hS hl
              obtain ⟨x26, e27⟩ : ∃ z : Int32, z = v12 + 1 := ⟨_, rfl⟩
              have h := h x26 e27
              refine lv_iinc (v := x26) (lv' := [(4, .int x26), (0, .ref (ad 0)), (1, .int a1), (2, .int a2), (3, .int a3)]) hx hb dX11_all_94 hl (k := 4) rfl (by rw [e27]; rfl) (by decide) rfl (fun ls hl => ?_)
              refine lv_goto (tgt := 40) hx hb dX11_all_97 (by decide) ?_
              exact ih40 _ _ _ _ _ h hP hD hS (lv_sub hl [1, 2, 3, 4, 0] rfl)
        obtain ⟨n, h⟩ := h
        refine loop40 _ ?_ n _ _ _ _ _ h hP hD hS (lv_sub hl [1, 2, 3, 4, 0] rfl)
        intro t28 H locs ls h hP hD hS hl
        refine lv_iconst (v := 0) hx hb dX11_all_100 (by decide) ?_
        refine lv_istore (lv' := [(4, .int 0), (0, .ref (ad 0)), (3, .int a3)]) hx hb dX11_all_101 hl (by decide) rfl (fun ls hl => ?_)
        refine lv_bipush (v := (-6)) hx hb dX11_all_103 (by decide) ?_
        refine lv_istore (lv' := [(5, .int (-6)), (4, .int 0), (0, .ref (ad 0)), (3, .int a3)]) hx hb dX11_all_105 hl (by decide) rfl (fun ls hl => ?_)
        refine lv_iconst (v := 0) hx hb dX11_all_107 (by decide) ?_
        refine lv_istore (lv' := [(6, .int 0), (5, .int (-6)), (4, .int 0), (0, .ref (ad 0)), (3, .int a3)]) hx hb dX11_all_108 hl (by decide) rfl (fun ls hl => ?_)
        refine lv_bipush (v := 24) hx hb dX11_all_110 (by decide) ?_
        refine lv_istore (lv' := [(7, .int 24), (6, .int 0), (5, .int (-6)), (4, .int 0), (0, .ref (ad 0)), (3, .int a3)]) hx hb dX11_all_112 hl (by decide) rfl (fun ls hl => ?_)
        have loop114 : ∀ (K : Int32 → Int32 → Int32 → Prop), (∀ (v50 : Int32) (v51 : Int32) (v52 : Int32) (H : Heap) (locs : List Loc) (ls : Array Slot), K v50 v51 v52 → va_P D vwCl (wM cy ad t28) H → va_D A (wM cy ad t28) → va_S A s.heap H locs → lv_has ls 9 [(3, .int a3), (4, .int v50), (5, .int v51), (6, .int v52)] → W p l e rm_X11_all s m args below meth c H locs 0 0 Q (F0 m 177 ls [])) → ∀ (n : Nat) (v29 : Int32) (v30 : Int32) (v31 : Int32) (v32 : Int32) (H : Heap) (locs : List Loc) (ls : Array Slot), wp_X11_all_L114 post K t28 n v29 v30 v31 v32 → va_P D vwCl (wM cy ad t28) H → va_D A (wM cy ad t28) → va_S A s.heap H locs → lv_has ls 9 [(0, .ref (ad 0)), (3, .int a3), (4, .int v29), (5, .int v30), (6, .int v31), (7, .int v32)] → W p l e rm_X11_all s m args below meth c H locs 0 0 Q (F0 m 114 ls []) := by
          intro K hE114 n
          induction n with
          | zero => intro v29 v30 v31 v32 H locs ls h; exact h.elim
          | succ n ih114 =>
            intro v29 v30 v31 v32 H locs ls h hP hD hS hl
            rw [wp_X11_all_L114] at h
            refine lv_iload hx hb dX11_all_114 (lv_at hl 5 rfl) ?_
            refine lv_sipush (v := 1464) hx hb dX11_all_116 (by decide) ?_
            refine lv_icmp_ge (tgt := 177) hx hb dX11_all_119 (by decide) (fun c34 => ?_) (fun c34 => ?_)
            · have h := h.1 c34
              exact hE114 _ _ _ _ _ _ h hP hD hS (lv_sub hl [1, 2, 3, 4] rfl)
            · have h := h.2 c34
              refine lv_aload_n hx hb dX11_all_122 rfl (lv_at hl 0 rfl) ?_
              refine va_get (D := D) (ci := 10) (v := .ref (ad 10)) (C := RX11) (T := TX11) (N := 35) hx hb hts inlX11 hown hK hP 0 rfl rfl 19 (by decide) (hts _ w_5_16) (fun _ h9 => h9) rfl dX11_all_123 ?_
              refine lv_iload hx hb dX11_all_126 (lv_at hl 5 rfl) ?_
              refine va_zald (f := gA t28 19) (n := 1488) hx hb hK hP 10 2 rfl rfl h.1 dX11_all_128 ?_
              have h := h.2
              refine lv_if_eq (tgt := 171) hx hb dX11_all_129 (by decide) (fun c35 => ?_) (fun c35 => ?_)
              · have h := h.1 c35
                obtain ⟨x36, e37⟩ : ∃ z : Int32, z = v32 + 1 := ⟨_, rfl⟩
                have h := h x36 e37
                refine lv_iinc (v := x36) (lv' := [(7, .int x36), (0, .ref (ad 0)), (3, .int a3), (4, .int v29), (5, .int v30), (6, .int v31)]) hx hb dX11_all_171 hl (k := 5) rfl (by rw [e37]; rfl) (by decide) rfl (fun ls hl => ?_)
                refine lv_goto (tgt := 114) hx hb dX11_all_174 (by decide) ?_
                exact ih114 _ _ _ _ _ _ _ h hP hD hS (lv_sub hl [1, 2, 3, 4, 5, 0] rfl)
              · have h := h.2 c35
                obtain ⟨x38, e39⟩ : ∃ z : Int32, z = v29 + 1 := ⟨_, rfl⟩
                have h := h x38 e39
                refine lv_iinc (v := x38) (lv' := [(4, .int x38), (0, .ref (ad 0)), (3, .int a3), (5, .int v30), (6, .int v31), (7, .int v32)]) hx hb dX11_all_132 hl (k := 2) rfl (by rw [e39]; rfl) (by decide) rfl (fun ls hl => ?_)
                refine lv_aload_n hx hb dX11_all_135 rfl (lv_at hl 1 rfl) ?_
                refine lv_iload hx hb dX11_all_136 (lv_at hl 5 rfl) ?_
                refine lv_bipush (v := 24) hx hb dX11_all_138 (by decide) ?_
                refine lv_idiv hx hb dX11_all_140 (by decide) ?_
                refine lv_iload hx hb dX11_all_141 (lv_at hl 5 rfl) ?_
                refine lv_bipush (v := 24) hx hb dX11_all_143 (by decide) ?_
                refine lv_irem hx hb dX11_all_145 (by decide) ?_
                refine callVIr (rest := []) SF (c_X11_neighbours l D cy tz ad t28 (v32 / 24) (v32 - v32 / 24 * 24) _ h) (cw_RX11_195 hts ⟨Nat.le_of_ble_eq_true rfl, Nat.le_of_ble_eq_true rfl⟩) rfl rfl (va_recv hK hP (ci := 10) (q0 := 0) rfl rfl) hK hZ hA hP hD hS rfl hl.1 rfl (Nat.le_of_ble_eq_true rfl) dX11_all_146 ⟨Nat.zero_le _, Nat.zero_le _⟩ (fun r40 H locs h hP hD hS => ?_)
                refine lv_istore (lv' := [(8, .int r40), (4, .int x38), (0, .ref (ad 0)), (3, .int a3), (5, .int v30), (6, .int v31), (7, .int v32)]) hx hb dX11_all_149 hl (by decide) rfl (fun ls hl => ?_)
                refine lv_iload hx hb dX11_all_151 (lv_at hl 4 rfl) ?_
                refine lv_if_lt (tgt := 163) hx hb dX11_all_153 (by decide) (fun c42 => ?_) (fun c42 => ?_)
                · have h := h.1 c42
                  refine lv_iload hx hb dX11_all_163 (lv_at hl 6 rfl) ?_
                  refine lv_istore (lv' := [(5, .int v32), (8, .int r40), (4, .int x38), (0, .ref (ad 0)), (3, .int a3), (6, .int v31), (7, .int v32)]) hx hb dX11_all_165 hl (by decide) rfl (fun ls hl => ?_)
                  refine lv_iload hx hb dX11_all_167 (lv_at hl 1 rfl) ?_
                  refine lv_istore (lv' := [(6, .int r40), (5, .int v32), (8, .int r40), (4, .int x38), (0, .ref (ad 0)), (3, .int a3), (7, .int v32)]) hx hb dX11_all_169 hl (by decide) rfl (fun ls hl => ?_)
                  obtain ⟨x43, e44⟩ : ∃ z : Int32, z = v32 + 1 := ⟨_, rfl⟩
                  have h := h x43 e44
                  refine lv_iinc (v := x43) (lv' := [(7, .int x43), (6, .int r40), (5, .int v32), (8, .int r40), (4, .int x38), (0, .ref (ad 0)), (3, .int a3)]) hx hb dX11_all_171 hl (k := 6) rfl (by rw [e44]; rfl) (by decide) rfl (fun ls hl => ?_)
                  refine lv_goto (tgt := 114) hx hb dX11_all_174 (by decide) ?_
                  exact ih114 _ _ _ _ _ _ _ h hP hD hS (lv_sub hl [5, 6, 4, 2, 1, 0] rfl)
                · have h := h.2 c42
                  refine lv_iload hx hb dX11_all_156 (lv_at hl 0 rfl) ?_
                  refine lv_iload hx hb dX11_all_158 (lv_at hl 5 rfl) ?_
                  refine lv_icmp_le (tgt := 171) hx hb dX11_all_160 (by decide) (fun c45 => ?_) (fun c45 => ?_)
                  · have h := h.1 c45
                    obtain ⟨x46, e47⟩ : ∃ z : Int32, z = v32 + 1 := ⟨_, rfl⟩
                    have h := h x46 e47
                    refine lv_iinc (v := x46) (lv' := [(7, .int x46), (8, .int r40), (4, .int x38), (0, .ref (ad 0)), (3, .int a3), (5, .int v30), (6, .int v31)]) hx hb dX11_all_171 hl (k := 6) rfl (by rw [e47]; rfl) (by decide) rfl (fun ls hl => ?_)
                    refine lv_goto (tgt := 114) hx hb dX11_all_174 (by decide) ?_
                    exact ih114 _ _ _ _ _ _ _ h hP hD hS (lv_sub hl [3, 4, 2, 5, 6, 0] rfl)
                  · have h := h.2 c45
                    refine lv_iload hx hb dX11_all_163 (lv_at hl 6 rfl) ?_
                    refine lv_istore (lv' := [(5, .int v32), (8, .int r40), (4, .int x38), (0, .ref (ad 0)), (3, .int a3), (6, .int v31), (7, .int v32)]) hx hb dX11_all_165 hl (by decide) rfl (fun ls hl => ?_)
                    refine lv_iload hx hb dX11_all_167 (lv_at hl 1 rfl) ?_
                    refine lv_istore (lv' := [(6, .int r40), (5, .int v32), (8, .int r40), (4, .int x38), (0, .ref (ad 0)), (3, .int a3), (7, .int v32)]) hx hb dX11_all_169 hl (by decide) rfl (fun ls hl => ?_)
                    obtain ⟨x48, e49⟩ : ∃ z : Int32, z = v32 + 1 := ⟨_, rfl⟩
                    have h := h x48 e49
                    refine lv_iinc (v := x48) (lv' := [(7, .int x48), (6, .int r40), (5, .int v32), (8, .int r40), (4, .int x38), (0, .ref (ad 0)), (3, .int a3)]) hx hb dX11_all_171 hl (k := 6) rfl (by rw [e49]; rfl) (by decide) rfl (fun ls hl => ?_)
                    refine lv_goto (tgt := 114) hx hb dX11_all_174 (by decide) ?_
                    exact ih114 _ _ _ _ _ _ _ h hP hD hS (lv_sub hl [5, 6, 4, 2, 1, 0] rfl)
        obtain ⟨n, h⟩ := h
        refine loop114 _ ?_ n _ _ _ _ _ _ _ h hP hD hS (lv_sub hl [4, 5, 3, 2, 1, 0] rfl)
        intro v50 v51 v52 H locs ls h hP hD hS hl
        refine lv_iload_n hx hb dX11_all_177 rfl (lv_at hl 0 rfl) ?_
        refine lv_if_ne (tgt := 184) hx hb dX11_all_178 (by decide) (fun c54 => ?_) (fun c54 => ?_)
        · have h := h.1 c54
          refine lv_iload hx hb dX11_all_184 (lv_at hl 2 rfl) ?_
          refine lv_if_ge (tgt := 194) hx hb dX11_all_186 (by decide) (fun c55 => ?_) (fun c55 => ?_)
          · have h := h.1 c55
            refine lv_iload_n hx hb dX11_all_194 rfl (lv_at hl 0 rfl) ?_
            refine lv_iconst (v := 1) hx hb dX11_all_195 (by decide) ?_
            refine lv_icmp_ne (tgt := 207) hx hb dX11_all_196 (by decide) (fun c56 => ?_) (fun c56 => ?_)
            · have h := h.1 c56
              refine lv_iload_n hx hb dX11_all_207 rfl (lv_at hl 0 rfl) ?_
              refine lv_iconst (v := 2) hx hb dX11_all_208 (by decide) ?_
              refine lv_icmp_ne (tgt := 220) hx hb dX11_all_209 (by decide) (fun c57 => ?_) (fun c57 => ?_)
              · have h := h.1 c57
                refine lv_iload hx hb dX11_all_220 (lv_at hl 3 rfl) ?_
                exact hret _ _ _ _ _ _ rfl h hP hD hS dX11_all_222
              · have h := h.2 c57
                refine lv_iload hx hb dX11_all_212 (lv_at hl 2 rfl) ?_
                refine lv_bipush (v := 24) hx hb dX11_all_214 (by decide) ?_
                refine lv_irem hx hb dX11_all_216 (by decide) ?_
                refine lv_goto (tgt := 222) hx hb dX11_all_217 (by decide) ?_
                exact hret _ _ _ _ _ _ rfl h hP hD hS dX11_all_222
            · have h := h.2 c56
              refine lv_iload hx hb dX11_all_199 (lv_at hl 2 rfl) ?_
              refine lv_bipush (v := 24) hx hb dX11_all_201 (by decide) ?_
              refine lv_idiv hx hb dX11_all_203 (by decide) ?_
              refine lv_goto (tgt := 222) hx hb dX11_all_204 (by decide) ?_
              exact hret _ _ _ _ _ _ rfl h hP hD hS dX11_all_222
          · have h := h.2 c55
            refine lv_bipush (v := (-6)) hx hb dX11_all_189 (by decide) ?_
            refine lv_goto (tgt := 222) hx hb dX11_all_191 (by decide) ?_
            exact hret _ _ _ _ _ _ rfl h hP hD hS dX11_all_222
        · have h := h.2 c54
          refine lv_iload hx hb dX11_all_181 (lv_at hl 1 rfl) ?_
          exact hret _ _ _ _ _ _ rfl h hP hD hS dX11_all_183
      · have h := h.2 c9
        refine lv_bipush (v := (-2)) hx hb dX11_all_30 (by decide) ?_
        exact hret _ _ _ _ _ _ rfl h hP hD hS dX11_all_32
    · have h := h.2 c6
      refine lv_iconst (v := (-1)) hx hb dX11_all_16 (by decide) ?_
      exact hret _ _ _ _ _ _ rfl h hP hD hS dX11_all_17
-- X11_side
def rm_X11_side : Room := { frames := 0, cells := 0, slots := 0, locals := 0 }
abbrev ws_X11_side : List Cond := .code yX11_side cX11_side 6 (some .int) :: wsL_law
def wp_X11_side (st : St) (a1 : Int32) (a2 : Int32) (a3 : Int32) (post : Int32 → Prop) : Prop := vp_in a2 21 ∧ (vp_in a1 21 ∧ (vp_in a3 21 ∧ (vp_in a1 21 ∧ (vp_in a2 21 ∧ (vp_in a1 21 ∧ (vp_in a3 21 ∧ (vp_in a1 21 ∧ (∀ x1 : Int64, x1 = ((((gA st 20 a2.toNatClampNeg) - (gA st 20 a1.toNatClampNeg)).toInt64 * ((gA st 21 a3.toNatClampNeg) - (gA st 21 a1.toNatClampNeg)).toInt64) - (((gA st 21 a2.toNatClampNeg) - (gA st 21 a1.toNatClampNeg)).toInt64 * ((gA st 20 a3.toNatClampNeg) - (gA st 20 a1.toNatClampNeg)).toInt64)) → (((x1 ≤ 0) → (((0 ≤ x1) → (post 0)) ∧ ((¬ 0 ≤ x1) → (post (-1))))) ∧ ((¬ x1 ≤ 0) → (post 1)))))))))))
set_option maxHeartbeats 4000000 in
set_option maxRecDepth 100000 in
theorem c_X11_side (l : Launch) (D : va_G) (cy : Nat → ClassId) (tz : Nat → Nat) (ad : Nat → Nat) (st : St) (a1 : Int32) (a2 : Int32) (a3 : Int32) (post : Int32 → Prop) (h : wp_X11_side st a1 a2 a3 post) : CtI l D cy tz yX11_side ws_X11_side rm_X11_side [.ref (ad 0), .int a1, .int a2, .int a3] (wM cy ad st) (fun _ : Unit => wM cy ad st) (fun r _ => post r) := by
  refine CtI.of (own := RX11) (nm := "side") (lv := [(0, .ref (ad 0)), (1, .int a1), (2, .int a2), (3, .int a3)]) (plainFor_of_name (by decide)) rfl rfl (Nat.le_of_ble_eq_true rfl) rfl ?_
  intro p e s m args below meth c A Q ls B hP hD hS hl hret
  obtain ⟨hx, hb, hml, hown, hts, hK, hZ, hA, hnm⟩ := B
  have SF : CallFix p m c cX11_side 6 s args wsL_law RX11 := ⟨hx, hb, hml, hown, hts⟩
  unfold wp_X11_side at h
  refine lv_aload_n hx hb dX11_side_0 rfl (lv_at hl 0 rfl) ?_
  refine va_get (D := D) (ci := 10) (v := .ref (ad 11)) (C := RX11) (T := TX11) (N := 35) hx hb hts inlX11 hown hK hP 0 rfl rfl 20 (by decide) (hts _ w_5_17) (fun _ h9 => h9) rfl dX11_side_1 ?_
  refine lv_iload_n hx hb dX11_side_4 rfl (lv_at hl 2 rfl) ?_
  refine va_iald (f := gA st 20) (n := 21) hx hb hK hP 11 0 rfl rfl h.1 dX11_side_5 ?_
  have h := h.2
  refine lv_aload_n hx hb dX11_side_6 rfl (lv_at hl 0 rfl) ?_
  refine va_get (D := D) (ci := 10) (v := .ref (ad 11)) (C := RX11) (T := TX11) (N := 35) hx hb hts inlX11 hown hK hP 0 rfl rfl 20 (by decide) (hts _ w_5_17) (fun _ h9 => h9) rfl dX11_side_7 ?_
  refine lv_iload_n hx hb dX11_side_10 rfl (lv_at hl 1 rfl) ?_
  refine va_iald (f := gA st 20) (n := 21) hx hb hK hP 11 0 rfl rfl h.1 dX11_side_11 ?_
  have h := h.2
  refine lv_isub hx hb dX11_side_12 ?_
  refine lv_i2l (v := ((gA st 20 a2.toNatClampNeg) - (gA st 20 a1.toNatClampNeg)).toInt64) hx hb dX11_side_13 rfl ?_
  refine lv_aload_n hx hb dX11_side_14 rfl (lv_at hl 0 rfl) ?_
  refine va_get (D := D) (ci := 10) (v := .ref (ad 12)) (C := RX11) (T := TX11) (N := 35) hx hb hts inlX11 hown hK hP 0 rfl rfl 21 (by decide) (hts _ w_5_18) (fun _ h9 => h9) rfl dX11_side_15 ?_
  refine lv_iload_n hx hb dX11_side_18 rfl (lv_at hl 3 rfl) ?_
  refine va_iald (f := gA st 21) (n := 21) hx hb hK hP 12 0 rfl rfl h.1 dX11_side_19 ?_
  have h := h.2
  refine lv_aload_n hx hb dX11_side_20 rfl (lv_at hl 0 rfl) ?_
  refine va_get (D := D) (ci := 10) (v := .ref (ad 12)) (C := RX11) (T := TX11) (N := 35) hx hb hts inlX11 hown hK hP 0 rfl rfl 21 (by decide) (hts _ w_5_18) (fun _ h9 => h9) rfl dX11_side_21 ?_
  refine lv_iload_n hx hb dX11_side_24 rfl (lv_at hl 1 rfl) ?_
  refine va_iald (f := gA st 21) (n := 21) hx hb hK hP 12 0 rfl rfl h.1 dX11_side_25 ?_
  have h := h.2
  refine lv_isub hx hb dX11_side_26 ?_
  refine lv_i2l (v := ((gA st 21 a3.toNatClampNeg) - (gA st 21 a1.toNatClampNeg)).toInt64) hx hb dX11_side_27 rfl ?_
  refine lv_lmul hx hb dX11_side_28 ?_
  refine lv_aload_n hx hb dX11_side_29 rfl (lv_at hl 0 rfl) ?_
  refine va_get (D := D) (ci := 10) (v := .ref (ad 12)) (C := RX11) (T := TX11) (N := 35) hx hb hts inlX11 hown hK hP 0 rfl rfl 21 (by decide) (hts _ w_5_18) (fun _ h9 => h9) rfl dX11_side_30 ?_
  refine lv_iload_n hx hb dX11_side_33 rfl (lv_at hl 2 rfl) ?_
  refine va_iald (f := gA st 21) (n := 21) hx hb hK hP 12 0 rfl rfl h.1 dX11_side_34 ?_
  have h := h.2
  refine lv_aload_n hx hb dX11_side_35 rfl (lv_at hl 0 rfl) ?_
  refine va_get (D := D) (ci := 10) (v := .ref (ad 12)) (C := RX11) (T := TX11) (N := 35) hx hb hts inlX11 hown hK hP 0 rfl rfl 21 (by decide) (hts _ w_5_18) (fun _ h9 => h9) rfl dX11_side_36 ?_
  refine lv_iload_n hx hb dX11_side_39 rfl (lv_at hl 1 rfl) ?_
  refine va_iald (f := gA st 21) (n := 21) hx hb hK hP 12 0 rfl rfl h.1 dX11_side_40 ?_
  have h := h.2
  refine lv_isub hx hb dX11_side_41 ?_
  refine lv_i2l (v := ((gA st 21 a2.toNatClampNeg) - (gA st 21 a1.toNatClampNeg)).toInt64) hx hb dX11_side_42 rfl ?_
  refine lv_aload_n hx hb dX11_side_43 rfl (lv_at hl 0 rfl) ?_
  refine va_get (D := D) (ci := 10) (v := .ref (ad 11)) (C := RX11) (T := TX11) (N := 35) hx hb hts inlX11 hown hK hP 0 rfl rfl 20 (by decide) (hts _ w_5_17) (fun _ h9 => h9) rfl dX11_side_44 ?_
  refine lv_iload_n hx hb dX11_side_47 rfl (lv_at hl 3 rfl) ?_
  refine va_iald (f := gA st 20) (n := 21) hx hb hK hP 11 0 rfl rfl h.1 dX11_side_48 ?_
  have h := h.2
  refine lv_aload_n hx hb dX11_side_49 rfl (lv_at hl 0 rfl) ?_
  refine va_get (D := D) (ci := 10) (v := .ref (ad 11)) (C := RX11) (T := TX11) (N := 35) hx hb hts inlX11 hown hK hP 0 rfl rfl 20 (by decide) (hts _ w_5_17) (fun _ h9 => h9) rfl dX11_side_50 ?_
  refine lv_iload_n hx hb dX11_side_53 rfl (lv_at hl 1 rfl) ?_
  refine va_iald (f := gA st 20) (n := 21) hx hb hK hP 11 0 rfl rfl h.1 dX11_side_54 ?_
  have h := h.2
  refine lv_isub hx hb dX11_side_55 ?_
  refine lv_i2l (v := ((gA st 20 a3.toNatClampNeg) - (gA st 20 a1.toNatClampNeg)).toInt64) hx hb dX11_side_56 rfl ?_
  refine lv_lmul hx hb dX11_side_57 ?_
  refine lv_lsub hx hb dX11_side_58 ?_
  refine lv_topl (fun x1 e2 => ?_)
  have h := h x1 e2
  refine lv_lstore (lv' := [(4, .long x1), (0, .ref (ad 0)), (1, .int a1), (2, .int a2), (3, .int a3)]) hx hb dX11_side_59 hl (by decide) rfl (fun ls hl => ?_)
  refine lv_lload hx hb dX11_side_61 (lv_at hl 0 rfl) ?_
  refine lv_lconst (v := 0) hx hb dX11_side_63 (by decide) ?_
  refine W.lcmp hx hb dX11_side_64 ?_
  refine lv_if_le (tgt := 72) hx hb dX11_side_65 (by decide) (fun c3 => ?_) (fun c3 => ?_)
  · have h := h.1 ((lg_cmp_le _ _).mp c3)
    refine lv_lload hx hb dX11_side_72 (lv_at hl 0 rfl) ?_
    refine lv_lconst (v := 0) hx hb dX11_side_74 (by decide) ?_
    refine W.lcmp hx hb dX11_side_75 ?_
    refine lv_if_ge (tgt := 83) hx hb dX11_side_76 (by decide) (fun c4 => ?_) (fun c4 => ?_)
    · have h := h.1 ((lg_cmp_ge _ _).mp c4)
      refine lv_iconst (v := 0) hx hb dX11_side_83 (by decide) ?_
      exact hret _ () _ _ _ _ rfl h hP hD hS dX11_side_84
    · have h := h.2 (fun z => c4 ((lg_cmp_ge _ _).mpr z))
      refine lv_iconst (v := (-1)) hx hb dX11_side_79 (by decide) ?_
      refine lv_goto (tgt := 84) hx hb dX11_side_80 (by decide) ?_
      exact hret _ () _ _ _ _ rfl h hP hD hS dX11_side_84
  · have h := h.2 (fun z => c3 ((lg_cmp_le _ _).mpr z))
    refine lv_iconst (v := 1) hx hb dX11_side_68 (by decide) ?_
    refine lv_goto (tgt := 84) hx hb dX11_side_69 (by decide) ?_
    exact hret _ () _ _ _ _ rfl h hP hD hS dX11_side_84
-- X11_isBetween
def rm_X11_isBetween : Room := { frames := 1, cells := 0, slots := 0, locals := 25 }
abbrev ws_X11_isBetween : List Cond := .code yX11_isBetween cX11_isBetween 3 (some .boolean) :: wsL_law
def wp_X11_isBetween (a1 : Int32) (a2 : Int32) (a3 : Int32) (post : Int32 → Prop) : Prop := ((a3 ≤ a2) → (wp_X11_in a1.toInt64 a3.toInt64 a2.toInt64 (fun r2 => r2 &&& 1 = r2 ∧ post r2))) ∧ ((¬ a3 ≤ a2) → (wp_X11_in a1.toInt64 a2.toInt64 a3.toInt64 (fun r4 => r4 &&& 1 = r4 ∧ post r4)))
set_option maxHeartbeats 4000000 in
set_option maxRecDepth 100000 in
theorem c_X11_isBetween (l : Launch) (D : va_G) (cy : Nat → ClassId) (tz : Nat → Nat) (w : va_W) (a1 : Int32) (a2 : Int32) (a3 : Int32) (post : Int32 → Prop) (h : wp_X11_isBetween a1 a2 a3 post) : CtI l D cy tz yX11_isBetween ws_X11_isBetween rm_X11_isBetween [.int a1, .int a2, .int a3] w (fun _ : Unit => w) (fun r _ => post r) := by
  refine CtI.of (own := RX11) (nm := "isBetween") (lv := [(0, .int a1), (1, .int a2), (2, .int a3)]) (plainFor_of_name (by decide)) rfl rfl (Nat.le_of_ble_eq_true rfl) rfl ?_
  intro p e s m args below meth c A Q ls B hP hD hS hl hret
  obtain ⟨hx, hb, hml, hown, hts, hK, hZ, hA, hnm⟩ := B
  have SF : CallFix p m c cX11_isBetween 3 s args wsL_law RX11 := ⟨hx, hb, hml, hown, hts⟩
  unfold wp_X11_isBetween at h
  refine lv_iload_n hx hb dX11_isBetween_0 rfl (lv_at hl 1 rfl) ?_
  refine lv_iload_n hx hb dX11_isBetween_1 rfl (lv_at hl 2 rfl) ?_
  refine lv_icmp_ge (tgt := 17) hx hb dX11_isBetween_2 (by decide) (fun c1 => ?_) (fun c1 => ?_)
  · have h := h.1 c1
    refine lv_iload_n hx hb dX11_isBetween_17 rfl (lv_at hl 0 rfl) ?_
    refine lv_i2l (v := a1.toInt64) hx hb dX11_isBetween_18 rfl ?_
    refine lv_iload_n hx hb dX11_isBetween_19 rfl (lv_at hl 2 rfl) ?_
    refine lv_i2l (v := a3.toInt64) hx hb dX11_isBetween_20 rfl ?_
    refine lv_iload_n hx hb dX11_isBetween_21 rfl (lv_at hl 1 rfl) ?_
    refine lv_i2l (v := a2.toInt64) hx hb dX11_isBetween_22 rfl ?_
    refine callSIr (rest := []) SF (c_X11_in l D cy tz _ a1.toInt64 a3.toInt64 a2.toInt64 _ h) (cw_RX11_67 hts ⟨Nat.le_of_ble_eq_true rfl, Nat.le_of_ble_eq_true rfl⟩) rfl rfl hK hZ hA hP hD hS rfl hl.1 rfl (Nat.le_of_ble_eq_true rfl) dX11_isBetween_23 ⟨Nat.zero_le _, Nat.zero_le _⟩ (fun r2 H locs h hP hD hS => ?_)
    exact hret _ () _ _ _ _ (narrow_b h.1) h.2 hP hD hS dX11_isBetween_26
  · have h := h.2 c1
    refine lv_iload_n hx hb dX11_isBetween_5 rfl (lv_at hl 0 rfl) ?_
    refine lv_i2l (v := a1.toInt64) hx hb dX11_isBetween_6 rfl ?_
    refine lv_iload_n hx hb dX11_isBetween_7 rfl (lv_at hl 1 rfl) ?_
    refine lv_i2l (v := a2.toInt64) hx hb dX11_isBetween_8 rfl ?_
    refine lv_iload_n hx hb dX11_isBetween_9 rfl (lv_at hl 2 rfl) ?_
    refine lv_i2l (v := a3.toInt64) hx hb dX11_isBetween_10 rfl ?_
    refine callSIr (rest := []) SF (c_X11_in l D cy tz _ a1.toInt64 a2.toInt64 a3.toInt64 _ h) (cw_RX11_67 hts ⟨Nat.le_of_ble_eq_true rfl, Nat.le_of_ble_eq_true rfl⟩) rfl rfl hK hZ hA hP hD hS rfl hl.1 rfl (Nat.le_of_ble_eq_true rfl) dX11_isBetween_11 ⟨Nat.zero_le _, Nat.zero_le _⟩ (fun r4 H locs h hP hD hS => ?_)
    refine lv_goto (tgt := 26) hx hb dX11_isBetween_14 (by decide) ?_
    exact hret _ () _ _ _ _ (narrow_b h.1) h.2 hP hD hS dX11_isBetween_26
