def wS (cy : Nat → ClassId) (ad : Nat → Nat) (st : St) : va_W := [(ad 3, .inr (7, [.ref (ad 4), .ref (ad 5), .ref (ad 8), .ref (ad 11), .ref (ad 12), .int (gI st 1)])), (ad 4, .inl (cy 0, 5, .inl (gA st 1))), (ad 5, .inr (6, [.ref (ad 6), .ref (ad 7), .int (gI st 2), .int (gI st 3)])), (ad 6, .inl (cy 0, 20, .inl (gA st 2))), (ad 7, .inl (cy 0, 20, .inl (gA st 3))), (ad 8, .inr (2, [.ref (ad 9), .ref (ad 10), .int (gI st 4)])), (ad 9, .inl (cy 0, 24, .inl (gA st 4))), (ad 10, .inl (cy 0, 24, .inl (gA st 5))), (ad 11, .inl (cy 0, 8, .inl (gA st 6))), (ad 12, .inl (cy 0, 8, .inl (gA st 7)))]
def wP (cy : Nat → ClassId) (ad : Nat → Nat) (st : St) : va_W := [(ad 3, .inr (7, [.ref (ad 4), .ref (ad 5), .ref (ad 8), .ref (ad 11), .ref (ad 12), .int (gI st 1)])), (ad 4, .inl (cy 0, 5, .inl (gA st 1))), (ad 5, .inr (6, [.ref (ad 6), .ref (ad 7), .int (gI st 2), .int (gI st 3)])), (ad 6, .inl (cy 0, 20, .inl (gA st 2))), (ad 7, .inl (cy 0, 20, .inl (gA st 3))), (ad 8, .inr (2, [.ref (ad 9), .ref (ad 10), .int (gI st 4)])), (ad 9, .inl (cy 0, 24, .inl (gA st 4))), (ad 10, .inl (cy 0, 24, .inl (gA st 5))), (ad 11, .inl (cy 0, 8, .inl (gA st 6))), (ad 12, .inl (cy 0, 8, .inl (gA st 7))), (ad 103, .inr (7, [.ref (ad 104), .ref (ad 105), .ref (ad 108), .ref (ad 111), .ref (ad 112), .int (gI st 101)])), (ad 104, .inl (cy 0, 5, .inl (gA st 101))), (ad 105, .inr (6, [.ref (ad 106), .ref (ad 107), .int (gI st 102), .int (gI st 103)])), (ad 106, .inl (cy 0, 20, .inl (gA st 102))), (ad 107, .inl (cy 0, 20, .inl (gA st 103))), (ad 108, .inr (2, [.ref (ad 109), .ref (ad 110), .int (gI st 104)])), (ad 109, .inl (cy 0, 24, .inl (gA st 104))), (ad 110, .inl (cy 0, 24, .inl (gA st 105))), (ad 111, .inl (cy 0, 8, .inl (gA st 106))), (ad 112, .inl (cy 0, 8, .inl (gA st 107)))]
-- X2_become
def rm_X2_become : Room := { frames := 1, cells := 0, slots := 0, locals := 40 }
abbrev ws_X2_become : List Cond := .code yX2_become cX2_become 2 none :: wsL_law
def wp_X2_become (st : St) (post : St → Prop) : Prop := ∀ x1 : Int32, x1 = gI st 104 → (post (sI (sA (sA st 4 (va_cpy (gA st 104) (gA st 4) (0 : Int32).toNatClampNeg (0 : Int32).toNatClampNeg (24 : Int32).toNatClampNeg)) 5 (va_cpy (gA st 105) (gA st 5) (0 : Int32).toNatClampNeg (0 : Int32).toNatClampNeg (24 : Int32).toNatClampNeg)) 4 x1))
set_option maxHeartbeats 4000000 in
set_option maxRecDepth 100000 in
theorem c_X2_become (l : Launch) (D : va_G) (cy : Nat → ClassId) (tz : Nat → Nat) (ad : Nat → Nat) (st : St) (post : St → Prop) (h : wp_X2_become st post) : CtV l D cy tz yX2_become ws_X2_become rm_X2_become [.ref (ad 8), .ref (ad 108)] (wP cy ad st) (wP cy ad) post := by
  refine CtV.of (own := RX2) (nm := "become") (lv := [(0, .ref (ad 8)), (1, .ref (ad 108))]) (plainFor_of_name (by decide)) rfl rfl (Nat.le_of_ble_eq_true rfl) rfl ?_
  intro p e s m args below meth c A Q ls B hP hD hS hl hret
  obtain ⟨hx, hb, hml, hown, hts, hK, hZ, hA, hnm⟩ := B
  have SF : CallFix p m c cX2_become 2 s args wsL_law RX2 := ⟨hx, hb, hml, hown, hts⟩
  unfold wp_X2_become at h
  refine lv_aload_n hx hb dX2_become_0 rfl (lv_at hl 1 rfl) ?_
  refine va_get (D := D) (ci := 2) (v := .ref (ad 109)) (C := RX2) (T := TX2) (N := 3) hx hb hts inlX2 hown hK hP 15 rfl rfl 0 (by decide) (hts _ w_4_3) (fun _ h9 => h9) rfl dX2_become_1 ?_
  refine lv_iconst (v := 0) hx hb dX2_become_4 (by decide) ?_
  refine lv_aload_n hx hb dX2_become_5 rfl (lv_at hl 0 rfl) ?_
  refine va_get (D := D) (ci := 2) (v := .ref (ad 9)) (C := RX2) (T := TX2) (N := 3) hx hb hts inlX2 hown hK hP 5 rfl rfl 0 (by decide) (hts _ w_4_3) (fun _ h9 => h9) rfl dX2_become_6 ?_
  refine lv_iconst (v := 0) hx hb dX2_become_9 (by decide) ?_
  refine lv_bipush (v := 24) hx hb dX2_become_10 (by decide) ?_
  refine va_copyi (f := gA st 104) (g := gA st 4) (n0 := 24) (n1 := 24) (ty := .int) hx hb (hml.trans hl.1.symm) hown (hts _ w_36_21) (hts _ w_36_9) (hts _ w_36_10) (hts _ w_36_11) hK hP hD hS 16 6 0 0 rfl rfl rfl rfl rfl (by decide) (by decide) (by decide) (by decide +kernel) (by decide +kernel) (fun _ _ => rfl) (Nat.le_of_ble_eq_true rfl) (Nat.le_of_ble_eq_true rfl) dX2_become_12 (fun H locs hP hD hS => ?_)
  have hP : va_P D vwCl (wP cy ad (sA st 4 (va_cpy (gA st 104) (gA st 4) (0 : Int32).toNatClampNeg (0 : Int32).toNatClampNeg (24 : Int32).toNatClampNeg))) H := hP
  have hD : va_D A (wP cy ad (sA st 4 (va_cpy (gA st 104) (gA st 4) (0 : Int32).toNatClampNeg (0 : Int32).toNatClampNeg (24 : Int32).toNatClampNeg))) := hD
  refine lv_aload_n hx hb dX2_become_15 rfl (lv_at hl 1 rfl) ?_
  refine va_get (D := D) (ci := 2) (v := .ref (ad 110)) (C := RX2) (T := TX2) (N := 3) hx hb hts inlX2 hown hK hP 15 rfl rfl 1 (by decide) (hts _ w_4_4) (fun _ h9 => h9) rfl dX2_become_16 ?_
  refine lv_iconst (v := 0) hx hb dX2_become_19 (by decide) ?_
  refine lv_aload_n hx hb dX2_become_20 rfl (lv_at hl 0 rfl) ?_
  refine va_get (D := D) (ci := 2) (v := .ref (ad 10)) (C := RX2) (T := TX2) (N := 3) hx hb hts inlX2 hown hK hP 5 rfl rfl 1 (by decide) (hts _ w_4_4) (fun _ h9 => h9) rfl dX2_become_21 ?_
  refine lv_iconst (v := 0) hx hb dX2_become_24 (by decide) ?_
  refine lv_bipush (v := 24) hx hb dX2_become_25 (by decide) ?_
  refine va_copyi (f := gA st 105) (g := gA st 5) (n0 := 24) (n1 := 24) (ty := .int) hx hb (hml.trans hl.1.symm) hown (hts _ w_36_21) (hts _ w_36_9) (hts _ w_36_10) (hts _ w_36_11) hK hP hD hS 17 7 0 0 rfl rfl rfl rfl rfl (by decide) (by decide) (by decide) (by decide +kernel) (by decide +kernel) (fun _ _ => rfl) (Nat.le_of_ble_eq_true rfl) (Nat.le_of_ble_eq_true rfl) dX2_become_27 (fun H locs hP hD hS => ?_)
  have hP : va_P D vwCl (wP cy ad (sA (sA st 4 (va_cpy (gA st 104) (gA st 4) (0 : Int32).toNatClampNeg (0 : Int32).toNatClampNeg (24 : Int32).toNatClampNeg)) 5 (va_cpy (gA st 105) (gA st 5) (0 : Int32).toNatClampNeg (0 : Int32).toNatClampNeg (24 : Int32).toNatClampNeg))) H := hP
  have hD : va_D A (wP cy ad (sA (sA st 4 (va_cpy (gA st 104) (gA st 4) (0 : Int32).toNatClampNeg (0 : Int32).toNatClampNeg (24 : Int32).toNatClampNeg)) 5 (va_cpy (gA st 105) (gA st 5) (0 : Int32).toNatClampNeg (0 : Int32).toNatClampNeg (24 : Int32).toNatClampNeg))) := hD
  refine lv_aload_n hx hb dX2_become_30 rfl (lv_at hl 0 rfl) ?_
  refine lv_aload_n hx hb dX2_become_31 rfl (lv_at hl 1 rfl) ?_
  refine va_get (D := D) (ci := 2) (v := .int (gI st 104)) (C := RX2) (T := TX2) (N := 3) hx hb hts inlX2 hown hK hP 15 rfl rfl 2 (by decide) (hts _ w_29_11) (fun _ h9 => h9) rfl dX2_become_32 ?_
  refine lv_topi (fun x1 e2 => ?_)
  have h := h x1 e2
  refine va_put (D := D) (ci := 2) (v := .int x1) (ty := .int) (C := RX2) (T := TX2) (N := 3) hx hb hts inlX2 tyX2 tyX2_ok nmX2 hown hK hP hD hS 5 rfl rfl 2 (by decide) (hts _ w_29_11) (fun _ h9 => h9) rfl (by decide +kernel) rfl rfl (Nat.le_of_ble_eq_true rfl) dX2_become_35 (fun H locs hP hD hS => ?_)
  have hP : va_P D vwCl (wP cy ad (sI (sA (sA st 4 (va_cpy (gA st 104) (gA st 4) (0 : Int32).toNatClampNeg (0 : Int32).toNatClampNeg (24 : Int32).toNatClampNeg)) 5 (va_cpy (gA st 105) (gA st 5) (0 : Int32).toNatClampNeg (0 : Int32).toNatClampNeg (24 : Int32).toNatClampNeg)) 4 x1)) H := hP
  have hD : va_D A (wP cy ad (sI (sA (sA st 4 (va_cpy (gA st 104) (gA st 4) (0 : Int32).toNatClampNeg (0 : Int32).toNatClampNeg (24 : Int32).toNatClampNeg)) 5 (va_cpy (gA st 105) (gA st 5) (0 : Int32).toNatClampNeg (0 : Int32).toNatClampNeg (24 : Int32).toNatClampNeg)) 4 x1)) := hD
  exact hret _ _ _ _ _ h hP hD hS dX2_become_38
-- X6_become
def rm_X6_become : Room := { frames := 1, cells := 0, slots := 0, locals := 40 }
abbrev ws_X6_become : List Cond := .code yX6_become cX6_become 2 none :: wsL_law
def wp_X6_become (st : St) (post : St → Prop) : Prop := ∀ x1 : Int32, x1 = gI st 102 → (∀ x3 : Int32, x3 = gI st 103 → (post (sI (sI (sA (sA st 2 (va_cpy (gA st 102) (gA st 2) (0 : Int32).toNatClampNeg (0 : Int32).toNatClampNeg (20 : Int32).toNatClampNeg)) 3 (va_cpy (gA st 103) (gA st 3) (0 : Int32).toNatClampNeg (0 : Int32).toNatClampNeg (20 : Int32).toNatClampNeg)) 2 x1) 3 x3)))
set_option maxHeartbeats 4000000 in
set_option maxRecDepth 100000 in
theorem c_X6_become (l : Launch) (D : va_G) (cy : Nat → ClassId) (tz : Nat → Nat) (ad : Nat → Nat) (st : St) (post : St → Prop) (h : wp_X6_become st post) : CtV l D cy tz yX6_become ws_X6_become rm_X6_become [.ref (ad 5), .ref (ad 105)] (wP cy ad st) (wP cy ad) post := by
  refine CtV.of (own := RX6) (nm := "become") (lv := [(0, .ref (ad 5)), (1, .ref (ad 105))]) (plainFor_of_name (by decide)) rfl rfl (Nat.le_of_ble_eq_true rfl) rfl ?_
  intro p e s m args below meth c A Q ls B hP hD hS hl hret
  obtain ⟨hx, hb, hml, hown, hts, hK, hZ, hA, hnm⟩ := B
  have SF : CallFix p m c cX6_become 2 s args wsL_law RX6 := ⟨hx, hb, hml, hown, hts⟩
  unfold wp_X6_become at h
  refine lv_aload_n hx hb dX6_become_0 rfl (lv_at hl 1 rfl) ?_
  refine va_get (D := D) (ci := 6) (v := .ref (ad 106)) (C := RX6) (T := TX6) (N := 4) hx hb hts inlX6 hown hK hP 12 rfl rfl 0 (by decide) (hts _ w_3_22) (fun _ h9 => h9) rfl dX6_become_1 ?_
  refine lv_iconst (v := 0) hx hb dX6_become_4 (by decide) ?_
  refine lv_aload_n hx hb dX6_become_5 rfl (lv_at hl 0 rfl) ?_
  refine va_get (D := D) (ci := 6) (v := .ref (ad 6)) (C := RX6) (T := TX6) (N := 4) hx hb hts inlX6 hown hK hP 2 rfl rfl 0 (by decide) (hts _ w_3_22) (fun _ h9 => h9) rfl dX6_become_6 ?_
  refine lv_iconst (v := 0) hx hb dX6_become_9 (by decide) ?_
  refine lv_bipush (v := 20) hx hb dX6_become_10 (by decide) ?_
  refine va_copyi (f := gA st 102) (g := gA st 2) (n0 := 20) (n1 := 20) (ty := .int) hx hb (hml.trans hl.1.symm) hown (hts _ w_36_16) (hts _ w_36_9) (hts _ w_36_10) (hts _ w_36_11) hK hP hD hS 13 3 0 0 rfl rfl rfl rfl rfl (by decide) (by decide) (by decide) (by decide +kernel) (by decide +kernel) (fun _ _ => rfl) (Nat.le_of_ble_eq_true rfl) (Nat.le_of_ble_eq_true rfl) dX6_become_12 (fun H locs hP hD hS => ?_)
  have hP : va_P D vwCl (wP cy ad (sA st 2 (va_cpy (gA st 102) (gA st 2) (0 : Int32).toNatClampNeg (0 : Int32).toNatClampNeg (20 : Int32).toNatClampNeg))) H := hP
  have hD : va_D A (wP cy ad (sA st 2 (va_cpy (gA st 102) (gA st 2) (0 : Int32).toNatClampNeg (0 : Int32).toNatClampNeg (20 : Int32).toNatClampNeg))) := hD
  refine lv_aload_n hx hb dX6_become_15 rfl (lv_at hl 1 rfl) ?_
  refine va_get (D := D) (ci := 6) (v := .ref (ad 107)) (C := RX6) (T := TX6) (N := 4) hx hb hts inlX6 hown hK hP 12 rfl rfl 1 (by decide) (hts _ w_3_23) (fun _ h9 => h9) rfl dX6_become_16 ?_
  refine lv_iconst (v := 0) hx hb dX6_become_19 (by decide) ?_
  refine lv_aload_n hx hb dX6_become_20 rfl (lv_at hl 0 rfl) ?_
  refine va_get (D := D) (ci := 6) (v := .ref (ad 7)) (C := RX6) (T := TX6) (N := 4) hx hb hts inlX6 hown hK hP 2 rfl rfl 1 (by decide) (hts _ w_3_23) (fun _ h9 => h9) rfl dX6_become_21 ?_
  refine lv_iconst (v := 0) hx hb dX6_become_24 (by decide) ?_
  refine lv_bipush (v := 20) hx hb dX6_become_25 (by decide) ?_
  refine va_copyi (f := gA st 103) (g := gA st 3) (n0 := 20) (n1 := 20) (ty := .int) hx hb (hml.trans hl.1.symm) hown (hts _ w_36_16) (hts _ w_36_9) (hts _ w_36_10) (hts _ w_36_11) hK hP hD hS 14 4 0 0 rfl rfl rfl rfl rfl (by decide) (by decide) (by decide) (by decide +kernel) (by decide +kernel) (fun _ _ => rfl) (Nat.le_of_ble_eq_true rfl) (Nat.le_of_ble_eq_true rfl) dX6_become_27 (fun H locs hP hD hS => ?_)
  have hP : va_P D vwCl (wP cy ad (sA (sA st 2 (va_cpy (gA st 102) (gA st 2) (0 : Int32).toNatClampNeg (0 : Int32).toNatClampNeg (20 : Int32).toNatClampNeg)) 3 (va_cpy (gA st 103) (gA st 3) (0 : Int32).toNatClampNeg (0 : Int32).toNatClampNeg (20 : Int32).toNatClampNeg))) H := hP
  have hD : va_D A (wP cy ad (sA (sA st 2 (va_cpy (gA st 102) (gA st 2) (0 : Int32).toNatClampNeg (0 : Int32).toNatClampNeg (20 : Int32).toNatClampNeg)) 3 (va_cpy (gA st 103) (gA st 3) (0 : Int32).toNatClampNeg (0 : Int32).toNatClampNeg (20 : Int32).toNatClampNeg))) := hD
  refine lv_aload_n hx hb dX6_become_30 rfl (lv_at hl 0 rfl) ?_
  refine lv_aload_n hx hb dX6_become_31 rfl (lv_at hl 1 rfl) ?_
  refine va_get (D := D) (ci := 6) (v := .int (gI st 102)) (C := RX6) (T := TX6) (N := 4) hx hb hts inlX6 hown hK hP 12 rfl rfl 2 (by decide) (hts _ w_9_13) (fun _ h9 => h9) rfl dX6_become_32 ?_
  refine lv_topi (fun x1 e2 => ?_)
  have h := h x1 e2
  refine va_put (D := D) (ci := 6) (v := .int x1) (ty := .int) (C := RX6) (T := TX6) (N := 4) hx hb hts inlX6 tyX6 tyX6_ok nmX6 hown hK hP hD hS 2 rfl rfl 2 (by decide) (hts _ w_9_13) (fun _ h9 => h9) rfl (by decide +kernel) rfl rfl (Nat.le_of_ble_eq_true rfl) dX6_become_35 (fun H locs hP hD hS => ?_)
  have hP : va_P D vwCl (wP cy ad (sI (sA (sA st 2 (va_cpy (gA st 102) (gA st 2) (0 : Int32).toNatClampNeg (0 : Int32).toNatClampNeg (20 : Int32).toNatClampNeg)) 3 (va_cpy (gA st 103) (gA st 3) (0 : Int32).toNatClampNeg (0 : Int32).toNatClampNeg (20 : Int32).toNatClampNeg)) 2 x1)) H := hP
  have hD : va_D A (wP cy ad (sI (sA (sA st 2 (va_cpy (gA st 102) (gA st 2) (0 : Int32).toNatClampNeg (0 : Int32).toNatClampNeg (20 : Int32).toNatClampNeg)) 3 (va_cpy (gA st 103) (gA st 3) (0 : Int32).toNatClampNeg (0 : Int32).toNatClampNeg (20 : Int32).toNatClampNeg)) 2 x1)) := hD
  refine lv_aload_n hx hb dX6_become_38 rfl (lv_at hl 0 rfl) ?_
  refine lv_aload_n hx hb dX6_become_39 rfl (lv_at hl 1 rfl) ?_
  refine va_get (D := D) (ci := 6) (v := .int (gI st 103)) (C := RX6) (T := TX6) (N := 4) hx hb hts inlX6 hown hK hP 12 rfl rfl 3 (by decide) (hts _ w_9_14) (fun _ h9 => h9) rfl dX6_become_40 ?_
  refine lv_topi (fun x3 e4 => ?_)
  have h := h x3 e4
  refine va_put (D := D) (ci := 6) (v := .int x3) (ty := .int) (C := RX6) (T := TX6) (N := 4) hx hb hts inlX6 tyX6 tyX6_ok nmX6 hown hK hP hD hS 2 rfl rfl 3 (by decide) (hts _ w_9_14) (fun _ h9 => h9) rfl (by decide +kernel) rfl rfl (Nat.le_of_ble_eq_true rfl) dX6_become_43 (fun H locs hP hD hS => ?_)
  have hP : va_P D vwCl (wP cy ad (sI (sI (sA (sA st 2 (va_cpy (gA st 102) (gA st 2) (0 : Int32).toNatClampNeg (0 : Int32).toNatClampNeg (20 : Int32).toNatClampNeg)) 3 (va_cpy (gA st 103) (gA st 3) (0 : Int32).toNatClampNeg (0 : Int32).toNatClampNeg (20 : Int32).toNatClampNeg)) 2 x1) 3 x3)) H := hP
  have hD : va_D A (wP cy ad (sI (sI (sA (sA st 2 (va_cpy (gA st 102) (gA st 2) (0 : Int32).toNatClampNeg (0 : Int32).toNatClampNeg (20 : Int32).toNatClampNeg)) 3 (va_cpy (gA st 103) (gA st 3) (0 : Int32).toNatClampNeg (0 : Int32).toNatClampNeg (20 : Int32).toNatClampNeg)) 2 x1) 3 x3)) := hD
  exact hret _ _ _ _ _ h hP hD hS dX6_become_46
-- X7_become
def rm_X7_become : Room := { frames := 2, cells := 0, slots := 0, locals := 61 }
abbrev ws_X7_become : List Cond := .code yX7_become cX7_become 2 none :: wsL_law
theorem cw_RX7_72 {R : Room} {s : State} {args : Array Value} (hts : ∀ w ∈ wsL_law, w.before args s = true) (hR : rm_X6_become.frames + 1 ≤ R.frames ∧ 8 + (2 + 11) + rm_X6_become.locals ≤ R.locals) : CallW R s args RX7 RX6 72 yX6_become cX6_become 2 none ws_X6_become rm_X6_become rm_X6_become.cells rm_X6_become.slots 1 := cwV 1 hts (gdV w_36_12 w_36_13 w_36_14 w_3_11 w_36_15) rfl rfl rfl (by decide +kernel) hR
theorem cw_RX7_76 {R : Room} {s : State} {args : Array Value} (hts : ∀ w ∈ wsL_law, w.before args s = true) (hR : rm_X2_become.frames + 1 ≤ R.frames ∧ 8 + (2 + 11) + rm_X2_become.locals ≤ R.locals) : CallW R s args RX7 RX2 76 yX2_become cX2_become 2 none ws_X2_become rm_X2_become rm_X2_become.cells rm_X2_become.slots 1 := cwV 1 hts (gdV w_36_17 w_36_18 w_36_19 w_3_15 w_36_20) rfl rfl rfl (by decide +kernel) hR
def wp_X7_become (st : St) (post : St → Prop) : Prop := ∀ x1 : Int32, x1 = gI st 101 → (wp_X6_become (sI (sA (sA (sA st 1 (va_cpy (gA st 101) (gA st 1) (0 : Int32).toNatClampNeg (0 : Int32).toNatClampNeg (5 : Int32).toNatClampNeg)) 6 (va_cpy (gA st 106) (gA st 6) (0 : Int32).toNatClampNeg (0 : Int32).toNatClampNeg (8 : Int32).toNatClampNeg)) 7 (va_cpy (gA st 107) (gA st 7) (0 : Int32).toNatClampNeg (0 : Int32).toNatClampNeg (8 : Int32).toNatClampNeg)) 1 x1) (fun t4 => wp_X2_become t4 (fun t6 => post t6)))
set_option maxHeartbeats 4000000 in
set_option maxRecDepth 100000 in
theorem c_X7_become (l : Launch) (D : va_G) (cy : Nat → ClassId) (tz : Nat → Nat) (ad : Nat → Nat) (st : St) (post : St → Prop) (h : wp_X7_become st post) : CtV l D cy tz yX7_become ws_X7_become rm_X7_become [.ref (ad 3), .ref (ad 103)] (wP cy ad st) (wP cy ad) post := by
  refine CtV.of (own := RX7) (nm := "become") (lv := [(0, .ref (ad 3)), (1, .ref (ad 103))]) (plainFor_of_name (by decide)) rfl rfl (Nat.le_of_ble_eq_true rfl) rfl ?_
  intro p e s m args below meth c A Q ls B hP hD hS hl hret
  obtain ⟨hx, hb, hml, hown, hts, hK, hZ, hA, hnm⟩ := B
  have SF : CallFix p m c cX7_become 2 s args wsL_law RX7 := ⟨hx, hb, hml, hown, hts⟩
  unfold wp_X7_become at h
  refine lv_aload_n hx hb dX7_become_0 rfl (lv_at hl 1 rfl) ?_
  refine va_get (D := D) (ci := 7) (v := .ref (ad 104)) (C := RX7) (T := TX7) (N := 6) hx hb hts inlX7 hown hK hP 10 rfl rfl 0 (by decide) (hts _ w_3_8) (fun _ h9 => h9) rfl dX7_become_1 ?_
  refine lv_iconst (v := 0) hx hb dX7_become_4 (by decide) ?_
  refine lv_aload_n hx hb dX7_become_5 rfl (lv_at hl 0 rfl) ?_
  refine va_get (D := D) (ci := 7) (v := .ref (ad 4)) (C := RX7) (T := TX7) (N := 6) hx hb hts inlX7 hown hK hP 0 rfl rfl 0 (by decide) (hts _ w_3_8) (fun _ h9 => h9) rfl dX7_become_6 ?_
  refine lv_iconst (v := 0) hx hb dX7_become_9 (by decide) ?_
  refine lv_iconst (v := 5) hx hb dX7_become_10 (by decide) ?_
  refine va_copyi (f := gA st 101) (g := gA st 1) (n0 := 5) (n1 := 5) (ty := .int) hx hb (hml.trans hl.1.symm) hown (hts _ w_36_8) (hts _ w_36_9) (hts _ w_36_10) (hts _ w_36_11) hK hP hD hS 11 1 0 0 rfl rfl rfl rfl rfl (by decide) (by decide) (by decide) (by decide +kernel) (by decide +kernel) (fun _ _ => rfl) (Nat.le_of_ble_eq_true rfl) (Nat.le_of_ble_eq_true rfl) dX7_become_11 (fun H locs hP hD hS => ?_)
  have hP : va_P D vwCl (wP cy ad (sA st 1 (va_cpy (gA st 101) (gA st 1) (0 : Int32).toNatClampNeg (0 : Int32).toNatClampNeg (5 : Int32).toNatClampNeg))) H := hP
  have hD : va_D A (wP cy ad (sA st 1 (va_cpy (gA st 101) (gA st 1) (0 : Int32).toNatClampNeg (0 : Int32).toNatClampNeg (5 : Int32).toNatClampNeg))) := hD
  refine lv_aload_n hx hb dX7_become_14 rfl (lv_at hl 1 rfl) ?_
  refine va_get (D := D) (ci := 7) (v := .ref (ad 111)) (C := RX7) (T := TX7) (N := 6) hx hb hts inlX7 hown hK hP 10 rfl rfl 3 (by decide) (hts _ w_3_17) (fun _ h9 => h9) rfl dX7_become_15 ?_
  refine lv_iconst (v := 0) hx hb dX7_become_18 (by decide) ?_
  refine lv_aload_n hx hb dX7_become_19 rfl (lv_at hl 0 rfl) ?_
  refine va_get (D := D) (ci := 7) (v := .ref (ad 11)) (C := RX7) (T := TX7) (N := 6) hx hb hts inlX7 hown hK hP 0 rfl rfl 3 (by decide) (hts _ w_3_17) (fun _ h9 => h9) rfl dX7_become_20 ?_
  refine lv_iconst (v := 0) hx hb dX7_become_23 (by decide) ?_
  refine lv_bipush (v := 8) hx hb dX7_become_24 (by decide) ?_
  refine va_copyi (f := gA st 106) (g := gA st 6) (n0 := 8) (n1 := 8) (ty := .int) hx hb (hml.trans hl.1.symm) hown (hts _ w_36_8) (hts _ w_36_9) (hts _ w_36_10) (hts _ w_36_11) hK hP hD hS 18 8 0 0 rfl rfl rfl rfl rfl (by decide) (by decide) (by decide) (by decide +kernel) (by decide +kernel) (fun _ _ => rfl) (Nat.le_of_ble_eq_true rfl) (Nat.le_of_ble_eq_true rfl) dX7_become_26 (fun H locs hP hD hS => ?_)
  have hP : va_P D vwCl (wP cy ad (sA (sA st 1 (va_cpy (gA st 101) (gA st 1) (0 : Int32).toNatClampNeg (0 : Int32).toNatClampNeg (5 : Int32).toNatClampNeg)) 6 (va_cpy (gA st 106) (gA st 6) (0 : Int32).toNatClampNeg (0 : Int32).toNatClampNeg (8 : Int32).toNatClampNeg))) H := hP
  have hD : va_D A (wP cy ad (sA (sA st 1 (va_cpy (gA st 101) (gA st 1) (0 : Int32).toNatClampNeg (0 : Int32).toNatClampNeg (5 : Int32).toNatClampNeg)) 6 (va_cpy (gA st 106) (gA st 6) (0 : Int32).toNatClampNeg (0 : Int32).toNatClampNeg (8 : Int32).toNatClampNeg))) := hD
  refine lv_aload_n hx hb dX7_become_29 rfl (lv_at hl 1 rfl) ?_
  refine va_get (D := D) (ci := 7) (v := .ref (ad 112)) (C := RX7) (T := TX7) (N := 6) hx hb hts inlX7 hown hK hP 10 rfl rfl 4 (by decide) (hts _ w_3_18) (fun _ h9 => h9) rfl dX7_become_30 ?_
  refine lv_iconst (v := 0) hx hb dX7_become_33 (by decide) ?_
  refine lv_aload_n hx hb dX7_become_34 rfl (lv_at hl 0 rfl) ?_
  refine va_get (D := D) (ci := 7) (v := .ref (ad 12)) (C := RX7) (T := TX7) (N := 6) hx hb hts inlX7 hown hK hP 0 rfl rfl 4 (by decide) (hts _ w_3_18) (fun _ h9 => h9) rfl dX7_become_35 ?_
  refine lv_iconst (v := 0) hx hb dX7_become_38 (by decide) ?_
  refine lv_bipush (v := 8) hx hb dX7_become_39 (by decide) ?_
  refine va_copyi (f := gA st 107) (g := gA st 7) (n0 := 8) (n1 := 8) (ty := .int) hx hb (hml.trans hl.1.symm) hown (hts _ w_36_8) (hts _ w_36_9) (hts _ w_36_10) (hts _ w_36_11) hK hP hD hS 19 9 0 0 rfl rfl rfl rfl rfl (by decide) (by decide) (by decide) (by decide +kernel) (by decide +kernel) (fun _ _ => rfl) (Nat.le_of_ble_eq_true rfl) (Nat.le_of_ble_eq_true rfl) dX7_become_41 (fun H locs hP hD hS => ?_)
  have hP : va_P D vwCl (wP cy ad (sA (sA (sA st 1 (va_cpy (gA st 101) (gA st 1) (0 : Int32).toNatClampNeg (0 : Int32).toNatClampNeg (5 : Int32).toNatClampNeg)) 6 (va_cpy (gA st 106) (gA st 6) (0 : Int32).toNatClampNeg (0 : Int32).toNatClampNeg (8 : Int32).toNatClampNeg)) 7 (va_cpy (gA st 107) (gA st 7) (0 : Int32).toNatClampNeg (0 : Int32).toNatClampNeg (8 : Int32).toNatClampNeg))) H := hP
  have hD : va_D A (wP cy ad (sA (sA (sA st 1 (va_cpy (gA st 101) (gA st 1) (0 : Int32).toNatClampNeg (0 : Int32).toNatClampNeg (5 : Int32).toNatClampNeg)) 6 (va_cpy (gA st 106) (gA st 6) (0 : Int32).toNatClampNeg (0 : Int32).toNatClampNeg (8 : Int32).toNatClampNeg)) 7 (va_cpy (gA st 107) (gA st 7) (0 : Int32).toNatClampNeg (0 : Int32).toNatClampNeg (8 : Int32).toNatClampNeg))) := hD
  refine lv_aload_n hx hb dX7_become_44 rfl (lv_at hl 0 rfl) ?_
  refine lv_aload_n hx hb dX7_become_45 rfl (lv_at hl 1 rfl) ?_
  refine va_get (D := D) (ci := 7) (v := .int (gI st 101)) (C := RX7) (T := TX7) (N := 6) hx hb hts inlX7 hown hK hP 10 rfl rfl 5 (by decide) (hts _ w_13_4) (fun _ h9 => h9) rfl dX7_become_46 ?_
  refine lv_topi (fun x1 e2 => ?_)
  have h := h x1 e2
  refine va_put (D := D) (ci := 7) (v := .int x1) (ty := .int) (C := RX7) (T := TX7) (N := 6) hx hb hts inlX7 tyX7 tyX7_ok nmX7 hown hK hP hD hS 0 rfl rfl 5 (by decide) (hts _ w_13_4) (fun _ h9 => h9) rfl (by decide +kernel) rfl rfl (Nat.le_of_ble_eq_true rfl) dX7_become_49 (fun H locs hP hD hS => ?_)
  have hP : va_P D vwCl (wP cy ad (sI (sA (sA (sA st 1 (va_cpy (gA st 101) (gA st 1) (0 : Int32).toNatClampNeg (0 : Int32).toNatClampNeg (5 : Int32).toNatClampNeg)) 6 (va_cpy (gA st 106) (gA st 6) (0 : Int32).toNatClampNeg (0 : Int32).toNatClampNeg (8 : Int32).toNatClampNeg)) 7 (va_cpy (gA st 107) (gA st 7) (0 : Int32).toNatClampNeg (0 : Int32).toNatClampNeg (8 : Int32).toNatClampNeg)) 1 x1)) H := hP
  have hD : va_D A (wP cy ad (sI (sA (sA (sA st 1 (va_cpy (gA st 101) (gA st 1) (0 : Int32).toNatClampNeg (0 : Int32).toNatClampNeg (5 : Int32).toNatClampNeg)) 6 (va_cpy (gA st 106) (gA st 6) (0 : Int32).toNatClampNeg (0 : Int32).toNatClampNeg (8 : Int32).toNatClampNeg)) 7 (va_cpy (gA st 107) (gA st 7) (0 : Int32).toNatClampNeg (0 : Int32).toNatClampNeg (8 : Int32).toNatClampNeg)) 1 x1)) := hD
  refine lv_aload_n hx hb dX7_become_52 rfl (lv_at hl 0 rfl) ?_
  refine va_get (D := D) (ci := 7) (v := .ref (ad 5)) (C := RX7) (T := TX7) (N := 6) hx hb hts inlX7 hown hK hP 0 rfl rfl 1 (by decide) (hts _ w_3_12) (fun _ h9 => h9) rfl dX7_become_53 ?_
  refine lv_aload_n hx hb dX7_become_56 rfl (lv_at hl 1 rfl) ?_
  refine va_get (D := D) (ci := 7) (v := .ref (ad 105)) (C := RX7) (T := TX7) (N := 6) hx hb hts inlX7 hown hK hP 10 rfl rfl 1 (by decide) (hts _ w_3_12) (fun _ h9 => h9) rfl dX7_become_57 ?_
  refine callVV (rest := []) SF (c_X6_become l D cy tz ad (sI (sA (sA (sA st 1 (va_cpy (gA st 101) (gA st 1) (0 : Int32).toNatClampNeg (0 : Int32).toNatClampNeg (5 : Int32).toNatClampNeg)) 6 (va_cpy (gA st 106) (gA st 6) (0 : Int32).toNatClampNeg (0 : Int32).toNatClampNeg (8 : Int32).toNatClampNeg)) 7 (va_cpy (gA st 107) (gA st 7) (0 : Int32).toNatClampNeg (0 : Int32).toNatClampNeg (8 : Int32).toNatClampNeg)) 1 x1) _ h) (cw_RX7_72 hts ⟨Nat.le_of_ble_eq_true rfl, Nat.le_of_ble_eq_true rfl⟩) rfl rfl (va_recv hK hP (ci := 6) (q0 := 2) rfl rfl) hK hZ hA hP hD hS rfl hl.1 rfl (Nat.le_of_ble_eq_true rfl) dX7_become_60 ⟨Nat.zero_le _, Nat.zero_le _⟩ (fun t4 H locs h hP hD hS => ?_)
  refine lv_aload_n hx hb dX7_become_63 rfl (lv_at hl 0 rfl) ?_
  refine va_get (D := D) (ci := 7) (v := .ref (ad 8)) (C := RX7) (T := TX7) (N := 6) hx hb hts inlX7 hown hK hP 0 rfl rfl 2 (by decide) (hts _ w_3_16) (fun _ h9 => h9) rfl dX7_become_64 ?_
  refine lv_aload_n hx hb dX7_become_67 rfl (lv_at hl 1 rfl) ?_
  refine va_get (D := D) (ci := 7) (v := .ref (ad 108)) (C := RX7) (T := TX7) (N := 6) hx hb hts inlX7 hown hK hP 10 rfl rfl 2 (by decide) (hts _ w_3_16) (fun _ h9 => h9) rfl dX7_become_68 ?_
  refine callVV (rest := []) SF (c_X2_become l D cy tz ad t4 _ h) (cw_RX7_76 hts ⟨Nat.le_of_ble_eq_true rfl, Nat.le_of_ble_eq_true rfl⟩) rfl rfl (va_recv hK hP (ci := 2) (q0 := 5) rfl rfl) hK hZ hA hP hD hS rfl hl.1 rfl (Nat.le_of_ble_eq_true rfl) dX7_become_71 ⟨Nat.zero_le _, Nat.zero_le _⟩ (fun t6 H locs h hP hD hS => ?_)
  exact hret _ _ _ _ _ h hP hD hS dX7_become_74
