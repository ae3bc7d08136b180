-- X11_lies
def rm_X11_lies : Room := { frames := 2, cells := 0, slots := 0, locals := 47 }
abbrev ws_X11_lies : List Cond := .code yX11_lies cX11_lies 4 (some .boolean) :: wsL_law
theorem cw_RX11_198 {R : Room} {s : State} {args : Array Value} (hts : ∀ w ∈ wsL_law, w.before args s = true) (hR : rm_X11_isBetween.frames + 1 ≤ R.frames ∧ 8 + (3 + 11) + rm_X11_isBetween.locals ≤ R.locals) : CallB R s args RX11 198 yX11_isBetween cX11_isBetween 3 (some .boolean) ws_X11_isBetween rm_X11_isBetween rm_X11_isBetween.cells rm_X11_isBetween.slots 3 ∧ (Cond.static yX11_isBetween).before args s = true := va_cwS 3 hts (gdS w_25_5 w_25_6 w_1_5 w_25_7) rfl rfl rfl (by decide +kernel) hR
def wp_X11_lies (st : St) (a1 : Int32) (a2 : Int32) (a3 : Int32) (post : Int32 → Prop) : Prop := vp_in a1 21 ∧ (vp_in a2 21 ∧ (vp_in a3 21 ∧ (wp_X11_isBetween (gA st 20 a1.toNatClampNeg) (gA st 20 a2.toNatClampNeg) (gA st 20 a3.toNatClampNeg) (fun r1 => ((r1 = 0) → (post 0)) ∧ ((¬ r1 = 0) → (vp_in a1 21 ∧ (vp_in a2 21 ∧ (vp_in a3 21 ∧ (wp_X11_isBetween (gA st 21 a1.toNatClampNeg) (gA st 21 a2.toNatClampNeg) (gA st 21 a3.toNatClampNeg) (fun r4 => ((r4 = 0) → (post 0)) ∧ ((¬ r4 = 0) → (post 1))))))))))))
set_option maxHeartbeats 4000000 in
set_option maxRecDepth 100000 in
theorem c_X11_lies (l : Launch) (D : va_G) (cy : Nat → ClassId) (tz : Nat → Nat) (ad : Nat → Nat) (st : St) (a1 : Int32) (a2 : Int32) (a3 : Int32) (post : Int32 → Prop) (h : wp_X11_lies st a1 a2 a3 post) : CtI l D cy tz yX11_lies ws_X11_lies rm_X11_lies [.ref (ad 0), .int a1, .int a2, .int a3] (wM cy ad st) (fun _ : Unit => wM cy ad st) (fun r _ => post r) := by
  refine CtI.of (own := RX11) (nm := "lies") (lv := [(0, .ref (ad 0)), (1, .int a1), (2, .int a2), (3, .int a3)]) (plainFor_of_name (by decide)) rfl rfl (Nat.le_of_ble_eq_true rfl) rfl ?_
  intro p e s m args below meth c A Q ls B hP hD hS hl hret
  obtain ⟨hx, hb, hml, hown, hts, hK, hZ, hA, hnm⟩ := B
  have SF : CallFix p m c cX11_lies 4 s args wsL_law RX11 := ⟨hx, hb, hml, hown, hts⟩
  unfold wp_X11_lies at h
  refine lv_aload_n hx hb dX11_lies_0 rfl (lv_at hl 0 rfl) ?_
  refine va_get (D := D) (ci := 10) (v := .ref (ad 11)) (C := RX11) (T := TX11) (N := 35) hx hb hts inlX11 hown hK hP 0 rfl rfl 20 (by decide) (hts _ w_5_17) (fun _ h9 => h9) rfl dX11_lies_1 ?_
  refine lv_iload_n hx hb dX11_lies_4 rfl (lv_at hl 1 rfl) ?_
  refine va_iald (f := gA st 20) (n := 21) hx hb hK hP 11 0 rfl rfl h.1 dX11_lies_5 ?_
  have h := h.2
  refine lv_aload_n hx hb dX11_lies_6 rfl (lv_at hl 0 rfl) ?_
  refine va_get (D := D) (ci := 10) (v := .ref (ad 11)) (C := RX11) (T := TX11) (N := 35) hx hb hts inlX11 hown hK hP 0 rfl rfl 20 (by decide) (hts _ w_5_17) (fun _ h9 => h9) rfl dX11_lies_7 ?_
  refine lv_iload_n hx hb dX11_lies_10 rfl (lv_at hl 2 rfl) ?_
  refine va_iald (f := gA st 20) (n := 21) hx hb hK hP 11 0 rfl rfl h.1 dX11_lies_11 ?_
  have h := h.2
  refine lv_aload_n hx hb dX11_lies_12 rfl (lv_at hl 0 rfl) ?_
  refine va_get (D := D) (ci := 10) (v := .ref (ad 11)) (C := RX11) (T := TX11) (N := 35) hx hb hts inlX11 hown hK hP 0 rfl rfl 20 (by decide) (hts _ w_5_17) (fun _ h9 => h9) rfl dX11_lies_13 ?_
  refine lv_iload_n hx hb dX11_lies_16 rfl (lv_at hl 3 rfl) ?_
  refine va_iald (f := gA st 20) (n := 21) hx hb hK hP 11 0 rfl rfl h.1 dX11_lies_17 ?_
  have h := h.2
  refine callSIr (rest := []) SF (c_X11_isBetween l D cy tz _ (gA st 20 a1.toNatClampNeg) (gA st 20 a2.toNatClampNeg) (gA st 20 a3.toNatClampNeg) _ h) (cw_RX11_198 hts ⟨Nat.le_of_ble_eq_true rfl, Nat.le_of_ble_eq_true rfl⟩) rfl rfl hK hZ hA hP hD hS rfl hl.1 rfl (Nat.le_of_ble_eq_true rfl) dX11_lies_18 ⟨Nat.zero_le _, Nat.zero_le _⟩ (fun r1 H locs h hP hD hS => ?_)
  refine lv_if_eq (tgt := 52) hx hb dX11_lies_21 (by decide) (fun c3 => ?_) (fun c3 => ?_)
  · have h := h.1 c3
    refine lv_iconst (v := 0) hx hb dX11_lies_52 (by decide) ?_
    exact hret _ () _ _ _ _ rfl h hP hD hS dX11_lies_53
  · have h := h.2 c3
    refine lv_aload_n hx hb dX11_lies_24 rfl (lv_at hl 0 rfl) ?_
    refine va_get (D := D) (ci := 10) (v := .ref (ad 12)) (C := RX11) (T := TX11) (N := 35) hx hb hts inlX11 hown hK hP 0 rfl rfl 21 (by decide) (hts _ w_5_18) (fun _ h9 => h9) rfl dX11_lies_25 ?_
    refine lv_iload_n hx hb dX11_lies_28 rfl (lv_at hl 1 rfl) ?_
    refine va_iald (f := gA st 21) (n := 21) hx hb hK hP 12 0 rfl rfl h.1 dX11_lies_29 ?_
    have h := h.2
    refine lv_aload_n hx hb dX11_lies_30 rfl (lv_at hl 0 rfl) ?_
    refine va_get (D := D) (ci := 10) (v := .ref (ad 12)) (C := RX11) (T := TX11) (N := 35) hx hb hts inlX11 hown hK hP 0 rfl rfl 21 (by decide) (hts _ w_5_18) (fun _ h9 => h9) rfl dX11_lies_31 ?_
    refine lv_iload_n hx hb dX11_lies_34 rfl (lv_at hl 2 rfl) ?_
    refine va_iald (f := gA st 21) (n := 21) hx hb hK hP 12 0 rfl rfl h.1 dX11_lies_35 ?_
    have h := h.2
    refine lv_aload_n hx hb dX11_lies_36 rfl (lv_at hl 0 rfl) ?_
    refine va_get (D := D) (ci := 10) (v := .ref (ad 12)) (C := RX11) (T := TX11) (N := 35) hx hb hts inlX11 hown hK hP 0 rfl rfl 21 (by decide) (hts _ w_5_18) (fun _ h9 => h9) rfl dX11_lies_37 ?_
    refine lv_iload_n hx hb dX11_lies_40 rfl (lv_at hl 3 rfl) ?_
    refine va_iald (f := gA st 21) (n := 21) hx hb hK hP 12 0 rfl rfl h.1 dX11_lies_41 ?_
    have h := h.2
    refine callSIr (rest := []) SF (c_X11_isBetween l D cy tz _ (gA st 21 a1.toNatClampNeg) (gA st 21 a2.toNatClampNeg) (gA st 21 a3.toNatClampNeg) _ h) (cw_RX11_198 hts ⟨Nat.le_of_ble_eq_true rfl, Nat.le_of_ble_eq_true rfl⟩) rfl rfl hK hZ hA hP hD hS rfl hl.1 rfl (Nat.le_of_ble_eq_true rfl) dX11_lies_42 ⟨Nat.zero_le _, Nat.zero_le _⟩ (fun r4 H locs h hP hD hS => ?_)
    refine lv_if_eq (tgt := 52) hx hb dX11_lies_45 (by decide) (fun c6 => ?_) (fun c6 => ?_)
    · have h := h.1 c6
      refine lv_iconst (v := 0) hx hb dX11_lies_52 (by decide) ?_
      exact hret _ () _ _ _ _ rfl h hP hD hS dX11_lies_53
    · have h := h.2 c6
      refine lv_iconst (v := 1) hx hb dX11_lies_48 (by decide) ?_
      refine lv_goto (tgt := 53) hx hb dX11_lies_49 (by decide) ?_
      exact hret _ () _ _ _ _ rfl h hP hD hS dX11_lies_53
-- X11_meet
def rm_X11_meet : Room := { frames := 3, cells := 0, slots := 0, locals := 70 }
abbrev ws_X11_meet : List Cond := .code yX11_meet cX11_meet 9 (some .boolean) :: wsL_law
theorem cw_RX11_202 {R : Room} {s : State} {args : Array Value} (hts : ∀ w ∈ wsL_law, w.before args s = true) (hR : rm_X11_side.frames + 1 ≤ R.frames ∧ 8 + (6 + 11) + rm_X11_side.locals ≤ R.locals) : CallW R s args RX11 RX11 202 yX11_side cX11_side 6 (some .int) ws_X11_side rm_X11_side rm_X11_side.cells rm_X11_side.slots 3 := cwV 3 hts (gdV w_24_21 w_24_22 w_24_23 w_1_5 w_25_0) rfl rfl rfl (by decide +kernel) hR
theorem cw_RX11_206 {R : Room} {s : State} {args : Array Value} (hts : ∀ w ∈ wsL_law, w.before args s = true) (hR : rm_X11_lies.frames + 1 ≤ R.frames ∧ 8 + (4 + 11) + rm_X11_lies.locals ≤ R.locals) : CallW R s args RX11 RX11 206 yX11_lies cX11_lies 4 (some .boolean) ws_X11_lies rm_X11_lies rm_X11_lies.cells rm_X11_lies.slots 3 := cwV 3 hts (gdV w_25_1 w_25_2 w_25_3 w_1_5 w_25_4) rfl rfl rfl (by decide +kernel) hR
def wp_X11_meet (st : St) (a1 : Int32) (a2 : Int32) (post : Int32 → Prop) : Prop := ∀ x1 : Int32, x1 = (a1 + 1) → (∀ x3 : Int32, x3 = (a2 + 1) → (wp_X11_side st a1 x1 a2 (fun r5 => wp_X11_side st a1 x1 x3 (fun r7 => wp_X11_side st a2 x3 a1 (fun r9 => wp_X11_side st a2 x3 x1 (fun r11 => ((r5 = r7) → (((¬ r5 = 0) → (((¬ r7 = 0) → (((¬ r9 = 0) → (((¬ r11 = 0) → (post 0)) ∧ ((r11 = 0) → (wp_X11_lies st x1 a2 x3 (fun r18 => ((r18 = 0) → (post 0)) ∧ ((¬ r18 = 0) → (post 1))))))) ∧ ((r9 = 0) → (wp_X11_lies st a1 a2 x3 (fun r21 => ((¬ r21 = 0) → (post 1)) ∧ ((r21 = 0) → (((¬ r11 = 0) → (post 0)) ∧ ((r11 = 0) → (wp_X11_lies st x1 a2 x3 (fun r25 => ((r25 = 0) → (post 0)) ∧ ((¬ r25 = 0) → (post 1)))))))))))) ∧ ((r7 = 0) → (wp_X11_lies st x3 a1 x1 (fun r28 => ((¬ r28 = 0) → (post 1)) ∧ ((r28 = 0) → (((¬ r9 = 0) → (((¬ r11 = 0) → (post 0)) ∧ ((r11 = 0) → (wp_X11_lies st x1 a2 x3 (fun r33 => ((r33 = 0) → (post 0)) ∧ ((¬ r33 = 0) → (post 1))))))) ∧ ((r9 = 0) → (wp_X11_lies st a1 a2 x3 (fun r36 => ((¬ r36 = 0) → (post 1)) ∧ ((r36 = 0) → (((¬ r11 = 0) → (post 0)) ∧ ((r11 = 0) → (wp_X11_lies st x1 a2 x3 (fun r40 => ((r40 = 0) → (post 0)) ∧ ((¬ r40 = 0) → (post 1))))))))))))))))) ∧ ((r5 = 0) → (wp_X11_lies st a2 a1 x1 (fun r43 => ((¬ r43 = 0) → (post 1)) ∧ ((r43 = 0) → (((¬ r7 = 0) → (((¬ r9 = 0) → (((¬ r11 = 0) → (post 0)) ∧ ((r11 = 0) → (wp_X11_lies st x1 a2 x3 (fun r49 => ((r49 = 0) → (post 0)) ∧ ((¬ r49 = 0) → (post 1))))))) ∧ ((r9 = 0) → (wp_X11_lies st a1 a2 x3 (fun r52 => ((¬ r52 = 0) → (post 1)) ∧ ((r52 = 0) → (((¬ r11 = 0) → (post 0)) ∧ ((r11 = 0) → (wp_X11_lies st x1 a2 x3 (fun r56 => ((r56 = 0) → (post 0)) ∧ ((¬ r56 = 0) → (post 1)))))))))))) ∧ ((r7 = 0) → (wp_X11_lies st x3 a1 x1 (fun r59 => ((¬ r59 = 0) → (post 1)) ∧ ((r59 = 0) → (((¬ r9 = 0) → (((¬ r11 = 0) → (post 0)) ∧ ((r11 = 0) → (wp_X11_lies st x1 a2 x3 (fun r64 => ((r64 = 0) → (post 0)) ∧ ((¬ r64 = 0) → (post 1))))))) ∧ ((r9 = 0) → (wp_X11_lies st a1 a2 x3 (fun r67 => ((¬ r67 = 0) → (post 1)) ∧ ((r67 = 0) → (((¬ r11 = 0) → (post 0)) ∧ ((r11 = 0) → (wp_X11_lies st x1 a2 x3 (fun r71 => ((r71 = 0) → (post 0)) ∧ ((¬ r71 = 0) → (post 1)))))))))))))))))))))) ∧ ((¬ r5 = r7) → (((r9 = r11) → (((¬ r5 = 0) → (((¬ r7 = 0) → (((¬ r9 = 0) → (((¬ r11 = 0) → (post 0)) ∧ ((r11 = 0) → (wp_X11_lies st x1 a2 x3 (fun r79 => ((r79 = 0) → (post 0)) ∧ ((¬ r79 = 0) → (post 1))))))) ∧ ((r9 = 0) → (wp_X11_lies st a1 a2 x3 (fun r82 => ((¬ r82 = 0) → (post 1)) ∧ ((r82 = 0) → (((¬ r11 = 0) → (post 0)) ∧ ((r11 = 0) → (wp_X11_lies st x1 a2 x3 (fun r86 => ((r86 = 0) → (post 0)) ∧ ((¬ r86 = 0) → (post 1)))))))))))) ∧ ((r7 = 0) → (wp_X11_lies st x3 a1 x1 (fun r89 => ((¬ r89 = 0) → (post 1)) ∧ ((r89 = 0) → (((¬ r9 = 0) → (((¬ r11 = 0) → (post 0)) ∧ ((r11 = 0) → (wp_X11_lies st x1 a2 x3 (fun r94 => ((r94 = 0) → (post 0)) ∧ ((¬ r94 = 0) → (post 1))))))) ∧ ((r9 = 0) → (wp_X11_lies st a1 a2 x3 (fun r97 => ((¬ r97 = 0) → (post 1)) ∧ ((r97 = 0) → (((¬ r11 = 0) → (post 0)) ∧ ((r11 = 0) → (wp_X11_lies st x1 a2 x3 (fun r101 => ((r101 = 0) → (post 0)) ∧ ((¬ r101 = 0) → (post 1))))))))))))))))) ∧ ((r5 = 0) → (wp_X11_lies st a2 a1 x1 (fun r104 => ((¬ r104 = 0) → (post 1)) ∧ ((r104 = 0) → (((¬ r7 = 0) → (((¬ r9 = 0) → (((¬ r11 = 0) → (post 0)) ∧ ((r11 = 0) → (wp_X11_lies st x1 a2 x3 (fun r110 => ((r110 = 0) → (post 0)) ∧ ((¬ r110 = 0) → (post 1))))))) ∧ ((r9 = 0) → (wp_X11_lies st a1 a2 x3 (fun r113 => ((¬ r113 = 0) → (post 1)) ∧ ((r113 = 0) → (((¬ r11 = 0) → (post 0)) ∧ ((r11 = 0) → (wp_X11_lies st x1 a2 x3 (fun r117 => ((r117 = 0) → (post 0)) ∧ ((¬ r117 = 0) → (post 1)))))))))))) ∧ ((r7 = 0) → (wp_X11_lies st x3 a1 x1 (fun r120 => ((¬ r120 = 0) → (post 1)) ∧ ((r120 = 0) → (((¬ r9 = 0) → (((¬ r11 = 0) → (post 0)) ∧ ((r11 = 0) → (wp_X11_lies st x1 a2 x3 (fun r125 => ((r125 = 0) → (post 0)) ∧ ((¬ r125 = 0) → (post 1))))))) ∧ ((r9 = 0) → (wp_X11_lies st a1 a2 x3 (fun r128 => ((¬ r128 = 0) → (post 1)) ∧ ((r128 = 0) → (((¬ r11 = 0) → (post 0)) ∧ ((r11 = 0) → (wp_X11_lies st x1 a2 x3 (fun r132 => ((r132 = 0) → (post 0)) ∧ ((¬ r132 = 0) → (post 1)))))))))))))))))))))) ∧ ((¬ r9 = r11) → (post 1))))))))))
set_option maxHeartbeats 4000000 in
set_option maxRecDepth 100000 in
theorem c_X11_meet (l : Launch) (D : va_G) (cy : Nat → ClassId) (tz : Nat → Nat) (ad : Nat → Nat) (st : St) (a1 : Int32) (a2 : Int32) (post : Int32 → Prop) (h : wp_X11_meet st a1 a2 post) : CtI l D cy tz yX11_meet ws_X11_meet rm_X11_meet [.ref (ad 0), .int a1, .int a2] (wM cy ad st) (fun _ : Unit => wM cy ad st) (fun r _ => post r) := by
  refine CtI.of (own := RX11) (nm := "meet") (lv := [(0, .ref (ad 0)), (1, .int a1), (2, .int a2)]) (plainFor_of_name (by decide)) rfl rfl (Nat.le_of_ble_eq_true rfl) rfl ?_
  intro p e s m args below meth c A Q ls B hP hD hS hl hret
  obtain ⟨hx, hb, hml, hown, hts, hK, hZ, hA, hnm⟩ := B
  have SF : CallFix p m c cX11_meet 9 s args wsL_law RX11 := ⟨hx, hb, hml, hown, hts⟩
  unfold wp_X11_meet at h
  refine lv_iload_n hx hb dX11_meet_0 rfl (lv_at hl 1 rfl) ?_
  refine lv_iconst (v := 1) hx hb dX11_meet_1 (by decide) ?_
  refine lv_iadd hx hb dX11_meet_2 ?_
  refine lv_topi (fun x1 e2 => ?_)
  have h := h x1 e2
  refine lv_istore_n (lv' := [(3, .int x1), (0, .ref (ad 0)), (1, .int a1), (2, .int a2)]) hx hb dX11_meet_3 rfl hl (by decide) rfl (fun ls hl => ?_)
  refine lv_iload_n hx hb dX11_meet_4 rfl (lv_at hl 3 rfl) ?_
  refine lv_iconst (v := 1) hx hb dX11_meet_5 (by decide) ?_
  refine lv_iadd hx hb dX11_meet_6 ?_
  refine lv_topi (fun x3 e4 => ?_)
  have h := h x3 e4
  refine lv_istore (lv' := [(4, .int x3), (3, .int x1), (0, .ref (ad 0)), (1, .int a1), (2, .int a2)]) hx hb dX11_meet_7 hl (by decide) rfl (fun ls hl => ?_)
  refine lv_aload_n hx hb dX11_meet_9 rfl (lv_at hl 2 rfl) ?_
  refine lv_iload_n hx hb dX11_meet_10 rfl (lv_at hl 3 rfl) ?_
  refine lv_iload_n hx hb dX11_meet_11 rfl (lv_at hl 1 rfl) ?_
  refine lv_iload_n hx hb dX11_meet_12 rfl (lv_at hl 4 rfl) ?_
  refine callVIr (rest := []) SF (c_X11_side l D cy tz ad st a1 x1 a2 _ h) (cw_RX11_202 hts ⟨Nat.le_of_ble_eq_true rfl, Nat.le_of_ble_eq_true rfl⟩) rfl rfl (va_recv hK hP (ci := 10) (q0 := 0) rfl rfl) hK hZ hA hP hD hS rfl hl.1 rfl (Nat.le_of_ble_eq_true rfl) dX11_meet_13 ⟨Nat.zero_le _, Nat.zero_le _⟩ (fun r5 H locs h hP hD hS => ?_)
  refine lv_istore (lv' := [(5, .int r5), (4, .int x3), (3, .int x1), (0, .ref (ad 0)), (1, .int a1), (2, .int a2)]) hx hb dX11_meet_16 hl (by decide) rfl (fun ls hl => ?_)
  refine lv_aload_n hx hb dX11_meet_18 rfl (lv_at hl 3 rfl) ?_
  refine lv_iload_n hx hb dX11_meet_19 rfl (lv_at hl 4 rfl) ?_
  refine lv_iload_n hx hb dX11_meet_20 rfl (lv_at hl 2 rfl) ?_
  refine lv_iload hx hb dX11_meet_21 (lv_at hl 1 rfl) ?_
  refine callVIr (rest := []) SF (c_X11_side l D cy tz ad st a1 x1 x3 _ h) (cw_RX11_202 hts ⟨Nat.le_of_ble_eq_true rfl, Nat.le_of_ble_eq_true rfl⟩) rfl rfl (va_recv hK hP (ci := 10) (q0 := 0) rfl rfl) hK hZ hA hP hD hS rfl hl.1 rfl (Nat.le_of_ble_eq_true rfl) dX11_meet_23 ⟨Nat.zero_le _, Nat.zero_le _⟩ (fun r7 H locs h hP hD hS => ?_)
  refine lv_istore (lv' := [(6, .int r7), (5, .int r5), (4, .int x3), (3, .int x1), (0, .ref (ad 0)), (1, .int a1), (2, .int a2)]) hx hb dX11_meet_26 hl (by decide) rfl (fun ls hl => ?_)
  refine lv_aload_n hx hb dX11_meet_28 rfl (lv_at hl 4 rfl) ?_
  refine lv_iload_n hx hb dX11_meet_29 rfl (lv_at hl 6 rfl) ?_
  refine lv_iload hx hb dX11_meet_30 (lv_at hl 2 rfl) ?_
  refine lv_iload_n hx hb dX11_meet_32 rfl (lv_at hl 5 rfl) ?_
  refine callVIr (rest := []) SF (c_X11_side l D cy tz ad st a2 x3 a1 _ h) (cw_RX11_202 hts ⟨Nat.le_of_ble_eq_true rfl, Nat.le_of_ble_eq_true rfl⟩) rfl rfl (va_recv hK hP (ci := 10) (q0 := 0) rfl rfl) hK hZ hA hP hD hS rfl hl.1 rfl (Nat.le_of_ble_eq_true rfl) dX11_meet_33 ⟨Nat.zero_le _, Nat.zero_le _⟩ (fun r9 H locs h hP hD hS => ?_)
  refine lv_istore (lv' := [(7, .int r9), (6, .int r7), (5, .int r5), (4, .int x3), (3, .int x1), (0, .ref (ad 0)), (1, .int a1), (2, .int a2)]) hx hb dX11_meet_36 hl (by decide) rfl (fun ls hl => ?_)
  refine lv_aload_n hx hb dX11_meet_38 rfl (lv_at hl 5 rfl) ?_
  refine lv_iload_n hx hb dX11_meet_39 rfl (lv_at hl 7 rfl) ?_
  refine lv_iload hx hb dX11_meet_40 (lv_at hl 3 rfl) ?_
  refine lv_iload_n hx hb dX11_meet_42 rfl (lv_at hl 4 rfl) ?_
  refine callVIr (rest := []) SF (c_X11_side l D cy tz ad st a2 x3 x1 _ h) (cw_RX11_202 hts ⟨Nat.le_of_ble_eq_true rfl, Nat.le_of_ble_eq_true rfl⟩) rfl rfl (va_recv hK hP (ci := 10) (q0 := 0) rfl rfl) hK hZ hA hP hD hS rfl hl.1 rfl (Nat.le_of_ble_eq_true rfl) dX11_meet_43 ⟨Nat.zero_le _, Nat.zero_le _⟩ (fun r11 H locs h hP hD hS => ?_)
  refine lv_istore (lv' := [(8, .int r11), (7, .int r9), (6, .int r7), (5, .int r5), (4, .int x3), (3, .int x1), (0, .ref (ad 0)), (1, .int a1), (2, .int a2)]) hx hb dX11_meet_46 hl (by decide) rfl (fun ls hl => ?_)
  refine lv_iload hx hb dX11_meet_48 (lv_at hl 3 rfl) ?_
  refine lv_iload hx hb dX11_meet_50 (lv_at hl 2 rfl) ?_
  refine lv_icmp_eq (tgt := 64) hx hb dX11_meet_52 (by decide) (fun c13 => ?_) (fun c13 => ?_)
  · have h := h.1 c13
    refine lv_iload hx hb dX11_meet_64 (lv_at hl 3 rfl) ?_
    refine lv_if_ne (tgt := 79) hx hb dX11_meet_66 (by decide) (fun c14 => ?_) (fun c14 => ?_)
    · have h := h.1 c14
      refine lv_iload hx hb dX11_meet_79 (lv_at hl 2 rfl) ?_
      refine lv_if_ne (tgt := 95) hx hb dX11_meet_81 (by decide) (fun c15 => ?_) (fun c15 => ?_)
      · have h := h.1 c15
        refine lv_iload hx hb dX11_meet_95 (lv_at hl 1 rfl) ?_
        refine lv_if_ne (tgt := 111) hx hb dX11_meet_97 (by decide) (fun c16 => ?_) (fun c16 => ?_)
        · have h := h.1 c16
          refine lv_iload hx hb dX11_meet_111 (lv_at hl 0 rfl) ?_
          refine lv_if_ne (tgt := 131) hx hb dX11_meet_113 (by decide) (fun c17 => ?_) (fun c17 => ?_)
          · have h := h.1 c17
            refine lv_iconst (v := 0) hx hb dX11_meet_131 (by decide) ?_
            exact hret _ () _ _ _ _ rfl h hP hD hS dX11_meet_132
          · have h := h.2 c17
            refine lv_aload_n hx hb dX11_meet_116 rfl (lv_at hl 6 rfl) ?_
            refine lv_iload_n hx hb dX11_meet_117 rfl (lv_at hl 5 rfl) ?_
            refine lv_iload_n hx hb dX11_meet_118 rfl (lv_at hl 8 rfl) ?_
            refine lv_iload hx hb dX11_meet_119 (lv_at hl 4 rfl) ?_
            refine callVIr (rest := []) SF (c_X11_lies l D cy tz ad st x1 a2 x3 _ h) (cw_RX11_206 hts ⟨Nat.le_of_ble_eq_true rfl, Nat.le_of_ble_eq_true rfl⟩) rfl rfl (va_recv hK hP (ci := 10) (q0 := 0) rfl rfl) hK hZ hA hP hD hS rfl hl.1 rfl (Nat.le_of_ble_eq_true rfl) dX11_meet_121 ⟨Nat.zero_le _, Nat.zero_le _⟩ (fun r18 H locs h hP hD hS => ?_)
            refine lv_if_eq (tgt := 131) hx hb dX11_meet_124 (by decide) (fun c20 => ?_) (fun c20 => ?_)
            · have h := h.1 c20
              refine lv_iconst (v := 0) hx hb dX11_meet_131 (by decide) ?_
              exact hret _ () _ _ _ _ rfl h hP hD hS dX11_meet_132
            · have h := h.2 c20
              refine lv_iconst (v := 1) hx hb dX11_meet_127 (by decide) ?_
              refine lv_goto (tgt := 132) hx hb dX11_meet_128 (by decide) ?_
              exact hret _ () _ _ _ _ rfl h hP hD hS dX11_meet_132
        · have h := h.2 c16
          refine lv_aload_n hx hb dX11_meet_100 rfl (lv_at hl 6 rfl) ?_
          refine lv_iload_n hx hb dX11_meet_101 rfl (lv_at hl 7 rfl) ?_
          refine lv_iload_n hx hb dX11_meet_102 rfl (lv_at hl 8 rfl) ?_
          refine lv_iload hx hb dX11_meet_103 (lv_at hl 4 rfl) ?_
          refine callVIr (rest := []) SF (c_X11_lies l D cy tz ad st a1 a2 x3 _ h) (cw_RX11_206 hts ⟨Nat.le_of_ble_eq_true rfl, Nat.le_of_ble_eq_true rfl⟩) rfl rfl (va_recv hK hP (ci := 10) (q0 := 0) rfl rfl) hK hZ hA hP hD hS rfl hl.1 rfl (Nat.le_of_ble_eq_true rfl) dX11_meet_105 ⟨Nat.zero_le _, Nat.zero_le _⟩ (fun r21 H locs h hP hD hS => ?_)
          refine lv_if_ne (tgt := 127) hx hb dX11_meet_108 (by decide) (fun c23 => ?_) (fun c23 => ?_)
          · have h := h.1 c23
            refine lv_iconst (v := 1) hx hb dX11_meet_127 (by decide) ?_
            refine lv_goto (tgt := 132) hx hb dX11_meet_128 (by decide) ?_
            exact hret _ () _ _ _ _ rfl h hP hD hS dX11_meet_132
          · have h := h.2 c23
            refine lv_iload hx hb dX11_meet_111 (lv_at hl 0 rfl) ?_
            refine lv_if_ne (tgt := 131) hx hb dX11_meet_113 (by decide) (fun c24 => ?_) (fun c24 => ?_)
            · have h := h.1 c24
              refine lv_iconst (v := 0) hx hb dX11_meet_131 (by decide) ?_
              exact hret _ () _ _ _ _ rfl h hP hD hS dX11_meet_132
            · have h := h.2 c24
              refine lv_aload_n hx hb dX11_meet_116 rfl (lv_at hl 6 rfl) ?_
              refine lv_iload_n hx hb dX11_meet_117 rfl (lv_at hl 5 rfl) ?_
              refine lv_iload_n hx hb dX11_meet_118 rfl (lv_at hl 8 rfl) ?_
              refine lv_iload hx hb dX11_meet_119 (lv_at hl 4 rfl) ?_
              refine callVIr (rest := []) SF (c_X11_lies l D cy tz ad st x1 a2 x3 _ h) (cw_RX11_206 hts ⟨Nat.le_of_ble_eq_true rfl, Nat.le_of_ble_eq_true rfl⟩) rfl rfl (va_recv hK hP (ci := 10) (q0 := 0) rfl rfl) hK hZ hA hP hD hS rfl hl.1 rfl (Nat.le_of_ble_eq_true rfl) dX11_meet_121 ⟨Nat.zero_le _, Nat.zero_le _⟩ (fun r25 H locs h hP hD hS => ?_)
              refine lv_if_eq (tgt := 131) hx hb dX11_meet_124 (by decide) (fun c27 => ?_) (fun c27 => ?_)
              · have h := h.1 c27
                refine lv_iconst (v := 0) hx hb dX11_meet_131 (by decide) ?_
                exact hret _ () _ _ _ _ rfl h hP hD hS dX11_meet_132
              · have h := h.2 c27
                refine lv_iconst (v := 1) hx hb dX11_meet_127 (by decide) ?_
                refine lv_goto (tgt := 132) hx hb dX11_meet_128 (by decide) ?_
                exact hret _ () _ _ _ _ rfl h hP hD hS dX11_meet_132
      · have h := h.2 c15
        refine lv_aload_n hx hb dX11_meet_84 rfl (lv_at hl 6 rfl) ?_
        refine lv_iload hx hb dX11_meet_85 (lv_at hl 4 rfl) ?_
        refine lv_iload_n hx hb dX11_meet_87 rfl (lv_at hl 7 rfl) ?_
        refine lv_iload_n hx hb dX11_meet_88 rfl (lv_at hl 5 rfl) ?_
        refine callVIr (rest := []) SF (c_X11_lies l D cy tz ad st x3 a1 x1 _ h) (cw_RX11_206 hts ⟨Nat.le_of_ble_eq_true rfl, Nat.le_of_ble_eq_true rfl⟩) rfl rfl (va_recv hK hP (ci := 10) (q0 := 0) rfl rfl) hK hZ hA hP hD hS rfl hl.1 rfl (Nat.le_of_ble_eq_true rfl) dX11_meet_89 ⟨Nat.zero_le _, Nat.zero_le _⟩ (fun r28 H locs h hP hD hS => ?_)
        refine lv_if_ne (tgt := 127) hx hb dX11_meet_92 (by decide) (fun c30 => ?_) (fun c30 => ?_)
        · have h := h.1 c30
          refine lv_iconst (v := 1) hx hb dX11_meet_127 (by decide) ?_
          refine lv_goto (tgt := 132) hx hb dX11_meet_128 (by decide) ?_
          exact hret _ () _ _ _ _ rfl h hP hD hS dX11_meet_132
        · have h := h.2 c30
          refine lv_iload hx hb dX11_meet_95 (lv_at hl 1 rfl) ?_
          refine lv_if_ne (tgt := 111) hx hb dX11_meet_97 (by decide) (fun c31 => ?_) (fun c31 => ?_)
          · have h := h.1 c31
            refine lv_iload hx hb dX11_meet_111 (lv_at hl 0 rfl) ?_
            refine lv_if_ne (tgt := 131) hx hb dX11_meet_113 (by decide) (fun c32 => ?_) (fun c32 => ?_)
            · have h := h.1 c32
              refine lv_iconst (v := 0) hx hb dX11_meet_131 (by decide) ?_
              exact hret _ () _ _ _ _ rfl h hP hD hS dX11_meet_132
            · have h := h.2 c32
              refine lv_aload_n hx hb dX11_meet_116 rfl (lv_at hl 6 rfl) ?_
              refine lv_iload_n hx hb dX11_meet_117 rfl (lv_at hl 5 rfl) ?_
              refine lv_iload_n hx hb dX11_meet_118 rfl (lv_at hl 8 rfl) ?_
              refine lv_iload hx hb dX11_meet_119 (lv_at hl 4 rfl) ?_
              refine callVIr (rest := []) SF (c_X11_lies l D cy tz ad st x1 a2 x3 _ h) (cw_RX11_206 hts ⟨Nat.le_of_ble_eq_true rfl, Nat.le_of_ble_eq_true rfl⟩) rfl rfl (va_recv hK hP (ci := 10) (q0 := 0) rfl rfl) hK hZ hA hP hD hS rfl hl.1 rfl (Nat.le_of_ble_eq_true rfl) dX11_meet_121 ⟨Nat.zero_le _, Nat.zero_le _⟩ (fun r33 H locs h hP hD hS => ?_)
              refine lv_if_eq (tgt := 131) hx hb dX11_meet_124 (by decide) (fun c35 => ?_) (fun c35 => ?_)
              · have h := h.1 c35
                refine lv_iconst (v := 0) hx hb dX11_meet_131 (by decide) ?_
                exact hret _ () _ _ _ _ rfl h hP hD hS dX11_meet_132
              · have h := h.2 c35
                refine lv_iconst (v := 1) hx hb dX11_meet_127 (by decide) ?_
                refine lv_goto (tgt := 132) hx hb dX11_meet_128 (by decide) ?_
                exact hret _ () _ _ _ _ rfl h hP hD hS dX11_meet_132
          · have h := h.2 c31
            refine lv_aload_n hx hb dX11_meet_100 rfl (lv_at hl 6 rfl) ?_
            refine lv_iload_n hx hb dX11_meet_101 rfl (lv_at hl 7 rfl) ?_
            refine lv_iload_n hx hb dX11_meet_102 rfl (lv_at hl 8 rfl) ?_
            refine lv_iload hx hb dX11_meet_103 (lv_at hl 4 rfl) ?_
            refine callVIr (rest := []) SF (c_X11_lies l D cy tz ad st a1 a2 x3 _ h) (cw_RX11_206 hts ⟨Nat.le_of_ble_eq_true rfl, Nat.le_of_ble_eq_true rfl⟩) rfl rfl (va_recv hK hP (ci := 10) (q0 := 0) rfl rfl) hK hZ hA hP hD hS rfl hl.1 rfl (Nat.le_of_ble_eq_true rfl) dX11_meet_105 ⟨Nat.zero_le _, Nat.zero_le _⟩ (fun r36 H locs h hP hD hS => ?_)
            refine lv_if_ne (tgt := 127) hx hb dX11_meet_108 (by decide) (fun c38 => ?_) (fun c38 => ?_)
            · have h := h.1 c38
              refine lv_iconst (v := 1) hx hb dX11_meet_127 (by decide) ?_
              refine lv_goto (tgt := 132) hx hb dX11_meet_128 (by decide) ?_
              exact hret _ () _ _ _ _ rfl h hP hD hS dX11_meet_132
            · have h := h.2 c38
              refine lv_iload hx hb dX11_meet_111 (lv_at hl 0 rfl) ?_
              refine lv_if_ne (tgt := 131) hx hb dX11_meet_113 (by decide) (fun c39 => ?_) (fun c39 => ?_)
              · have h := h.1 c39
                refine lv_iconst (v := 0) hx hb dX11_meet_131 (by decide) ?_
                exact hret _ () _ _ _ _ rfl h hP hD hS dX11_meet_132
              · have h := h.2 c39
                refine lv_aload_n hx hb dX11_meet_116 rfl (lv_at hl 6 rfl) ?_
                refine lv_iload_n hx hb dX11_meet_117 rfl (lv_at hl 5 rfl) ?_
                refine lv_iload_n hx hb dX11_meet_118 rfl (lv_at hl 8 rfl) ?_
                refine lv_iload hx hb dX11_meet_119 (lv_at hl 4 rfl) ?_
                refine callVIr (rest := []) SF (c_X11_lies l D cy tz ad st x1 a2 x3 _ h) (cw_RX11_206 hts ⟨Nat.le_of_ble_eq_true rfl, Nat.le_of_ble_eq_true rfl⟩) rfl rfl (va_recv hK hP (ci := 10) (q0 := 0) rfl rfl) hK hZ hA hP hD hS rfl hl.1 rfl (Nat.le_of_ble_eq_true rfl) dX11_meet_121 ⟨Nat.zero_le _, Nat.zero_le _⟩ (fun r40 H locs h hP hD hS => ?_)
                refine lv_if_eq (tgt := 131) hx hb dX11_meet_124 (by decide) (fun c42 => ?_) (fun c42 => ?_)
                · have h := h.1 c42
                  refine lv_iconst (v := 0) hx hb dX11_meet_131 (by decide) ?_
                  exact hret _ () _ _ _ _ rfl h hP hD hS dX11_meet_132
                · have h := h.2 c42
                  refine lv_iconst (v := 1) hx hb dX11_meet_127 (by decide) ?_
                  refine lv_goto (tgt := 132) hx hb dX11_meet_128 (by decide) ?_
                  exact hret _ () _ _ _ _ rfl h hP hD hS dX11_meet_132
    · have h := h.2 c14
      refine lv_aload_n hx hb dX11_meet_69 rfl (lv_at hl 6 rfl) ?_
      refine lv_iload_n hx hb dX11_meet_70 rfl (lv_at hl 8 rfl) ?_
      refine lv_iload_n hx hb dX11_meet_71 rfl (lv_at hl 7 rfl) ?_
      refine lv_iload_n hx hb dX11_meet_72 rfl (lv_at hl 5 rfl) ?_
      refine callVIr (rest := []) SF (c_X11_lies l D cy tz ad st a2 a1 x1 _ h) (cw_RX11_206 hts ⟨Nat.le_of_ble_eq_true rfl, Nat.le_of_ble_eq_true rfl⟩) rfl rfl (va_recv hK hP (ci := 10) (q0 := 0) rfl rfl) hK hZ hA hP hD hS rfl hl.1 rfl (Nat.le_of_ble_eq_true rfl) dX11_meet_73 ⟨Nat.zero_le _, Nat.zero_le _⟩ (fun r43 H locs h hP hD hS => ?_)
      refine lv_if_ne (tgt := 127) hx hb dX11_meet_76 (by decide) (fun c45 => ?_) (fun c45 => ?_)
      · have h := h.1 c45
        refine lv_iconst (v := 1) hx hb dX11_meet_127 (by decide) ?_
        refine lv_goto (tgt := 132) hx hb dX11_meet_128 (by decide) ?_
        exact hret _ () _ _ _ _ rfl h hP hD hS dX11_meet_132
      · have h := h.2 c45
        refine lv_iload hx hb dX11_meet_79 (lv_at hl 2 rfl) ?_
        refine lv_if_ne (tgt := 95) hx hb dX11_meet_81 (by decide) (fun c46 => ?_) (fun c46 => ?_)
        · have h := h.1 c46
          refine lv_iload hx hb dX11_meet_95 (lv_at hl 1 rfl) ?_
          refine lv_if_ne (tgt := 111) hx hb dX11_meet_97 (by decide) (fun c47 => ?_) (fun c47 => ?_)
          · have h := h.1 c47
            refine lv_iload hx hb dX11_meet_111 (lv_at hl 0 rfl) ?_
            refine lv_if_ne (tgt := 131) hx hb dX11_meet_113 (by decide) (fun c48 => ?_) (fun c48 => ?_)
            · have h := h.1 c48
              refine lv_iconst (v := 0) hx hb dX11_meet_131 (by decide) ?_
              exact hret _ () _ _ _ _ rfl h hP hD hS dX11_meet_132
            · have h := h.2 c48
              refine lv_aload_n hx hb dX11_meet_116 rfl (lv_at hl 6 rfl) ?_
              refine lv_iload_n hx hb dX11_meet_117 rfl (lv_at hl 5 rfl) ?_
              refine lv_iload_n hx hb dX11_meet_118 rfl (lv_at hl 8 rfl) ?_
              refine lv_iload hx hb dX11_meet_119 (lv_at hl 4 rfl) ?_
              refine callVIr (rest := []) SF (c_X11_lies l D cy tz ad st x1 a2 x3 _ h) (cw_RX11_206 hts ⟨Nat.le_of_ble_eq_true rfl, Nat.le_of_ble_eq_true rfl⟩) rfl rfl (va_recv hK hP (ci := 10) (q0 := 0) rfl rfl) hK hZ hA hP hD hS rfl hl.1 rfl (Nat.le_of_ble_eq_true rfl) dX11_meet_121 ⟨Nat.zero_le _, Nat.zero_le _⟩ (fun r49 H locs h hP hD hS => ?_)
              refine lv_if_eq (tgt := 131) hx hb dX11_meet_124 (by decide) (fun c51 => ?_) (fun c51 => ?_)
              · have h := h.1 c51
                refine lv_iconst (v := 0) hx hb dX11_meet_131 (by decide) ?_
                exact hret _ () _ _ _ _ rfl h hP hD hS dX11_meet_132
              · have h := h.2 c51
                refine lv_iconst (v := 1) hx hb dX11_meet_127 (by decide) ?_
                refine lv_goto (tgt := 132) hx hb dX11_meet_128 (by decide) ?_
                exact hret _ () _ _ _ _ rfl h hP hD hS dX11_meet_132
          · have h := h.2 c47
            refine lv_aload_n hx hb dX11_meet_100 rfl (lv_at hl 6 rfl) ?_
            refine lv_iload_n hx hb dX11_meet_101 rfl (lv_at hl 7 rfl) ?_
            refine lv_iload_n hx hb dX11_meet_102 rfl (lv_at hl 8 rfl) ?_
            refine lv_iload hx hb dX11_meet_103 (lv_at hl 4 rfl) ?_
            refine callVIr (rest := []) SF (c_X11_lies l D cy tz ad st a1 a2 x3 _ h) (cw_RX11_206 hts ⟨Nat.le_of_ble_eq_true rfl, Nat.le_of_ble_eq_true rfl⟩) rfl rfl (va_recv hK hP (ci := 10) (q0 := 0) rfl rfl) hK hZ hA hP hD hS rfl hl.1 rfl (Nat.le_of_ble_eq_true rfl) dX11_meet_105 ⟨Nat.zero_le _, Nat.zero_le _⟩ (fun r52 H locs h hP hD hS => ?_)
            refine lv_if_ne (tgt := 127) hx hb dX11_meet_108 (by decide) (fun c54 => ?_) (fun c54 => ?_)
            · have h := h.1 c54
              refine lv_iconst (v := 1) hx hb dX11_meet_127 (by decide) ?_
              refine lv_goto (tgt := 132) hx hb dX11_meet_128 (by decide) ?_
              exact hret _ () _ _ _ _ rfl h hP hD hS dX11_meet_132
            · have h := h.2 c54
              refine lv_iload hx hb dX11_meet_111 (lv_at hl 0 rfl) ?_
              refine lv_if_ne (tgt := 131) hx hb dX11_meet_113 (by decide) (fun c55 => ?_) (fun c55 => ?_)
              · have h := h.1 c55
                refine lv_iconst (v := 0) hx hb dX11_meet_131 (by decide) ?_
                exact hret _ () _ _ _ _ rfl h hP hD hS dX11_meet_132
              · have h := h.2 c55
                refine lv_aload_n hx hb dX11_meet_116 rfl (lv_at hl 6 rfl) ?_
                refine lv_iload_n hx hb dX11_meet_117 rfl (lv_at hl 5 rfl) ?_
                refine lv_iload_n hx hb dX11_meet_118 rfl (lv_at hl 8 rfl) ?_
                refine lv_iload hx hb dX11_meet_119 (lv_at hl 4 rfl) ?_
                refine callVIr (rest := []) SF (c_X11_lies l D cy tz ad st x1 a2 x3 _ h) (cw_RX11_206 hts ⟨Nat.le_of_ble_eq_true rfl, Nat.le_of_ble_eq_true rfl⟩) rfl rfl (va_recv hK hP (ci := 10) (q0 := 0) rfl rfl) hK hZ hA hP hD hS rfl hl.1 rfl (Nat.le_of_ble_eq_true rfl) dX11_meet_121 ⟨Nat.zero_le _, Nat.zero_le _⟩ (fun r56 H locs h hP hD hS => ?_)
                refine lv_if_eq (tgt := 131) hx hb dX11_meet_124 (by decide) (fun c58 => ?_) (fun c58 => ?_)
                · have h := h.1 c58
                  refine lv_iconst (v := 0) hx hb dX11_meet_131 (by decide) ?_
                  exact hret _ () _ _ _ _ rfl h hP hD hS dX11_meet_132
                · have h := h.2 c58
                  refine lv_iconst (v := 1) hx hb dX11_meet_127 (by decide) ?_
                  refine lv_goto (tgt := 132) hx hb dX11_meet_128 (by decide) ?_
                  exact hret _ () _ _ _ _ rfl h hP hD hS dX11_meet_132
        · have h := h.2 c46
          refine lv_aload_n hx hb dX11_meet_84 rfl (lv_at hl 6 rfl) ?_
          refine lv_iload hx hb dX11_meet_85 (lv_at hl 4 rfl) ?_
          refine lv_iload_n hx hb dX11_meet_87 rfl (lv_at hl 7 rfl) ?_
          refine lv_iload_n hx hb dX11_meet_88 rfl (lv_at hl 5 rfl) ?_
          refine callVIr (rest := []) SF (c_X11_lies l D cy tz ad st x3 a1 x1 _ h) (cw_RX11_206 hts ⟨Nat.le_of_ble_eq_true rfl, Nat.le_of_ble_eq_true rfl⟩) rfl rfl (va_recv hK hP (ci := 10) (q0 := 0) rfl rfl) hK hZ hA hP hD hS rfl hl.1 rfl (Nat.le_of_ble_eq_true rfl) dX11_meet_89 ⟨Nat.zero_le _, Nat.zero_le _⟩ (fun r59 H locs h hP hD hS => ?_)
          refine lv_if_ne (tgt := 127) hx hb dX11_meet_92 (by decide) (fun c61 => ?_) (fun c61 => ?_)
          · have h := h.1 c61
            refine lv_iconst (v := 1) hx hb dX11_meet_127 (by decide) ?_
            refine lv_goto (tgt := 132) hx hb dX11_meet_128 (by decide) ?_
            exact hret _ () _ _ _ _ rfl h hP hD hS dX11_meet_132
          · have h := h.2 c61
            refine lv_iload hx hb dX11_meet_95 (lv_at hl 1 rfl) ?_
            refine lv_if_ne (tgt := 111) hx hb dX11_meet_97 (by decide) (fun c62 => ?_) (fun c62 => ?_)
            · have h := h.1 c62
              refine lv_iload hx hb dX11_meet_111 (lv_at hl 0 rfl) ?_
              refine lv_if_ne (tgt := 131) hx hb dX11_meet_113 (by decide) (fun c63 => ?_) (fun c63 => ?_)
              · have h := h.1 c63
                refine lv_iconst (v := 0) hx hb dX11_meet_131 (by decide) ?_
                exact hret _ () _ _ _ _ rfl h hP hD hS dX11_meet_132
              · have h := h.2 c63
                refine lv_aload_n hx hb dX11_meet_116 rfl (lv_at hl 6 rfl) ?_
                refine lv_iload_n hx hb dX11_meet_117 rfl (lv_at hl 5 rfl) ?_
                refine lv_iload_n hx hb dX11_meet_118 rfl (lv_at hl 8 rfl) ?_
                refine lv_iload hx hb dX11_meet_119 (lv_at hl 4 rfl) ?_
                refine callVIr (rest := []) SF (c_X11_lies l D cy tz ad st x1 a2 x3 _ h) (cw_RX11_206 hts ⟨Nat.le_of_ble_eq_true rfl, Nat.le_of_ble_eq_true rfl⟩) rfl rfl (va_recv hK hP (ci := 10) (q0 := 0) rfl rfl) hK hZ hA hP hD hS rfl hl.1 rfl (Nat.le_of_ble_eq_true rfl) dX11_meet_121 ⟨Nat.zero_le _, Nat.zero_le _⟩ (fun r64 H locs h hP hD hS => ?_)
                refine lv_if_eq (tgt := 131) hx hb dX11_meet_124 (by decide) (fun c66 => ?_) (fun c66 => ?_)
                · have h := h.1 c66
                  refine lv_iconst (v := 0) hx hb dX11_meet_131 (by decide) ?_
                  exact hret _ () _ _ _ _ rfl h hP hD hS dX11_meet_132
                · have h := h.2 c66
                  refine lv_iconst (v := 1) hx hb dX11_meet_127 (by decide) ?_
                  refine lv_goto (tgt := 132) hx hb dX11_meet_128 (by decide) ?_
                  exact hret _ () _ _ _ _ rfl h hP hD hS dX11_meet_132
            · have h := h.2 c62
              refine lv_aload_n hx hb dX11_meet_100 rfl (lv_at hl 6 rfl) ?_
              refine lv_iload_n hx hb dX11_meet_101 rfl (lv_at hl 7 rfl) ?_
              refine lv_iload_n hx hb dX11_meet_102 rfl (lv_at hl 8 rfl) ?_
              refine lv_iload hx hb dX11_meet_103 (lv_at hl 4 rfl) ?_
              refine callVIr (rest := []) SF (c_X11_lies l D cy tz ad st a1 a2 x3 _ h) (cw_RX11_206 hts ⟨Nat.le_of_ble_eq_true rfl, Nat.le_of_ble_eq_true rfl⟩) rfl rfl (va_recv hK hP (ci := 10) (q0 := 0) rfl rfl) hK hZ hA hP hD hS rfl hl.1 rfl (Nat.le_of_ble_eq_true rfl) dX11_meet_105 ⟨Nat.zero_le _, Nat.zero_le _⟩ (fun r67 H locs h hP hD hS => ?_)
              refine lv_if_ne (tgt := 127) hx hb dX11_meet_108 (by decide) (fun c69 => ?_) (fun c69 => ?_)
              · have h := h.1 c69
                refine lv_iconst (v := 1) hx hb dX11_meet_127 (by decide) ?_
                refine lv_goto (tgt := 132) hx hb dX11_meet_128 (by decide) ?_
                exact hret _ () _ _ _ _ rfl h hP hD hS dX11_meet_132
              · have h := h.2 c69
                refine lv_iload hx hb dX11_meet_111 (lv_at hl 0 rfl) ?_
                refine lv_if_ne (tgt := 131) hx hb dX11_meet_113 (by decide) (fun c70 => ?_) (fun c70 => ?_)
                · have h := h.1 c70
                  refine lv_iconst (v := 0) hx hb dX11_meet_131 (by decide) ?_
                  exact hret _ () _ _ _ _ rfl h hP hD hS dX11_meet_132
                · have h := h.2 c70
                  refine lv_aload_n hx hb dX11_meet_116 rfl (lv_at hl 6 rfl) ?_
                  refine lv_iload_n hx hb dX11_meet_117 rfl (lv_at hl 5 rfl) ?_
                  refine lv_iload_n hx hb dX11_meet_118 rfl (lv_at hl 8 rfl) ?_
                  refine lv_iload hx hb dX11_meet_119 (lv_at hl 4 rfl) ?_
                  refine callVIr (rest := []) SF (c_X11_lies l D cy tz ad st x1 a2 x3 _ h) (cw_RX11_206 hts ⟨Nat.le_of_ble_eq_true rfl, Nat.le_of_ble_eq_true rfl⟩) rfl rfl (va_recv hK hP (ci := 10) (q0 := 0) rfl rfl) hK hZ hA hP hD hS rfl hl.1 rfl (Nat.le_of_ble_eq_true rfl) dX11_meet_121 ⟨Nat.zero_le _, Nat.zero_le _⟩ (fun r71 H locs h hP hD hS => ?_)
                  refine lv_if_eq (tgt := 131) hx hb dX11_meet_124 (by decide) (fun c73 => ?_) (fun c73 => ?_)
                  · have h := h.1 c73
                    refine lv_iconst (v := 0) hx hb dX11_meet_131 (by decide) ?_
                    exact hret _ () _ _ _ _ rfl h hP hD hS dX11_meet_132
                  · have h := h.2 c73
                    refine lv_iconst (v := 1) hx hb dX11_meet_127 (by decide) ?_
                    refine lv_goto (tgt := 132) hx hb dX11_meet_128 (by decide) ?_
                    exact hret _ () _ _ _ _ rfl h hP hD hS dX11_meet_132
  · have h := h.2 c13
    refine lv_iload hx hb dX11_meet_55 (lv_at hl 1 rfl) ?_
    refine lv_iload hx hb dX11_meet_57 (lv_at hl 0 rfl) ?_
    refine lv_icmp_eq (tgt := 64) hx hb dX11_meet_59 (by decide) (fun c74 => ?_) (fun c74 => ?_)
    · have h := h.1 c74
      refine lv_iload hx hb dX11_meet_64 (lv_at hl 3 rfl) ?_
      refine lv_if_ne (tgt := 79) hx hb dX11_meet_66 (by decide) (fun c75 => ?_) (fun c75 => ?_)
      · have h := h.1 c75
        refine lv_iload hx hb dX11_meet_79 (lv_at hl 2 rfl) ?_
        refine lv_if_ne (tgt := 95) hx hb dX11_meet_81 (by decide) (fun c76 => ?_) (fun c76 => ?_)
        · have h := h.1 c76
          refine lv_iload hx hb dX11_meet_95 (lv_at hl 1 rfl) ?_
          refine lv_if_ne (tgt := 111) hx hb dX11_meet_97 (by decide) (fun c77 => ?_) (fun c77 => ?_)
          · have h := h.1 c77
            refine lv_iload hx hb dX11_meet_111 (lv_at hl 0 rfl) ?_
            refine lv_if_ne (tgt := 131) hx hb dX11_meet_113 (by decide) (fun c78 => ?_) (fun c78 => ?_)
            · have h := h.1 c78
              refine lv_iconst (v := 0) hx hb dX11_meet_131 (by decide) ?_
              exact hret _ () _ _ _ _ rfl h hP hD hS dX11_meet_132
            · have h := h.2 c78
              refine lv_aload_n hx hb dX11_meet_116 rfl (lv_at hl 6 rfl) ?_
              refine lv_iload_n hx hb dX11_meet_117 rfl (lv_at hl 5 rfl) ?_
              refine lv_iload_n hx hb dX11_meet_118 rfl (lv_at hl 8 rfl) ?_
              refine lv_iload hx hb dX11_meet_119 (lv_at hl 4 rfl) ?_
              refine callVIr (rest := []) SF (c_X11_lies l D cy tz ad st x1 a2 x3 _ h) (cw_RX11_206 hts ⟨Nat.le_of_ble_eq_true rfl, Nat.le_of_ble_eq_true rfl⟩) rfl rfl (va_recv hK hP (ci := 10) (q0 := 0) rfl rfl) hK hZ hA hP hD hS rfl hl.1 rfl (Nat.le_of_ble_eq_true rfl) dX11_meet_121 ⟨Nat.zero_le _, Nat.zero_le _⟩ (fun r79 H locs h hP hD hS => ?_)
              refine lv_if_eq (tgt := 131) hx hb dX11_meet_124 (by decide) (fun c81 => ?_) (fun c81 => ?_)
              · have h := h.1 c81
                refine lv_iconst (v := 0) hx hb dX11_meet_131 (by decide) ?_
                exact hret _ () _ _ _ _ rfl h hP hD hS dX11_meet_132
              · have h := h.2 c81
                refine lv_iconst (v := 1) hx hb dX11_meet_127 (by decide) ?_
                refine lv_goto (tgt := 132) hx hb dX11_meet_128 (by decide) ?_
                exact hret _ () _ _ _ _ rfl h hP hD hS dX11_meet_132
          · have h := h.2 c77
            refine lv_aload_n hx hb dX11_meet_100 rfl (lv_at hl 6 rfl) ?_
            refine lv_iload_n hx hb dX11_meet_101 rfl (lv_at hl 7 rfl) ?_
            refine lv_iload_n hx hb dX11_meet_102 rfl (lv_at hl 8 rfl) ?_
            refine lv_iload hx hb dX11_meet_103 (lv_at hl 4 rfl) ?_
            refine callVIr (rest := []) SF (c_X11_lies l D cy tz ad st a1 a2 x3 _ h) (cw_RX11_206 hts ⟨Nat.le_of_ble_eq_true rfl, Nat.le_of_ble_eq_true rfl⟩) rfl rfl (va_recv hK hP (ci := 10) (q0 := 0) rfl rfl) hK hZ hA hP hD hS rfl hl.1 rfl (Nat.le_of_ble_eq_true rfl) dX11_meet_105 ⟨Nat.zero_le _, Nat.zero_le _⟩ (fun r82 H locs h hP hD hS => ?_)
            refine lv_if_ne (tgt := 127) hx hb dX11_meet_108 (by decide) (fun c84 => ?_) (fun c84 => ?_)
            · have h := h.1 c84
              refine lv_iconst (v := 1) hx hb dX11_meet_127 (by decide) ?_
              refine lv_goto (tgt := 132) hx hb dX11_meet_128 (by decide) ?_
              exact hret _ () _ _ _ _ rfl h hP hD hS dX11_meet_132
            · have h := h.2 c84
              refine lv_iload hx hb dX11_meet_111 (lv_at hl 0 rfl) ?_
              refine lv_if_ne (tgt := 131) hx hb dX11_meet_113 (by decide) (fun c85 => ?_) (fun c85 => ?_)
              · have h := h.1 c85
                refine lv_iconst (v := 0) hx hb dX11_meet_131 (by decide) ?_
                exact hret _ () _ _ _ _ rfl h hP hD hS dX11_meet_132
              · have h := h.2 c85
                refine lv_aload_n hx hb dX11_meet_116 rfl (lv_at hl 6 rfl) ?_
                refine lv_iload_n hx hb dX11_meet_117 rfl (lv_at hl 5 rfl) ?_
                refine lv_iload_n hx hb dX11_meet_118 rfl (lv_at hl 8 rfl) ?_
                refine lv_iload hx hb dX11_meet_119 (lv_at hl 4 rfl) ?_
                refine callVIr (rest := []) SF (c_X11_lies l D cy tz ad st x1 a2 x3 _ h) (cw_RX11_206 hts ⟨Nat.le_of_ble_eq_true rfl, Nat.le_of_ble_eq_true rfl⟩) rfl rfl (va_recv hK hP (ci := 10) (q0 := 0) rfl rfl) hK hZ hA hP hD hS rfl hl.1 rfl (Nat.le_of_ble_eq_true rfl) dX11_meet_121 ⟨Nat.zero_le _, Nat.zero_le _⟩ (fun r86 H locs h hP hD hS => ?_)
                refine lv_if_eq (tgt := 131) hx hb dX11_meet_124 (by decide) (fun c88 => ?_) (fun c88 => ?_)
                · have h := h.1 c88
                  refine lv_iconst (v := 0) hx hb dX11_meet_131 (by decide) ?_
                  exact hret _ () _ _ _ _ rfl h hP hD hS dX11_meet_132
                · have h := h.2 c88
                  refine lv_iconst (v := 1) hx hb dX11_meet_127 (by decide) ?_
                  refine lv_goto (tgt := 132) hx hb dX11_meet_128 (by decide) ?_
                  exact hret _ () _ _ _ _ rfl h hP hD hS dX11_meet_132
        · have h := h.2 c76
          refine lv_aload_n hx hb dX11_meet_84 rfl (lv_at hl 6 rfl) ?_
          refine lv_iload hx hb dX11_meet_85 (lv_at hl 4 rfl) ?_
          refine lv_iload_n hx hb dX11_meet_87 rfl (lv_at hl 7 rfl) ?_
          refine lv_iload_n hx hb dX11_meet_88 rfl (lv_at hl 5 rfl) ?_
          refine callVIr (rest := []) SF (c_X11_lies l D cy tz ad st x3 a1 x1 _ h) (cw_RX11_206 hts ⟨Nat.le_of_ble_eq_true rfl, Nat.le_of_ble_eq_true rfl⟩) rfl rfl (va_recv hK hP (ci := 10) (q0 := 0) rfl rfl) hK hZ hA hP hD hS rfl hl.1 rfl (Nat.le_of_ble_eq_true rfl) dX11_meet_89 ⟨Nat.zero_le _, Nat.zero_le _⟩ (fun r89 H locs h hP hD hS => ?_)
          refine lv_if_ne (tgt := 127) hx hb dX11_meet_92 (by decide) (fun c91 => ?_) (fun c91 => ?_)
          · have h := h.1 c91
            refine lv_iconst (v := 1) hx hb dX11_meet_127 (by decide) ?_
            refine lv_goto (tgt := 132) hx hb dX11_meet_128 (by decide) ?_
            exact hret _ () _ _ _ _ rfl h hP hD hS dX11_meet_132
          · have h := h.2 c91
            refine lv_iload hx hb dX11_meet_95 (lv_at hl 1 rfl) ?_
            refine lv_if_ne (tgt := 111) hx hb dX11_meet_97 (by decide) (fun c92 => ?_) (fun c92 => ?_)
            · have h := h.1 c92
              refine lv_iload hx hb dX11_meet_111 (lv_at hl 0 rfl) ?_
              refine lv_if_ne (tgt := 131) hx hb dX11_meet_113 (by decide) (fun c93 => ?_) (fun c93 => ?_)
              · have h := h.1 c93
                refine lv_iconst (v := 0) hx hb dX11_meet_131 (by decide) ?_
                exact hret _ () _ _ _ _ rfl h hP hD hS dX11_meet_132
              · have h := h.2 c93
                refine lv_aload_n hx hb dX11_meet_116 rfl (lv_at hl 6 rfl) ?_
                refine lv_iload_n hx hb dX11_meet_117 rfl (lv_at hl 5 rfl) ?_
                refine lv_iload_n hx hb dX11_meet_118 rfl (lv_at hl 8 rfl) ?_
                refine lv_iload hx hb dX11_meet_119 (lv_at hl 4 rfl) ?_
                refine callVIr (rest := []) SF (c_X11_lies l D cy tz ad st x1 a2 x3 _ h) (cw_RX11_206 hts ⟨Nat.le_of_ble_eq_true rfl, Nat.le_of_ble_eq_true rfl⟩) rfl rfl (va_recv hK hP (ci := 10) (q0 := 0) rfl rfl) hK hZ hA hP hD hS rfl hl.1 rfl (Nat.le_of_ble_eq_true rfl) dX11_meet_121 ⟨Nat.zero_le _, Nat.zero_le _⟩ (fun r94 H locs h hP hD hS => ?_)
                refine lv_if_eq (tgt := 131) hx hb dX11_meet_124 (by decide) (fun c96 => ?_) (fun c96 => ?_)
                · have h := h.1 c96
                  refine lv_iconst (v := 0) hx hb dX11_meet_131 (by decide) ?_
                  exact hret _ () _ _ _ _ rfl h hP hD hS dX11_meet_132
                · have h := h.2 c96
                  refine lv_iconst (v := 1) hx hb dX11_meet_127 (by decide) ?_
                  refine lv_goto (tgt := 132) hx hb dX11_meet_128 (by decide) ?_
                  exact hret _ () _ _ _ _ rfl h hP hD hS dX11_meet_132
            · have h := h.2 c92
              refine lv_aload_n hx hb dX11_meet_100 rfl (lv_at hl 6 rfl) ?_
              refine lv_iload_n hx hb dX11_meet_101 rfl (lv_at hl 7 rfl) ?_
              refine lv_iload_n hx hb dX11_meet_102 rfl (lv_at hl 8 rfl) ?_
              refine lv_iload hx hb dX11_meet_103 (lv_at hl 4 rfl) ?_
              refine callVIr (rest := []) SF (c_X11_lies l D cy tz ad st a1 a2 x3 _ h) (cw_RX11_206 hts ⟨Nat.le_of_ble_eq_true rfl, Nat.le_of_ble_eq_true rfl⟩) rfl rfl (va_recv hK hP (ci := 10) (q0 := 0) rfl rfl) hK hZ hA hP hD hS rfl hl.1 rfl (Nat.le_of_ble_eq_true rfl) dX11_meet_105 ⟨Nat.zero_le _, Nat.zero_le _⟩ (fun r97 H locs h hP hD hS => ?_)
              refine lv_if_ne (tgt := 127) hx hb dX11_meet_108 (by decide) (fun c99 => ?_) (fun c99 => ?_)
              · have h := h.1 c99
                refine lv_iconst (v := 1) hx hb dX11_meet_127 (by decide) ?_
                refine lv_goto (tgt := 132) hx hb dX11_meet_128 (by decide) ?_
                exact hret _ () _ _ _ _ rfl h hP hD hS dX11_meet_132
              · have h := h.2 c99
                refine lv_iload hx hb dX11_meet_111 (lv_at hl 0 rfl) ?_
                refine lv_if_ne (tgt := 131) hx hb dX11_meet_113 (by decide) (fun c100 => ?_) (fun c100 => ?_)
                · have h := h.1 c100
                  refine lv_iconst (v := 0) hx hb dX11_meet_131 (by decide) ?_
                  exact hret _ () _ _ _ _ rfl h hP hD hS dX11_meet_132
                · have h := h.2 c100
                  refine lv_aload_n hx hb dX11_meet_116 rfl (lv_at hl 6 rfl) ?_
                  refine lv_iload_n hx hb dX11_meet_117 rfl (lv_at hl 5 rfl) ?_
                  refine lv_iload_n hx hb dX11_meet_118 rfl (lv_at hl 8 rfl) ?_
                  refine lv_iload hx hb dX11_meet_119 (lv_at hl 4 rfl) ?_
                  refine callVIr (rest := []) SF (c_X11_lies l D cy tz ad st x1 a2 x3 _ h) (cw_RX11_206 hts ⟨Nat.le_of_ble_eq_true rfl, Nat.le_of_ble_eq_true rfl⟩) rfl rfl (va_recv hK hP (ci := 10) (q0 := 0) rfl rfl) hK hZ hA hP hD hS rfl hl.1 rfl (Nat.le_of_ble_eq_true rfl) dX11_meet_121 ⟨Nat.zero_le _, Nat.zero_le _⟩ (fun r101 H locs h hP hD hS => ?_)
                  refine lv_if_eq (tgt := 131) hx hb dX11_meet_124 (by decide) (fun c103 => ?_) (fun c103 => ?_)
                  · have h := h.1 c103
                    refine lv_iconst (v := 0) hx hb dX11_meet_131 (by decide) ?_
                    exact hret _ () _ _ _ _ rfl h hP hD hS dX11_meet_132
                  · have h := h.2 c103
                    refine lv_iconst (v := 1) hx hb dX11_meet_127 (by decide) ?_
                    refine lv_goto (tgt := 132) hx hb dX11_meet_128 (by decide) ?_
                    exact hret _ () _ _ _ _ rfl h hP hD hS dX11_meet_132
      · have h := h.2 c75
        refine lv_aload_n hx hb dX11_meet_69 rfl (lv_at hl 6 rfl) ?_
        refine lv_iload_n hx hb dX11_meet_70 rfl (lv_at hl 8 rfl) ?_
        refine lv_iload_n hx hb dX11_meet_71 rfl (lv_at hl 7 rfl) ?_
        refine lv_iload_n hx hb dX11_meet_72 rfl (lv_at hl 5 rfl) ?_
        refine callVIr (rest := []) SF (c_X11_lies l D cy tz ad st a2 a1 x1 _ h) (cw_RX11_206 hts ⟨Nat.le_of_ble_eq_true rfl, Nat.le_of_ble_eq_true rfl⟩) rfl rfl (va_recv hK hP (ci := 10) (q0 := 0) rfl rfl) hK hZ hA hP hD hS rfl hl.1 rfl (Nat.le_of_ble_eq_true rfl) dX11_meet_73 ⟨Nat.zero_le _, Nat.zero_le _⟩ (fun r104 H locs h hP hD hS => ?_)
        refine lv_if_ne (tgt := 127) hx hb dX11_meet_76 (by decide) (fun c106 => ?_) (fun c106 => ?_)
        · have h := h.1 c106
          refine lv_iconst (v := 1) hx hb dX11_meet_127 (by decide) ?_
          refine lv_goto (tgt := 132) hx hb dX11_meet_128 (by decide) ?_
          exact hret _ () _ _ _ _ rfl h hP hD hS dX11_meet_132
        · have h := h.2 c106
          refine lv_iload hx hb dX11_meet_79 (lv_at hl 2 rfl) ?_
          refine lv_if_ne (tgt := 95) hx hb dX11_meet_81 (by decide) (fun c107 => ?_) (fun c107 => ?_)
          · have h := h.1 c107
            refine lv_iload hx hb dX11_meet_95 (lv_at hl 1 rfl) ?_
            refine lv_if_ne (tgt := 111) hx hb dX11_meet_97 (by decide) (fun c108 => ?_) (fun c108 => ?_)
            · have h := h.1 c108
              refine lv_iload hx hb dX11_meet_111 (lv_at hl 0 rfl) ?_
              refine lv_if_ne (tgt := 131) hx hb dX11_meet_113 (by decide) (fun c109 => ?_) (fun c109 => ?_)
              · have h := h.1 c109
                refine lv_iconst (v := 0) hx hb dX11_meet_131 (by decide) ?_
                exact hret _ () _ _ _ _ rfl h hP hD hS dX11_meet_132
              · have h := h.2 c109
                refine lv_aload_n hx hb dX11_meet_116 rfl (lv_at hl 6 rfl) ?_
                refine lv_iload_n hx hb dX11_meet_117 rfl (lv_at hl 5 rfl) ?_
                refine lv_iload_n hx hb dX11_meet_118 rfl (lv_at hl 8 rfl) ?_
                refine lv_iload hx hb dX11_meet_119 (lv_at hl 4 rfl) ?_
                refine callVIr (rest := []) SF (c_X11_lies l D cy tz ad st x1 a2 x3 _ h) (cw_RX11_206 hts ⟨Nat.le_of_ble_eq_true rfl, Nat.le_of_ble_eq_true rfl⟩) rfl rfl (va_recv hK hP (ci := 10) (q0 := 0) rfl rfl) hK hZ hA hP hD hS rfl hl.1 rfl (Nat.le_of_ble_eq_true rfl) dX11_meet_121 ⟨Nat.zero_le _, Nat.zero_le _⟩ (fun r110 H locs h hP hD hS => ?_)
                refine lv_if_eq (tgt := 131) hx hb dX11_meet_124 (by decide) (fun c112 => ?_) (fun c112 => ?_)
                · have h := h.1 c112
                  refine lv_iconst (v := 0) hx hb dX11_meet_131 (by decide) ?_
                  exact hret _ () _ _ _ _ rfl h hP hD hS dX11_meet_132
                · have h := h.2 c112
                  refine lv_iconst (v := 1) hx hb dX11_meet_127 (by decide) ?_
                  refine lv_goto (tgt := 132) hx hb dX11_meet_128 (by decide) ?_
                  exact hret _ () _ _ _ _ rfl h hP hD hS dX11_meet_132
            · have h := h.2 c108
              refine lv_aload_n hx hb dX11_meet_100 rfl (lv_at hl 6 rfl) ?_
              refine lv_iload_n hx hb dX11_meet_101 rfl (lv_at hl 7 rfl) ?_
              refine lv_iload_n hx hb dX11_meet_102 rfl (lv_at hl 8 rfl) ?_
              refine lv_iload hx hb dX11_meet_103 (lv_at hl 4 rfl) ?_
              refine callVIr (rest := []) SF (c_X11_lies l D cy tz ad st a1 a2 x3 _ h) (cw_RX11_206 hts ⟨Nat.le_of_ble_eq_true rfl, Nat.le_of_ble_eq_true rfl⟩) rfl rfl (va_recv hK hP (ci := 10) (q0 := 0) rfl rfl) hK hZ hA hP hD hS rfl hl.1 rfl (Nat.le_of_ble_eq_true rfl) dX11_meet_105 ⟨Nat.zero_le _, Nat.zero_le _⟩ (fun r113 H locs h hP hD hS => ?_)
              refine lv_if_ne (tgt := 127) hx hb dX11_meet_108 (by decide) (fun c115 => ?_) (fun c115 => ?_)
              · have h := h.1 c115
                refine lv_iconst (v := 1) hx hb dX11_meet_127 (by decide) ?_
                refine lv_goto (tgt := 132) hx hb dX11_meet_128 (by decide) ?_
                exact hret _ () _ _ _ _ rfl h hP hD hS dX11_meet_132
              · have h := h.2 c115
                refine lv_iload hx hb dX11_meet_111 (lv_at hl 0 rfl) ?_
                refine lv_if_ne (tgt := 131) hx hb dX11_meet_113 (by decide) (fun c116 => ?_) (fun c116 => ?_)
                · have h := h.1 c116
                  refine lv_iconst (v := 0) hx hb dX11_meet_131 (by decide) ?_
                  exact hret _ () _ _ _ _ rfl h hP hD hS dX11_meet_132
                · have h := h.2 c116
                  refine lv_aload_n hx hb dX11_meet_116 rfl (lv_at hl 6 rfl) ?_
                  refine lv_iload_n hx hb dX11_meet_117 rfl (lv_at hl 5 rfl) ?_
                  refine lv_iload_n hx hb dX11_meet_118 rfl (lv_at hl 8 rfl) ?_
                  refine lv_iload hx hb dX11_meet_119 (lv_at hl 4 rfl) ?_
                  refine callVIr (rest := []) SF (c_X11_lies l D cy tz ad st x1 a2 x3 _ h) (cw_RX11_206 hts ⟨Nat.le_of_ble_eq_true rfl, Nat.le_of_ble_eq_true rfl⟩) rfl rfl (va_recv hK hP (ci := 10) (q0 := 0) rfl rfl) hK hZ hA hP hD hS rfl hl.1 rfl (Nat.le_of_ble_eq_true rfl) dX11_meet_121 ⟨Nat.zero_le _, Nat.zero_le _⟩ (fun r117 H locs h hP hD hS => ?_)
                  refine lv_if_eq (tgt := 131) hx hb dX11_meet_124 (by decide) (fun c119 => ?_) (fun c119 => ?_)
                  · have h := h.1 c119
                    refine lv_iconst (v := 0) hx hb dX11_meet_131 (by decide) ?_
                    exact hret _ () _ _ _ _ rfl h hP hD hS dX11_meet_132
                  · have h := h.2 c119
                    refine lv_iconst (v := 1) hx hb dX11_meet_127 (by decide) ?_
                    refine lv_goto (tgt := 132) hx hb dX11_meet_128 (by decide) ?_
                    exact hret _ () _ _ _ _ rfl h hP hD hS dX11_meet_132
          · have h := h.2 c107
            refine lv_aload_n hx hb dX11_meet_84 rfl (lv_at hl 6 rfl) ?_
            refine lv_iload hx hb dX11_meet_85 (lv_at hl 4 rfl) ?_
            refine lv_iload_n hx hb dX11_meet_87 rfl (lv_at hl 7 rfl) ?_
            refine lv_iload_n hx hb dX11_meet_88 rfl (lv_at hl 5 rfl) ?_
            refine callVIr (rest := []) SF (c_X11_lies l D cy tz ad st x3 a1 x1 _ h) (cw_RX11_206 hts ⟨Nat.le_of_ble_eq_true rfl, Nat.le_of_ble_eq_true rfl⟩) rfl rfl (va_recv hK hP (ci := 10) (q0 := 0) rfl rfl) hK hZ hA hP hD hS rfl hl.1 rfl (Nat.le_of_ble_eq_true rfl) dX11_meet_89 ⟨Nat.zero_le _, Nat.zero_le _⟩ (fun r120 H locs h hP hD hS => ?_)
            refine lv_if_ne (tgt := 127) hx hb dX11_meet_92 (by decide) (fun c122 => ?_) (fun c122 => ?_)
            · have h := h.1 c122
              refine lv_iconst (v := 1) hx hb dX11_meet_127 (by decide) ?_
              refine lv_goto (tgt := 132) hx hb dX11_meet_128 (by decide) ?_
              exact hret _ () _ _ _ _ rfl h hP hD hS dX11_meet_132
            · have h := h.2 c122
              refine lv_iload hx hb dX11_meet_95 (lv_at hl 1 rfl) ?_
              refine lv_if_ne (tgt := 111) hx hb dX11_meet_97 (by decide) (fun c123 => ?_) (fun c123 => ?_)
              · have h := h.1 c123
                refine lv_iload hx hb dX11_meet_111 (lv_at hl 0 rfl) ?_
                refine lv_if_ne (tgt := 131) hx hb dX11_meet_113 (by decide) (fun c124 => ?_) (fun c124 => ?_)
                · have h := h.1 c124
                  refine lv_iconst (v := 0) hx hb dX11_meet_131 (by decide) ?_
                  exact hret _ () _ _ _ _ rfl h hP hD hS dX11_meet_132
                · have h := h.2 c124
                  refine lv_aload_n hx hb dX11_meet_116 rfl (lv_at hl 6 rfl) ?_
                  refine lv_iload_n hx hb dX11_meet_117 rfl (lv_at hl 5 rfl) ?_
                  refine lv_iload_n hx hb dX11_meet_118 rfl (lv_at hl 8 rfl) ?_
                  refine lv_iload hx hb dX11_meet_119 (lv_at hl 4 rfl) ?_
                  refine callVIr (rest := []) SF (c_X11_lies l D cy tz ad st x1 a2 x3 _ h) (cw_RX11_206 hts ⟨Nat.le_of_ble_eq_true rfl, Nat.le_of_ble_eq_true rfl⟩) rfl rfl (va_recv hK hP (ci := 10) (q0 := 0) rfl rfl) hK hZ hA hP hD hS rfl hl.1 rfl (Nat.le_of_ble_eq_true rfl) dX11_meet_121 ⟨Nat.zero_le _, Nat.zero_le _⟩ (fun r125 H locs h hP hD hS => ?_)
                  refine lv_if_eq (tgt := 131) hx hb dX11_meet_124 (by decide) (fun c127 => ?_) (fun c127 => ?_)
                  · have h := h.1 c127
                    refine lv_iconst (v := 0) hx hb dX11_meet_131 (by decide) ?_
                    exact hret _ () _ _ _ _ rfl h hP hD hS dX11_meet_132
                  · have h := h.2 c127
                    refine lv_iconst (v := 1) hx hb dX11_meet_127 (by decide) ?_
                    refine lv_goto (tgt := 132) hx hb dX11_meet_128 (by decide) ?_
                    exact hret _ () _ _ _ _ rfl h hP hD hS dX11_meet_132
              · have h := h.2 c123
                refine lv_aload_n hx hb dX11_meet_100 rfl (lv_at hl 6 rfl) ?_
                refine lv_iload_n hx hb dX11_meet_101 rfl (lv_at hl 7 rfl) ?_
                refine lv_iload_n hx hb dX11_meet_102 rfl (lv_at hl 8 rfl) ?_
                refine lv_iload hx hb dX11_meet_103 (lv_at hl 4 rfl) ?_
                refine callVIr (rest := []) SF (c_X11_lies l D cy tz ad st a1 a2 x3 _ h) (cw_RX11_206 hts ⟨Nat.le_of_ble_eq_true rfl, Nat.le_of_ble_eq_true rfl⟩) rfl rfl (va_recv hK hP (ci := 10) (q0 := 0) rfl rfl) hK hZ hA hP hD hS rfl hl.1 rfl (Nat.le_of_ble_eq_true rfl) dX11_meet_105 ⟨Nat.zero_le _, Nat.zero_le _⟩ (fun r128 H locs h hP hD hS => ?_)
                refine lv_if_ne (tgt := 127) hx hb dX11_meet_108 (by decide) (fun c130 => ?_) (fun c130 => ?_)
                · have h := h.1 c130
                  refine lv_iconst (v := 1) hx hb dX11_meet_127 (by decide) ?_
                  refine lv_goto (tgt := 132) hx hb dX11_meet_128 (by decide) ?_
                  exact hret _ () _ _ _ _ rfl h hP hD hS dX11_meet_132
                · have h := h.2 c130
                  refine lv_iload hx hb dX11_meet_111 (lv_at hl 0 rfl) ?_
                  refine lv_if_ne (tgt := 131) hx hb dX11_meet_113 (by decide) (fun c131 => ?_) (fun c131 => ?_)
                  · have h := h.1 c131
                    refine lv_iconst (v := 0) hx hb dX11_meet_131 (by decide) ?_
                    exact hret _ () _ _ _ _ rfl h hP hD hS dX11_meet_132
                  · have h := h.2 c131
                    refine lv_aload_n hx hb dX11_meet_116 rfl (lv_at hl 6 rfl) ?_
                    refine lv_iload_n hx hb dX11_meet_117 rfl (lv_at hl 5 rfl) ?_
                    refine lv_iload_n hx hb dX11_meet_118 rfl (lv_at hl 8 rfl) ?_
                    refine lv_iload hx hb dX11_meet_119 (lv_at hl 4 rfl) ?_
                    refine callVIr (rest := []) SF (c_X11_lies l D cy tz ad st x1 a2 x3 _ h) (cw_RX11_206 hts ⟨Nat.le_of_ble_eq_true rfl, Nat.le_of_ble_eq_true rfl⟩) rfl rfl (va_recv hK hP (ci := 10) (q0 := 0) rfl rfl) hK hZ hA hP hD hS rfl hl.1 rfl (Nat.le_of_ble_eq_true rfl) dX11_meet_121 ⟨Nat.zero_le _, Nat.zero_le _⟩ (fun r132 H locs h hP hD hS => ?_)
                    refine lv_if_eq (tgt := 131) hx hb dX11_meet_124 (by decide) (fun c134 => ?_) (fun c134 => ?_)
                    · have h := h.1 c134
                      refine lv_iconst (v := 0) hx hb dX11_meet_131 (by decide) ?_
                      exact hret _ () _ _ _ _ rfl h hP hD hS dX11_meet_132
                    · have h := h.2 c134
                      refine lv_iconst (v := 1) hx hb dX11_meet_127 (by decide) ?_
                      refine lv_goto (tgt := 132) hx hb dX11_meet_128 (by decide) ?_
                      exact hret _ () _ _ _ _ rfl h hP hD hS dX11_meet_132
    · have h := h.2 c74
      refine lv_iconst (v := 1) hx hb dX11_meet_62 (by decide) ?_
      exact hret _ () _ _ _ _ rfl h hP hD hS dX11_meet_63
-- X11_loops
def rm_X11_loops : Room := { frames := 4, cells := 0, slots := 0, locals := 98 }
abbrev ws_X11_loops : List Cond := .code yX11_loops cX11_loops 7 (some .int) :: wsL_law
theorem cw_RX11_209 {R : Room} {s : State} {args : Array Value} (hts : ∀ w ∈ wsL_law, w.before args s = true) (hR : rm_X11_meet.frames + 1 ≤ R.frames ∧ 8 + (9 + 11) + rm_X11_meet.locals ≤ R.locals) : CallW R s args RX11 RX11 209 yX11_meet cX11_meet 9 (some .boolean) ws_X11_meet rm_X11_meet rm_X11_meet.cells rm_X11_meet.slots 2 := cwV 2 hts (gdV w_24_17 w_24_18 w_24_19 w_1_5 w_24_20) rfl rfl rfl (by decide +kernel) hR
def wp_X11_loops_L95 (post : Int32 → St → Prop) (K : Int32 → Prop) (t22 : St) (v24 : Int32) : Nat → Int32 → Int32 → Prop
  | 0, _, _ => False
  | n95 + 1, v29, v30 => ((20 ≤ v30) → (K v29)) ∧ ((¬ 20 ≤ v30) → (((¬ v29 = 0) → (∀ x34 : Int32, x34 = v30 + 1 → (wp_X11_loops_L95 post K t22 v24 n95 1 x34))) ∧ ((v29 = 0) → (wp_X11_meet t22 v24 v30 (fun r36 => ((r36 = 0) → (∀ x39 : Int32, x39 = v30 + 1 → (wp_X11_loops_L95 post K t22 v24 n95 0 x39))) ∧ ((¬ r36 = 0) → (∀ x41 : Int32, x41 = v30 + 1 → (wp_X11_loops_L95 post K t22 v24 n95 1 x41))))))))
def wp_X11_loops_L82 (post : Int32 → St → Prop) (K : Int32 → Prop) (t22 : St) : Nat → Int32 → Int32 → Prop
  | 0, _, _ => False
  | n82 + 1, v23, v24 => ((20 ≤ v24) → (K v23)) ∧ ((¬ 20 ≤ v24) → (∀ x27 : Int32, x27 = (v24 + 2) → (∃ m95 : Nat, wp_X11_loops_L95 post (fun v43 => ∀ x45 : Int32, x45 = v24 + 1 → (wp_X11_loops_L82 post K t22 n82 v43 x45)) t22 v24 m95 v23 x27)))
def wp_X11_loops_L35 (post : Int32 → St → Prop) (K : St → Prop) : Nat → St → Int32 → Prop
  | 0, _, _ => False
  | n35 + 1, t12, v11 => ((20 < v11) → (K t12)) ∧ ((¬ 20 < v11) → (wp_X11_seeBall t12 v11 (fun t15 => ∀ x16 : Int32, x16 = gI t15 1 → (vp_in v11 21 ∧ (∀ x18 : Int32, x18 = gI t15 2 → (vp_in v11 21 ∧ (∀ x20 : Int32, x20 = v11 + 1 → (wp_X11_loops_L35 post K n35 (sA (sA t15 20 (upd (gA t15 20) v11.toNatClampNeg x16)) 21 (upd (gA t15 21) v11.toNatClampNeg x18)) x20))))))))
def wp_X11_loops (st : St) (a1 : Int32) (a2 : Int32) (a3 : Int32) (post : Int32 → St → Prop) : Prop := wp_X11_isOne st a1 (fun r1 => ((¬ r1 = 0) → (wp_X11_isThrow a2 a3 (fun r4 => ((¬ r4 = 0) → (wp_X11_layTurns st (fun t8 => wp_X11_layThrow t8 a1 a2 a3 (fun t10 => ∃ m35 : Nat, wp_X11_loops_L35 post (fun t22 => ∃ m82 : Nat, wp_X11_loops_L82 post (fun v47 => ((v47 = 0) → (post 0 t22)) ∧ ((¬ v47 = 0) → (post 1 t22))) t22 m82 0 0) m35 t10 0)))) ∧ ((r4 = 0) → (post (-2) st))))) ∧ ((r1 = 0) → (post (-1) st)))
set_option maxHeartbeats 4000000 in
set_option maxRecDepth 100000 in
theorem c_X11_loops (l : Launch) (D : va_G) (cy : Nat → ClassId) (tz : Nat → Nat) (ad : Nat → Nat) (st : St) (a1 : Int32) (a2 : Int32) (a3 : Int32) (post : Int32 → St → Prop) (h : wp_X11_loops st a1 a2 a3 post) : CtI l D cy tz yX11_loops ws_X11_loops rm_X11_loops [.ref (ad 0), .int a1, .int a2, .int a3] (wM cy ad st) (wM cy ad) post := by
  refine CtI.of (own := RX11) (nm := "loops") (lv := [(0, .ref (ad 0)), (1, .int a1), (2, .int a2), (3, .int a3)]) (plainFor_of_name (by decide)) rfl rfl (Nat.le_of_ble_eq_true rfl) rfl ?_
  intro p e s m args below meth c A Q ls B hP hD hS hl hret
  obtain ⟨hx, hb, hml, hown, hts, hK, hZ, hA, hnm⟩ := B
  have SF : CallFix p m c cX11_loops 7 s args wsL_law RX11 := ⟨hx, hb, hml, hown, hts⟩
  unfold wp_X11_loops at h
  refine lv_aload_n hx hb dX11_loops_0 rfl (lv_at hl 0 rfl) ?_
  refine lv_iload_n hx hb dX11_loops_1 rfl (lv_at hl 1 rfl) ?_
  refine callVIr (rest := []) SF (c_X11_isOne l D cy tz ad st a1 _ h) (cw_RX11_142 hts ⟨Nat.le_of_ble_eq_true rfl, Nat.le_of_ble_eq_true rfl⟩) rfl rfl (va_recv hK hP (ci := 10) (q0 := 0) rfl rfl) hK hZ hA hP hD hS rfl hl.1 rfl (Nat.le_of_ble_eq_true rfl) dX11_loops_2 ⟨Nat.zero_le _, Nat.zero_le _⟩ (fun r1 H locs h hP hD hS => ?_)
  refine lv_if_ne (tgt := 10) hx hb dX11_loops_5 (by decide) (fun c3 => ?_) (fun c3 => ?_)
  · have h := h.1 c3
    refine lv_iload_n hx hb dX11_loops_10 rfl (lv_at hl 2 rfl) ?_
    refine lv_iload_n hx hb dX11_loops_11 rfl (lv_at hl 3 rfl) ?_
    refine callSIr (rest := []) SF (c_X11_isThrow l D cy tz _ a2 a3 _ h) (cw_RX11_173 hts ⟨Nat.le_of_ble_eq_true rfl, Nat.le_of_ble_eq_true rfl⟩) rfl rfl hK hZ hA hP hD hS rfl hl.1 rfl (Nat.le_of_ble_eq_true rfl) dX11_loops_12 ⟨Nat.zero_le _, Nat.zero_le _⟩ (fun r4 H locs h hP hD hS => ?_)
    refine lv_if_ne (tgt := 21) hx hb dX11_loops_15 (by decide) (fun c6 => ?_) (fun c6 => ?_)
    · have h := h.1 c6
      refine lv_aload_n hx hb dX11_loops_21 rfl (lv_at hl 0 rfl) ?_
      refine callVV (rest := []) SF (c_X11_layTurns l D cy tz ad st _ h) (cw_RX11_124 hts ⟨Nat.le_of_ble_eq_true rfl, Nat.le_of_ble_eq_true rfl⟩) rfl rfl (va_recv hK hP (ci := 10) (q0 := 0) rfl rfl) hK hZ hA hP hD hS rfl hl.1 rfl (Nat.le_of_ble_eq_true rfl) dX11_loops_22 ⟨Nat.zero_le _, Nat.zero_le _⟩ (fun t8 H locs h hP hD hS => ?_)
      refine lv_aload_n hx hb dX11_loops_25 rfl (lv_at hl 0 rfl) ?_
      refine lv_iload_n hx hb dX11_loops_26 rfl (lv_at hl 1 rfl) ?_
      refine lv_iload_n hx hb dX11_loops_27 rfl (lv_at hl 2 rfl) ?_
      refine lv_iload_n hx hb dX11_loops_28 rfl (lv_at hl 3 rfl) ?_
      refine callVV (rest := []) SF (c_X11_layThrow l D cy tz ad t8 a1 a2 a3 _ h) (cw_RX11_177 hts ⟨Nat.le_of_ble_eq_true rfl, Nat.le_of_ble_eq_true rfl⟩) rfl rfl (va_recv hK hP (ci := 10) (q0 := 0) rfl rfl) hK hZ hA hP hD hS rfl hl.1 rfl (Nat.le_of_ble_eq_true rfl) dX11_loops_29 ⟨Nat.zero_le _, Nat.zero_le _⟩ (fun t10 H locs h hP hD hS => ?_)
      refine lv_iconst (v := 0) hx hb dX11_loops_32 (by decide) ?_
      refine lv_istore (lv' := [(4, .int 0), (0, .ref (ad 0)), (1, .int a1), (2, .int a2), (3, .int a3)]) hx hb dX11_loops_33 hl (by decide) rfl (fun ls hl => ?_)
      have loop35 : ∀ (K : St → Prop), (∀ (t22 : St) (H : Heap) (locs : List Loc) (ls : Array Slot), K t22 → va_P D vwCl (wM cy ad t22) H → va_D A (wM cy ad t22) → va_S A s.heap H locs → lv_has ls 7 [(0, .ref (ad 0))] → W p l e rm_X11_loops s m args below meth c H locs 0 0 Q (F0 m 76 ls [])) → ∀ (n : Nat) (t12 : St) (v11 : Int32) (H : Heap) (locs : List Loc) (ls : Array Slot), wp_X11_loops_L35 post K n t12 v11 → va_P D vwCl (wM cy ad t12) H → va_D A (wM cy ad t12) → va_S A s.heap H locs → lv_has ls 7 [(0, .ref (ad 0)), (4, .int v11)] → W p l e rm_X11_loops s m args below meth c H locs 0 0 Q (F0 m 35 ls []) := by
        intro K hE35 n
        induction n with
        | zero => intro t12 v11 H locs ls h; exact h.elim
        | succ n ih35 =>
          intro t12 v11 H locs ls h hP hD hS hl
          rw [wp_X11_loops_L35] at h
          refine lv_iload hx hb dX11_loops_35 (lv_at hl 1 rfl) ?_
          refine lv_bipush (v := 20) hx hb dX11_loops_37 (by decide) ?_
          refine lv_icmp_gt (tgt := 76) hx hb dX11_loops_39 (by decide) (fun c13 => ?_) (fun c13 => ?_)
          · have h := h.1 c13
            exact hE35 _ _ _ _ h hP hD hS (lv_sub hl [0] rfl)
          · have h := h.2 c13
            refine lv_aload_n hx hb dX11_loops_42 rfl (lv_at hl 0 rfl) ?_
            refine lv_iload hx hb dX11_loops_43 (lv_at hl 1 rfl) ?_
            refine callVV (rest := []) SF (c_X11_seeBall l D cy tz ad t12 v11 _ h) (cw_RX11_180 hts ⟨Nat.le_of_ble_eq_true rfl, Nat.le_of_ble_eq_true rfl⟩) rfl rfl (va_recv hK hP (ci := 10) (q0 := 0) rfl rfl) hK hZ hA hP hD hS rfl hl.1 rfl (Nat.le_of_ble_eq_true rfl) dX11_loops_45 ⟨Nat.zero_le _, Nat.zero_le _⟩ (fun t15 H locs h hP hD hS => ?_)
            refine lv_aload_n hx hb dX11_loops_48 rfl (lv_at hl 0 rfl) ?_
            refine va_get (D := D) (ci := 10) (v := .ref (ad 11)) (C := RX11) (T := TX11) (N := 35) hx hb hts inlX11 hown hK hP 0 rfl rfl 20 (by decide) (hts _ w_5_17) (fun _ h9 => h9) rfl dX11_loops_49 ?_
            refine lv_iload hx hb dX11_loops_52 (lv_at hl 1 rfl) ?_
            refine lv_aload_n hx hb dX11_loops_54 rfl (lv_at hl 0 rfl) ?_
            refine va_get (D := D) (ci := 10) (v := .int (gI t15 1)) (C := RX11) (T := TX11) (N := 35) hx hb hts inlX11 hown hK hP 0 rfl rfl 1 (by decide) (hts _ w_14_3) (fun _ h9 => h9) rfl dX11_loops_55 ?_
            refine lv_topi (fun x16 e17 => ?_)
            have h := h x16 e17
            refine va_iast (f := gA t15 20) (n := 21) hx hb hK hP hD hS 11 0 rfl rfl h.1 dX11_loops_58 (fun H locs hP hD hS => ?_)
            have h := h.2
            have hP : va_P D vwCl (wM cy ad (sA t15 20 (upd (gA t15 20) v11.toNatClampNeg x16))) H := hP
            have hD : va_D A (wM cy ad (sA t15 20 (upd (gA t15 20) v11.toNatClampNeg x16))) := hD
            refine lv_aload_n hx hb dX11_loops_59 rfl (lv_at hl 0 rfl) ?_
            refine va_get (D := D) (ci := 10) (v := .ref (ad 12)) (C := RX11) (T := TX11) (N := 35) hx hb hts inlX11 hown hK hP 0 rfl rfl 21 (by decide) (hts _ w_5_18) (fun _ h9 => h9) rfl dX11_loops_60 ?_
            refine lv_iload hx hb dX11_loops_63 (lv_at hl 1 rfl) ?_
            refine lv_aload_n hx hb dX11_loops_65 rfl (lv_at hl 0 rfl) ?_
            refine va_get (D := D) (ci := 10) (v := .int (gI t15 2)) (C := RX11) (T := TX11) (N := 35) hx hb hts inlX11 hown hK hP 0 rfl rfl 2 (by decide) (hts _ w_14_4) (fun _ h9 => h9) rfl dX11_loops_66 ?_
            refine lv_topi (fun x18 e19 => ?_)
            have h := h x18 e19
            refine va_iast (f := gA t15 21) (n := 21) hx hb hK hP hD hS 12 0 rfl rfl h.1 dX11_loops_69 (fun H locs hP hD hS => ?_)
            have h := h.2
            have hP : va_P D vwCl (wM cy ad (sA (sA t15 20 (upd (gA t15 20) v11.toNatClampNeg x16)) 21 (upd (gA t15 21) v11.toNatClampNeg x18))) H := hP
            have hD : va_D A (wM cy ad (sA (sA t15 20 (upd (gA t15 20) v11.toNatClampNeg x16)) 21 (upd (gA t15 21) v11.toNatClampNeg x18))) := hD
            obtain ⟨x20, e21⟩ : ∃ z : Int32, z = v11 + 1 := ⟨_, rfl⟩
            have h := h x20 e21
            refine lv_iinc (v := x20) (lv' := [(4, .int x20), (0, .ref (ad 0))]) hx hb dX11_loops_70 hl (k := 1) rfl (by rw [e21]; rfl) (by decide) rfl (fun ls hl => ?_)
            refine lv_goto (tgt := 35) hx hb dX11_loops_73 (by decide) ?_
            exact ih35 _ _ _ _ _ h hP hD hS (lv_sub hl [1, 0] rfl)
      obtain ⟨n, h⟩ := h
      refine loop35 _ ?_ n _ _ _ _ _ h hP hD hS (lv_sub hl [1, 0] rfl)
      intro t22 H locs ls h hP hD hS hl
      refine lv_iconst (v := 0) hx hb dX11_loops_76 (by decide) ?_
      refine lv_istore (lv' := [(4, .int 0), (0, .ref (ad 0))]) hx hb dX11_loops_77 hl (by decide) rfl (fun ls hl => ?_)
      refine lv_iconst (v := 0) hx hb dX11_loops_79 (by decide) ?_
      refine lv_istore (lv' := [(5, .int 0), (4, .int 0), (0, .ref (ad 0))]) hx hb dX11_loops_80 hl (by decide) rfl (fun ls hl => ?_)
      have loop82 : ∀ (K : Int32 → Prop), (∀ (v47 : Int32) (H : Heap) (locs : List Loc) (ls : Array Slot), K v47 → va_P D vwCl (wM cy ad t22) H → va_D A (wM cy ad t22) → va_S A s.heap H locs → lv_has ls 7 [(4, .int v47)] → W p l e rm_X11_loops s m args below meth c H locs 0 0 Q (F0 m 137 ls [])) → ∀ (n : Nat) (v23 : Int32) (v24 : Int32) (H : Heap) (locs : List Loc) (ls : Array Slot), wp_X11_loops_L82 post K t22 n v23 v24 → va_P D vwCl (wM cy ad t22) H → va_D A (wM cy ad t22) → va_S A s.heap H locs → lv_has ls 7 [(0, .ref (ad 0)), (4, .int v23), (5, .int v24)] → W p l e rm_X11_loops s m args below meth c H locs 0 0 Q (F0 m 82 ls []) := by
        intro K hE82 n
        induction n with
        | zero => intro v23 v24 H locs ls h; exact h.elim
        | succ n ih82 =>
          intro v23 v24 H locs ls h hP hD hS hl
          rw [wp_X11_loops_L82] at h
          refine lv_iload hx hb dX11_loops_82 (lv_at hl 2 rfl) ?_
          refine lv_bipush (v := 20) hx hb dX11_loops_84 (by decide) ?_
          refine lv_icmp_ge (tgt := 137) hx hb dX11_loops_86 (by decide) (fun c26 => ?_) (fun c26 => ?_)
          · have h := h.1 c26
            exact hE82 _ _ _ _ h hP hD hS (lv_sub hl [1] rfl)
          · have h := h.2 c26
            refine lv_iload hx hb dX11_loops_89 (lv_at hl 2 rfl) ?_
            refine lv_iconst (v := 2) hx hb dX11_loops_91 (by decide) ?_
            refine lv_iadd hx hb dX11_loops_92 ?_
            refine lv_topi (fun x27 e28 => ?_)
            have h := h x27 e28
            refine lv_istore (lv' := [(6, .int x27), (0, .ref (ad 0)), (4, .int v23), (5, .int v24)]) hx hb dX11_loops_93 hl (by decide) rfl (fun ls hl => ?_)
            have loop95 : ∀ (K : Int32 → Prop), (∀ (v43 : Int32) (H : Heap) (locs : List Loc) (ls : Array Slot), K v43 → va_P D vwCl (wM cy ad t22) H → va_D A (wM cy ad t22) → va_S A s.heap H locs → lv_has ls 7 [(0, .ref (ad 0)), (4, .int v43), (5, .int v24)] → W p l e rm_X11_loops s m args below meth c H locs 0 0 Q (F0 m 131 ls [])) → ∀ (n : Nat) (v29 : Int32) (v30 : Int32) (H : Heap) (locs : List Loc) (ls : Array Slot), wp_X11_loops_L95 post K t22 v24 n v29 v30 → va_P D vwCl (wM cy ad t22) H → va_D A (wM cy ad t22) → va_S A s.heap H locs → lv_has ls 7 [(0, .ref (ad 0)), (4, .int v29), (5, .int v24), (6, .int v30)] → W p l e rm_X11_loops s m args below meth c H locs 0 0 Q (F0 m 95 ls []) := by
              intro K hE95 n
              induction n with
              | zero => intro v29 v30 H locs ls h; exact h.elim
              | succ n ih95 =>
                intro v29 v30 H locs ls h hP hD hS hl
                rw [wp_X11_loops_L95] at h
                refine lv_iload hx hb dX11_loops_95 (lv_at hl 3 rfl) ?_
                refine lv_bipush (v := 20) hx hb dX11_loops_97 (by decide) ?_
                refine lv_icmp_ge (tgt := 131) hx hb dX11_loops_99 (by decide) (fun c32 => ?_) (fun c32 => ?_)
                · have h := h.1 c32
                  exact hE95 _ _ _ _ h hP hD hS (lv_sub hl [0, 1, 2] rfl)
                · have h := h.2 c32
                  refine lv_iload hx hb dX11_loops_102 (lv_at hl 1 rfl) ?_
                  refine lv_if_ne (tgt := 118) hx hb dX11_loops_104 (by decide) (fun c33 => ?_) (fun c33 => ?_)
                  · have h := h.1 c33
                    refine lv_iconst (v := 1) hx hb dX11_loops_118 (by decide) ?_
                    refine lv_goto (tgt := 123) hx hb dX11_loops_119 (by decide) ?_
                    refine lv_istore (lv' := [(4, .int 1), (0, .ref (ad 0)), (5, .int v24), (6, .int v30)]) hx hb dX11_loops_123 hl (by decide) rfl (fun ls hl => ?_)
                    obtain ⟨x34, e35⟩ : ∃ z : Int32, z = v30 + 1 := ⟨_, rfl⟩
                    have h := h x34 e35
                    refine lv_iinc (v := x34) (lv' := [(6, .int x34), (4, .int 1), (0, .ref (ad 0)), (5, .int v24)]) hx hb dX11_loops_125 hl (k := 3) rfl (by rw [e35]; rfl) (by decide) rfl (fun ls hl => ?_)
                    refine lv_goto (tgt := 95) hx hb dX11_loops_128 (by decide) ?_
                    exact ih95 _ _ _ _ _ h hP hD hS (lv_sub hl [2, 1, 3, 0] rfl)
                  · have h := h.2 c33
                    refine lv_aload_n hx hb dX11_loops_107 rfl (lv_at hl 0 rfl) ?_
                    refine lv_iload hx hb dX11_loops_108 (lv_at hl 2 rfl) ?_
                    refine lv_iload hx hb dX11_loops_110 (lv_at hl 3 rfl) ?_
                    refine callVIr (rest := []) SF (c_X11_meet l D cy tz ad t22 v24 v30 _ h) (cw_RX11_209 hts ⟨Nat.le_of_ble_eq_true rfl, Nat.le_of_ble_eq_true rfl⟩) rfl rfl (va_recv hK hP (ci := 10) (q0 := 0) rfl rfl) hK hZ hA hP hD hS rfl hl.1 rfl (Nat.le_of_ble_eq_true rfl) dX11_loops_112 ⟨Nat.zero_le _, Nat.zero_le _⟩ (fun r36 H locs h hP hD hS => ?_)
                    refine lv_if_eq (tgt := 122) hx hb dX11_loops_115 (by decide) (fun c38 => ?_) (fun c38 => ?_)
                    · have h := h.1 c38
                      refine lv_iconst (v := 0) hx hb dX11_loops_122 (by decide) ?_
                      refine lv_istore (lv' := [(4, .int 0), (0, .ref (ad 0)), (5, .int v24), (6, .int v30)]) hx hb dX11_loops_123 hl (by decide) rfl (fun ls hl => ?_)
                      obtain ⟨x39, e40⟩ : ∃ z : Int32, z = v30 + 1 := ⟨_, rfl⟩
                      have h := h x39 e40
                      refine lv_iinc (v := x39) (lv' := [(6, .int x39), (4, .int 0), (0, .ref (ad 0)), (5, .int v24)]) hx hb dX11_loops_125 hl (k := 3) rfl (by rw [e40]; rfl) (by decide) rfl (fun ls hl => ?_)
                      refine lv_goto (tgt := 95) hx hb dX11_loops_128 (by decide) ?_
                      exact ih95 _ _ _ _ _ h hP hD hS (lv_sub hl [2, 1, 3, 0] rfl)
                    · have h := h.2 c38
                      refine lv_iconst (v := 1) hx hb dX11_loops_118 (by decide) ?_
                      refine lv_goto (tgt := 123) hx hb dX11_loops_119 (by decide) ?_
                      refine lv_istore (lv' := [(4, .int 1), (0, .ref (ad 0)), (5, .int v24), (6, .int v30)]) hx hb dX11_loops_123 hl (by decide) rfl (fun ls hl => ?_)
                      obtain ⟨x41, e42⟩ : ∃ z : Int32, z = v30 + 1 := ⟨_, rfl⟩
                      have h := h x41 e42
                      refine lv_iinc (v := x41) (lv' := [(6, .int x41), (4, .int 1), (0, .ref (ad 0)), (5, .int v24)]) hx hb dX11_loops_125 hl (k := 3) rfl (by rw [e42]; rfl) (by decide) rfl (fun ls hl => ?_)
                      refine lv_goto (tgt := 95) hx hb dX11_loops_128 (by decide) ?_
                      exact ih95 _ _ _ _ _ h hP hD hS (lv_sub hl [2, 1, 3, 0] rfl)
            obtain ⟨n, h⟩ := h
            refine loop95 _ ?_ n _ _ _ _ _ h hP hD hS (lv_sub hl [1, 2, 3, 0] rfl)
            intro v43 H locs ls h hP hD hS hl
            obtain ⟨x45, e46⟩ : ∃ z : Int32, z = v24 + 1 := ⟨_, rfl⟩
            have h := h x45 e46
            refine lv_iinc (v := x45) (lv' := [(5, .int x45), (0, .ref (ad 0)), (4, .int v43)]) hx hb dX11_loops_131 hl (k := 2) rfl (by rw [e46]; rfl) (by decide) rfl (fun ls hl => ?_)
            refine lv_goto (tgt := 82) hx hb dX11_loops_134 (by decide) ?_
            exact ih82 _ _ _ _ _ h hP hD hS (lv_sub hl [1, 2, 0] rfl)
      obtain ⟨n, h⟩ := h
      refine loop82 _ ?_ n _ _ _ _ _ h hP hD hS (lv_sub hl [2, 1, 0] rfl)
      intro v47 H locs ls h hP hD hS hl
      refine lv_iload hx hb dX11_loops_137 (lv_at hl 0 rfl) ?_
      refine lv_if_eq (tgt := 146) hx hb dX11_loops_139 (by decide) (fun c49 => ?_) (fun c49 => ?_)
      · have h := h.1 c49
        refine lv_iconst (v := 0) hx hb dX11_loops_146 (by decide) ?_
        exact hret _ _ _ _ _ _ rfl h hP hD hS dX11_loops_147
      · have h := h.2 c49
        refine lv_iconst (v := 1) hx hb dX11_loops_142 (by decide) ?_
        refine lv_goto (tgt := 147) hx hb dX11_loops_143 (by decide) ?_
        exact hret _ _ _ _ _ _ rfl h hP hD hS dX11_loops_147
    · have h := h.2 c6
      refine lv_bipush (v := (-2)) hx hb dX11_loops_18 (by decide) ?_
      exact hret _ _ _ _ _ _ rfl h hP hD hS dX11_loops_20
  · have h := h.2 c3
    refine lv_iconst (v := (-1)) hx hb dX11_loops_8 (by decide) ?_
    exact hret _ _ _ _ _ _ rfl h hP hD hS dX11_loops_9
-- X11_beginRoll
def rm_X11_beginRoll : Room := { frames := 2, cells := 0, slots := 0, locals := 44 }
abbrev ws_X11_beginRoll : List Cond := .code yX11_beginRoll cX11_beginRoll 5 none :: wsL_law
def wp_X11_beginRoll (st : St) (a1 : Int32) (a2 : Int32) (a3 : Int32) (a4 : Int32) (post : St → Prop) : Prop := wp_X11_layTurns st (fun t2 => wp_X11_wayAt t2 0 (fun r3 => wp_X11_turnPoint t2 a1 a2 r3 (fun t6 => ∀ x7 : Int32, x7 = gI t6 1 → (∀ x9 : Int32, x9 = gI t6 2 → (wp_X11_wayAt (sI (sI t6 22 x7) 23 x9) 1 (fun r11 => wp_X11_turnPoint (sI (sI t6 22 x7) 23 x9) a1 a2 r11 (fun t14 => ∀ x15 : Int32, x15 = (gI t14 1 - gI t14 22) → (∀ x17 : Int32, x17 = (gI t14 2 - gI t14 23) → (wp_X11_turnPoint (sI (sI t14 17 x15) 18 x17) a3 0 a4 (fun t20 => ∀ x21 : Int32, x21 = (gI t20 17 + gI t20 1) → (∀ x23 : Int32, x23 = (gI t20 18 + gI t20 2) → (post (sI (sI (sI t20 17 x21) 18 x23) 24 0)))))))))))))
set_option maxHeartbeats 4000000 in
set_option maxRecDepth 100000 in
theorem c_X11_beginRoll (l : Launch) (D : va_G) (cy : Nat → ClassId) (tz : Nat → Nat) (ad : Nat → Nat) (st : St) (a1 : Int32) (a2 : Int32) (a3 : Int32) (a4 : Int32) (post : St → Prop) (h : wp_X11_beginRoll st a1 a2 a3 a4 post) : CtV l D cy tz yX11_beginRoll ws_X11_beginRoll rm_X11_beginRoll [.ref (ad 0), .int a1, .int a2, .int a3, .int a4] (wM cy ad st) (wM cy ad) post := by
  refine CtV.of (own := RX11) (nm := "beginRoll") (lv := [(0, .ref (ad 0)), (1, .int a1), (2, .int a2), (3, .int a3), (4, .int a4)]) (plainFor_of_name (by decide)) rfl rfl (Nat.le_of_ble_eq_true rfl) rfl ?_
  intro p e s m args below meth c A Q ls B hP hD hS hl hret
  obtain ⟨hx, hb, hml, hown, hts, hK, hZ, hA, hnm⟩ := B
  have SF : CallFix p m c cX11_beginRoll 5 s args wsL_law RX11 := ⟨hx, hb, hml, hown, hts⟩
  unfold wp_X11_beginRoll at h
  refine lv_aload_n hx hb dX11_beginRoll_0 rfl (lv_at hl 0 rfl) ?_
  refine callVV (rest := []) SF (c_X11_layTurns l D cy tz ad st _ h) (cw_RX11_124 hts ⟨Nat.le_of_ble_eq_true rfl, Nat.le_of_ble_eq_true rfl⟩) rfl rfl (va_recv hK hP (ci := 10) (q0 := 0) rfl rfl) hK hZ hA hP hD hS rfl hl.1 rfl (Nat.le_of_ble_eq_true rfl) dX11_beginRoll_1 ⟨Nat.zero_le _, Nat.zero_le _⟩ (fun t2 H locs h hP hD hS => ?_)
  refine lv_aload_n hx hb dX11_beginRoll_4 rfl (lv_at hl 0 rfl) ?_
  refine lv_iload_n hx hb dX11_beginRoll_5 rfl (lv_at hl 1 rfl) ?_
  refine lv_iload_n hx hb dX11_beginRoll_6 rfl (lv_at hl 2 rfl) ?_
  refine lv_aload_n hx hb dX11_beginRoll_7 rfl (lv_at hl 0 rfl) ?_
  refine lv_iconst (v := 0) hx hb dX11_beginRoll_8 (by decide) ?_
  refine callVIr (rest := [.int a2, .int a1, .ref (ad 0)]) SF (c_X11_wayAt l D cy tz ad t2 0 _ h) (cw_RX11_139 hts ⟨Nat.le_of_ble_eq_true rfl, Nat.le_of_ble_eq_true rfl⟩) rfl rfl (va_recv hK hP (ci := 10) (q0 := 0) rfl rfl) hK hZ hA hP hD hS rfl hl.1 rfl (Nat.le_of_ble_eq_true rfl) dX11_beginRoll_9 ⟨Nat.zero_le _, Nat.zero_le _⟩ (fun r3 H locs h hP hD hS => ?_)
  refine callVV (rest := []) SF (c_X11_turnPoint l D cy tz ad t2 a1 a2 r3 _ h) (cw_RX11_135 hts ⟨Nat.le_of_ble_eq_true rfl, Nat.le_of_ble_eq_true rfl⟩) rfl rfl (va_recv hK hP (ci := 10) (q0 := 0) rfl rfl) hK hZ hA hP hD hS rfl hl.1 rfl (Nat.le_of_ble_eq_true rfl) dX11_beginRoll_12 ⟨Nat.zero_le _, Nat.zero_le _⟩ (fun t6 H locs h hP hD hS => ?_)
  refine lv_aload_n hx hb dX11_beginRoll_15 rfl (lv_at hl 0 rfl) ?_
  refine lv_aload_n hx hb dX11_beginRoll_16 rfl (lv_at hl 0 rfl) ?_
  refine va_get (D := D) (ci := 10) (v := .int (gI t6 1)) (C := RX11) (T := TX11) (N := 35) hx hb hts inlX11 hown hK hP 0 rfl rfl 1 (by decide) (hts _ w_14_3) (fun _ h9 => h9) rfl dX11_beginRoll_17 ?_
  refine lv_topi (fun x7 e8 => ?_)
  have h := h x7 e8
  refine va_put (D := D) (ci := 10) (v := .int x7) (ty := .int) (C := RX11) (T := TX11) (N := 35) hx hb hts inlX11 tyX11 tyX11_ok nmX11 hown hK hP hD hS 0 rfl rfl 22 (by decide) (hts _ w_26_8) (fun _ h9 => h9) rfl (by decide +kernel) rfl rfl (Nat.le_of_ble_eq_true rfl) dX11_beginRoll_20 (fun H locs hP hD hS => ?_)
  have hP : va_P D vwCl (wM cy ad (sI t6 22 x7)) H := hP
  have hD : va_D A (wM cy ad (sI t6 22 x7)) := hD
  refine lv_aload_n hx hb dX11_beginRoll_23 rfl (lv_at hl 0 rfl) ?_
  refine lv_aload_n hx hb dX11_beginRoll_24 rfl (lv_at hl 0 rfl) ?_
  refine va_get (D := D) (ci := 10) (v := .int (gI t6 2)) (C := RX11) (T := TX11) (N := 35) hx hb hts inlX11 hown hK hP 0 rfl rfl 2 (by decide) (hts _ w_14_4) (fun _ h9 => h9) rfl dX11_beginRoll_25 ?_
  refine lv_topi (fun x9 e10 => ?_)
  have h := h x9 e10
  refine va_put (D := D) (ci := 10) (v := .int x9) (ty := .int) (C := RX11) (T := TX11) (N := 35) hx hb hts inlX11 tyX11 tyX11_ok nmX11 hown hK hP hD hS 0 rfl rfl 23 (by decide) (hts _ w_26_9) (fun _ h9 => h9) rfl (by decide +kernel) rfl rfl (Nat.le_of_ble_eq_true rfl) dX11_beginRoll_28 (fun H locs hP hD hS => ?_)
  have hP : va_P D vwCl (wM cy ad (sI (sI t6 22 x7) 23 x9)) H := hP
  have hD : va_D A (wM cy ad (sI (sI t6 22 x7) 23 x9)) := hD
  refine lv_aload_n hx hb dX11_beginRoll_31 rfl (lv_at hl 0 rfl) ?_
  refine lv_iload_n hx hb dX11_beginRoll_32 rfl (lv_at hl 1 rfl) ?_
  refine lv_iload_n hx hb dX11_beginRoll_33 rfl (lv_at hl 2 rfl) ?_
  refine lv_aload_n hx hb dX11_beginRoll_34 rfl (lv_at hl 0 rfl) ?_
  refine lv_iconst (v := 1) hx hb dX11_beginRoll_35 (by decide) ?_
  refine callVIr (rest := [.int a2, .int a1, .ref (ad 0)]) SF (c_X11_wayAt l D cy tz ad (sI (sI t6 22 x7) 23 x9) 1 _ h) (cw_RX11_139 hts ⟨Nat.le_of_ble_eq_true rfl, Nat.le_of_ble_eq_true rfl⟩) rfl rfl (va_recv hK hP (ci := 10) (q0 := 0) rfl rfl) hK hZ hA hP hD hS rfl hl.1 rfl (Nat.le_of_ble_eq_true rfl) dX11_beginRoll_36 ⟨Nat.zero_le _, Nat.zero_le _⟩ (fun r11 H locs h hP hD hS => ?_)
  refine callVV (rest := []) SF (c_X11_turnPoint l D cy tz ad (sI (sI t6 22 x7) 23 x9) a1 a2 r11 _ h) (cw_RX11_135 hts ⟨Nat.le_of_ble_eq_true rfl, Nat.le_of_ble_eq_true rfl⟩) rfl rfl (va_recv hK hP (ci := 10) (q0 := 0) rfl rfl) hK hZ hA hP hD hS rfl hl.1 rfl (Nat.le_of_ble_eq_true rfl) dX11_beginRoll_39 ⟨Nat.zero_le _, Nat.zero_le _⟩ (fun t14 H locs h hP hD hS => ?_)
  refine lv_aload_n hx hb dX11_beginRoll_42 rfl (lv_at hl 0 rfl) ?_
  refine lv_aload_n hx hb dX11_beginRoll_43 rfl (lv_at hl 0 rfl) ?_
  refine va_get (D := D) (ci := 10) (v := .int (gI t14 1)) (C := RX11) (T := TX11) (N := 35) hx hb hts inlX11 hown hK hP 0 rfl rfl 1 (by decide) (hts _ w_14_3) (fun _ h9 => h9) rfl dX11_beginRoll_44 ?_
  refine lv_aload_n hx hb dX11_beginRoll_47 rfl (lv_at hl 0 rfl) ?_
  refine va_get (D := D) (ci := 10) (v := .int (gI t14 22)) (C := RX11) (T := TX11) (N := 35) hx hb hts inlX11 hown hK hP 0 rfl rfl 22 (by decide) (hts _ w_26_8) (fun _ h9 => h9) rfl dX11_beginRoll_48 ?_
  refine lv_isub hx hb dX11_beginRoll_51 ?_
  refine lv_topi (fun x15 e16 => ?_)
  have h := h x15 e16
  refine va_put (D := D) (ci := 10) (v := .int x15) (ty := .int) (C := RX11) (T := TX11) (N := 35) hx hb hts inlX11 tyX11 tyX11_ok nmX11 hown hK hP hD hS 0 rfl rfl 17 (by decide) (hts _ w_18_9) (fun _ h9 => h9) rfl (by decide +kernel) rfl rfl (Nat.le_of_ble_eq_true rfl) dX11_beginRoll_52 (fun H locs hP hD hS => ?_)
  have hP : va_P D vwCl (wM cy ad (sI t14 17 x15)) H := hP
  have hD : va_D A (wM cy ad (sI t14 17 x15)) := hD
  refine lv_aload_n hx hb dX11_beginRoll_55 rfl (lv_at hl 0 rfl) ?_
  refine lv_aload_n hx hb dX11_beginRoll_56 rfl (lv_at hl 0 rfl) ?_
  refine va_get (D := D) (ci := 10) (v := .int (gI t14 2)) (C := RX11) (T := TX11) (N := 35) hx hb hts inlX11 hown hK hP 0 rfl rfl 2 (by decide) (hts _ w_14_4) (fun _ h9 => h9) rfl dX11_beginRoll_57 ?_
  refine lv_aload_n hx hb dX11_beginRoll_60 rfl (lv_at hl 0 rfl) ?_
  refine va_get (D := D) (ci := 10) (v := .int (gI t14 23)) (C := RX11) (T := TX11) (N := 35) hx hb hts inlX11 hown hK hP 0 rfl rfl 23 (by decide) (hts _ w_26_9) (fun _ h9 => h9) rfl dX11_beginRoll_61 ?_
  refine lv_isub hx hb dX11_beginRoll_64 ?_
  refine lv_topi (fun x17 e18 => ?_)
  have h := h x17 e18
  refine va_put (D := D) (ci := 10) (v := .int x17) (ty := .int) (C := RX11) (T := TX11) (N := 35) hx hb hts inlX11 tyX11 tyX11_ok nmX11 hown hK hP hD hS 0 rfl rfl 18 (by decide) (hts _ w_18_10) (fun _ h9 => h9) rfl (by decide +kernel) rfl rfl (Nat.le_of_ble_eq_true rfl) dX11_beginRoll_65 (fun H locs hP hD hS => ?_)
  have hP : va_P D vwCl (wM cy ad (sI (sI t14 17 x15) 18 x17)) H := hP
  have hD : va_D A (wM cy ad (sI (sI t14 17 x15) 18 x17)) := hD
  refine lv_aload_n hx hb dX11_beginRoll_68 rfl (lv_at hl 0 rfl) ?_
  refine lv_iload_n hx hb dX11_beginRoll_69 rfl (lv_at hl 3 rfl) ?_
  refine lv_iconst (v := 0) hx hb dX11_beginRoll_70 (by decide) ?_
  refine lv_iload hx hb dX11_beginRoll_71 (lv_at hl 4 rfl) ?_
  refine callVV (rest := []) SF (c_X11_turnPoint l D cy tz ad (sI (sI t14 17 x15) 18 x17) a3 0 a4 _ h) (cw_RX11_135 hts ⟨Nat.le_of_ble_eq_true rfl, Nat.le_of_ble_eq_true rfl⟩) rfl rfl (va_recv hK hP (ci := 10) (q0 := 0) rfl rfl) hK hZ hA hP hD hS rfl hl.1 rfl (Nat.le_of_ble_eq_true rfl) dX11_beginRoll_73 ⟨Nat.zero_le _, Nat.zero_le _⟩ (fun t20 H locs h hP hD hS => ?_)
  refine lv_aload_n hx hb dX11_beginRoll_76 rfl (lv_at hl 0 rfl) ?_
  refine lv_dup hx hb dX11_beginRoll_77 rfl ?_
  refine va_get (D := D) (ci := 10) (v := .int (gI t20 17)) (C := RX11) (T := TX11) (N := 35) hx hb hts inlX11 hown hK hP 0 rfl rfl 17 (by decide) (hts _ w_18_9) (fun _ h9 => h9) rfl dX11_beginRoll_78 ?_
  refine lv_aload_n hx hb dX11_beginRoll_81 rfl (lv_at hl 0 rfl) ?_
  refine va_get (D := D) (ci := 10) (v := .int (gI t20 1)) (C := RX11) (T := TX11) (N := 35) hx hb hts inlX11 hown hK hP 0 rfl rfl 1 (by decide) (hts _ w_14_3) (fun _ h9 => h9) rfl dX11_beginRoll_82 ?_
  refine lv_iadd hx hb dX11_beginRoll_85 ?_
  refine lv_topi (fun x21 e22 => ?_)
  have h := h x21 e22
  refine va_put (D := D) (ci := 10) (v := .int x21) (ty := .int) (C := RX11) (T := TX11) (N := 35) hx hb hts inlX11 tyX11 tyX11_ok nmX11 hown hK hP hD hS 0 rfl rfl 17 (by decide) (hts _ w_18_9) (fun _ h9 => h9) rfl (by decide +kernel) rfl rfl (Nat.le_of_ble_eq_true rfl) dX11_beginRoll_86 (fun H locs hP hD hS => ?_)
  have hP : va_P D vwCl (wM cy ad (sI t20 17 x21)) H := hP
  have hD : va_D A (wM cy ad (sI t20 17 x21)) := hD
  refine lv_aload_n hx hb dX11_beginRoll_89 rfl (lv_at hl 0 rfl) ?_
  refine lv_dup hx hb dX11_beginRoll_90 rfl ?_
  refine va_get (D := D) (ci := 10) (v := .int (gI t20 18)) (C := RX11) (T := TX11) (N := 35) hx hb hts inlX11 hown hK hP 0 rfl rfl 18 (by decide) (hts _ w_18_10) (fun _ h9 => h9) rfl dX11_beginRoll_91 ?_
  refine lv_aload_n hx hb dX11_beginRoll_94 rfl (lv_at hl 0 rfl) ?_
  refine va_get (D := D) (ci := 10) (v := .int (gI t20 2)) (C := RX11) (T := TX11) (N := 35) hx hb hts inlX11 hown hK hP 0 rfl rfl 2 (by decide) (hts _ w_14_4) (fun _ h9 => h9) rfl dX11_beginRoll_95 ?_
  refine lv_iadd hx hb dX11_beginRoll_98 ?_
  refine lv_topi (fun x23 e24 => ?_)
  have h := h x23 e24
  refine va_put (D := D) (ci := 10) (v := .int x23) (ty := .int) (C := RX11) (T := TX11) (N := 35) hx hb hts inlX11 tyX11 tyX11_ok nmX11 hown hK hP hD hS 0 rfl rfl 18 (by decide) (hts _ w_18_10) (fun _ h9 => h9) rfl (by decide +kernel) rfl rfl (Nat.le_of_ble_eq_true rfl) dX11_beginRoll_99 (fun H locs hP hD hS => ?_)
  have hP : va_P D vwCl (wM cy ad (sI (sI t20 17 x21) 18 x23)) H := hP
  have hD : va_D A (wM cy ad (sI (sI t20 17 x21) 18 x23)) := hD
  refine lv_aload_n hx hb dX11_beginRoll_102 rfl (lv_at hl 0 rfl) ?_
  refine lv_iconst (v := 0) hx hb dX11_beginRoll_103 (by decide) ?_
  refine va_put (D := D) (ci := 10) (v := .int 0) (ty := .int) (C := RX11) (T := TX11) (N := 35) hx hb hts inlX11 tyX11 tyX11_ok nmX11 hown hK hP hD hS 0 rfl rfl 24 (by decide) (hts _ w_26_7) (fun _ h9 => h9) rfl (by decide +kernel) rfl rfl (Nat.le_of_ble_eq_true rfl) dX11_beginRoll_104 (fun H locs hP hD hS => ?_)
  have hP : va_P D vwCl (wM cy ad (sI (sI (sI t20 17 x21) 18 x23) 24 0)) H := hP
  have hD : va_D A (wM cy ad (sI (sI (sI t20 17 x21) 18 x23) 24 0)) := hD
  exact hret _ _ _ _ _ h hP hD hS dX11_beginRoll_107
-- X11_roll
def rm_X11_roll : Room := { frames := 1, cells := 0, slots := 0, locals := 27 }
abbrev ws_X11_roll : List Cond := .code yX11_roll cX11_roll 5 none :: wsL_law
def wp_X11_roll (st : St) (post : St → Prop) : Prop := wp_X11_wayAt st (gI st 24) (fun r1 => wp_X11_turnPoint st (gI st 22) (gI st 23) ((24 - r1) - (24 - r1) / 24 * 24) (fun t4 => ∀ x5 : Int32, x5 = gI t4 1 → (∀ x7 : Int32, x7 = gI t4 2 → (wp_X11_wayAt t4 (gI t4 24) (fun r9 => wp_X11_turnPoint t4 x5 x7 r9 (fun t12 => ∀ x13 : Int32, x13 = gI t12 1 → (∀ x15 : Int32, x15 = gI t12 2 → (wp_X11_wayAt t12 (gI t12 24 + 1) (fun r17 => wp_X11_turnPoint t12 x5 x7 r17 (fun t20 => ∀ x21 : Int32, x21 = (gI t20 17 + ((((gI t20 1 - x13) - gI t20 17) * (gA t20 3 (3 : Int32).toNatClampNeg)) / 100)) → (∀ x23 : Int32, x23 = (gI t20 18 + ((((gI t20 2 - x15) - gI t20 18) * (gA t20 3 (3 : Int32).toNatClampNeg)) / 100)) → (∀ x25 : Int32, x25 = (gI t20 22 + x21) → (∀ x27 : Int32, x27 = (gI t20 23 + x23) → (∀ x29 : Int32, x29 = (gI t20 24 + 1) → (post (sI (sI (sI (sI (sI t20 17 x21) 18 x23) 22 x25) 23 x27) 24 x29))))))))))))))))
set_option maxHeartbeats 4000000 in
set_option maxRecDepth 100000 in
theorem c_X11_roll (l : Launch) (D : va_G) (cy : Nat → ClassId) (tz : Nat → Nat) (ad : Nat → Nat) (st : St) (post : St → Prop) (h : wp_X11_roll st post) : CtV l D cy tz yX11_roll ws_X11_roll rm_X11_roll [.ref (ad 0)] (wM cy ad st) (wM cy ad) post := by
  refine CtV.of (own := RX11) (nm := "roll") (lv := [(0, .ref (ad 0))]) (plainFor_of_name (by decide)) rfl rfl (Nat.le_of_ble_eq_true rfl) rfl ?_
  intro p e s m args below meth c A Q ls B hP hD hS hl hret
  obtain ⟨hx, hb, hml, hown, hts, hK, hZ, hA, hnm⟩ := B
  have SF : CallFix p m c cX11_roll 5 s args wsL_law RX11 := ⟨hx, hb, hml, hown, hts⟩
  unfold wp_X11_roll at h
  refine lv_aload_n hx hb dX11_roll_0 rfl (lv_at hl 0 rfl) ?_
  refine lv_aload_n hx hb dX11_roll_1 rfl (lv_at hl 0 rfl) ?_
  refine va_get (D := D) (ci := 10) (v := .int (gI st 22)) (C := RX11) (T := TX11) (N := 35) hx hb hts inlX11 hown hK hP 0 rfl rfl 22 (by decide) (hts _ w_26_8) (fun _ h9 => h9) rfl dX11_roll_2 ?_
  refine lv_aload_n hx hb dX11_roll_5 rfl (lv_at hl 0 rfl) ?_
  refine va_get (D := D) (ci := 10) (v := .int (gI st 23)) (C := RX11) (T := TX11) (N := 35) hx hb hts inlX11 hown hK hP 0 rfl rfl 23 (by decide) (hts _ w_26_9) (fun _ h9 => h9) rfl dX11_roll_6 ?_
  refine lv_bipush (v := 24) hx hb dX11_roll_9 (by decide) ?_
  refine lv_aload_n hx hb dX11_roll_11 rfl (lv_at hl 0 rfl) ?_
  refine lv_aload_n hx hb dX11_roll_12 rfl (lv_at hl 0 rfl) ?_
  refine va_get (D := D) (ci := 10) (v := .int (gI st 24)) (C := RX11) (T := TX11) (N := 35) hx hb hts inlX11 hown hK hP 0 rfl rfl 24 (by decide) (hts _ w_26_7) (fun _ h9 => h9) rfl dX11_roll_13 ?_
  refine callVIr (rest := [.int 24, .int (gI st 23), .int (gI st 22), .ref (ad 0)]) SF (c_X11_wayAt l D cy tz ad st (gI st 24) _ h) (cw_RX11_139 hts ⟨Nat.le_of_ble_eq_true rfl, Nat.le_of_ble_eq_true rfl⟩) rfl rfl (va_recv hK hP (ci := 10) (q0 := 0) rfl rfl) hK hZ hA hP hD hS rfl hl.1 rfl (Nat.le_of_ble_eq_true rfl) dX11_roll_16 ⟨Nat.zero_le _, Nat.zero_le _⟩ (fun r1 H locs h hP hD hS => ?_)
  refine lv_isub hx hb dX11_roll_19 ?_
  refine lv_bipush (v := 24) hx hb dX11_roll_20 (by decide) ?_
  refine lv_irem hx hb dX11_roll_22 (by decide) ?_
  refine callVV (rest := []) SF (c_X11_turnPoint l D cy tz ad st (gI st 22) (gI st 23) ((24 - r1) - (24 - r1) / 24 * 24) _ h) (cw_RX11_135 hts ⟨Nat.le_of_ble_eq_true rfl, Nat.le_of_ble_eq_true rfl⟩) rfl rfl (va_recv hK hP (ci := 10) (q0 := 0) rfl rfl) hK hZ hA hP hD hS rfl hl.1 rfl (Nat.le_of_ble_eq_true rfl) dX11_roll_23 ⟨Nat.zero_le _, Nat.zero_le _⟩ (fun t4 H locs h hP hD hS => ?_)
  refine lv_aload_n hx hb dX11_roll_26 rfl (lv_at hl 0 rfl) ?_
  refine va_get (D := D) (ci := 10) (v := .int (gI t4 1)) (C := RX11) (T := TX11) (N := 35) hx hb hts inlX11 hown hK hP 0 rfl rfl 1 (by decide) (hts _ w_14_3) (fun _ h9 => h9) rfl dX11_roll_27 ?_
  refine lv_topi (fun x5 e6 => ?_)
  have h := h x5 e6
  refine lv_istore_n (lv' := [(1, .int x5), (0, .ref (ad 0))]) hx hb dX11_roll_30 rfl hl (by decide) rfl (fun ls hl => ?_)
  refine lv_aload_n hx hb dX11_roll_31 rfl (lv_at hl 1 rfl) ?_
  refine va_get (D := D) (ci := 10) (v := .int (gI t4 2)) (C := RX11) (T := TX11) (N := 35) hx hb hts inlX11 hown hK hP 0 rfl rfl 2 (by decide) (hts _ w_14_4) (fun _ h9 => h9) rfl dX11_roll_32 ?_
  refine lv_topi (fun x7 e8 => ?_)
  have h := h x7 e8
  refine lv_istore_n (lv' := [(2, .int x7), (1, .int x5), (0, .ref (ad 0))]) hx hb dX11_roll_35 rfl hl (by decide) rfl (fun ls hl => ?_)
  refine lv_aload_n hx hb dX11_roll_36 rfl (lv_at hl 2 rfl) ?_
  refine lv_iload_n hx hb dX11_roll_37 rfl (lv_at hl 1 rfl) ?_
  refine lv_iload_n hx hb dX11_roll_38 rfl (lv_at hl 0 rfl) ?_
  refine lv_aload_n hx hb dX11_roll_39 rfl (lv_at hl 2 rfl) ?_
  refine lv_aload_n hx hb dX11_roll_40 rfl (lv_at hl 2 rfl) ?_
  refine va_get (D := D) (ci := 10) (v := .int (gI t4 24)) (C := RX11) (T := TX11) (N := 35) hx hb hts inlX11 hown hK hP 0 rfl rfl 24 (by decide) (hts _ w_26_7) (fun _ h9 => h9) rfl dX11_roll_41 ?_
  refine callVIr (rest := [.int x7, .int x5, .ref (ad 0)]) SF (c_X11_wayAt l D cy tz ad t4 (gI t4 24) _ h) (cw_RX11_139 hts ⟨Nat.le_of_ble_eq_true rfl, Nat.le_of_ble_eq_true rfl⟩) rfl rfl (va_recv hK hP (ci := 10) (q0 := 0) rfl rfl) hK hZ hA hP hD hS rfl hl.1 rfl (Nat.le_of_ble_eq_true rfl) dX11_roll_44 ⟨Nat.zero_le _, Nat.zero_le _⟩ (fun r9 H locs h hP hD hS => ?_)
  refine callVV (rest := []) SF (c_X11_turnPoint l D cy tz ad t4 x5 x7 r9 _ h) (cw_RX11_135 hts ⟨Nat.le_of_ble_eq_true rfl, Nat.le_of_ble_eq_true rfl⟩) rfl rfl (va_recv hK hP (ci := 10) (q0 := 0) rfl rfl) hK hZ hA hP hD hS rfl hl.1 rfl (Nat.le_of_ble_eq_true rfl) dX11_roll_47 ⟨Nat.zero_le _, Nat.zero_le _⟩ (fun t12 H locs h hP hD hS => ?_)
  refine lv_aload_n hx hb dX11_roll_50 rfl (lv_at hl 2 rfl) ?_
  refine va_get (D := D) (ci := 10) (v := .int (gI t12 1)) (C := RX11) (T := TX11) (N := 35) hx hb hts inlX11 hown hK hP 0 rfl rfl 1 (by decide) (hts _ w_14_3) (fun _ h9 => h9) rfl dX11_roll_51 ?_
  refine lv_topi (fun x13 e14 => ?_)
  have h := h x13 e14
  refine lv_istore_n (lv' := [(3, .int x13), (2, .int x7), (1, .int x5), (0, .ref (ad 0))]) hx hb dX11_roll_54 rfl hl (by decide) rfl (fun ls hl => ?_)
  refine lv_aload_n hx hb dX11_roll_55 rfl (lv_at hl 3 rfl) ?_
  refine va_get (D := D) (ci := 10) (v := .int (gI t12 2)) (C := RX11) (T := TX11) (N := 35) hx hb hts inlX11 hown hK hP 0 rfl rfl 2 (by decide) (hts _ w_14_4) (fun _ h9 => h9) rfl dX11_roll_56 ?_
  refine lv_topi (fun x15 e16 => ?_)
  have h := h x15 e16
  refine lv_istore (lv' := [(4, .int x15), (3, .int x13), (2, .int x7), (1, .int x5), (0, .ref (ad 0))]) hx hb dX11_roll_59 hl (by decide) rfl (fun ls hl => ?_)
  refine lv_aload_n hx hb dX11_roll_61 rfl (lv_at hl 4 rfl) ?_
  refine lv_iload_n hx hb dX11_roll_62 rfl (lv_at hl 3 rfl) ?_
  refine lv_iload_n hx hb dX11_roll_63 rfl (lv_at hl 2 rfl) ?_
  refine lv_aload_n hx hb dX11_roll_64 rfl (lv_at hl 4 rfl) ?_
  refine lv_aload_n hx hb dX11_roll_65 rfl (lv_at hl 4 rfl) ?_
  refine va_get (D := D) (ci := 10) (v := .int (gI t12 24)) (C := RX11) (T := TX11) (N := 35) hx hb hts inlX11 hown hK hP 0 rfl rfl 24 (by decide) (hts _ w_26_7) (fun _ h9 => h9) rfl dX11_roll_66 ?_
  refine lv_iconst (v := 1) hx hb dX11_roll_69 (by decide) ?_
  refine lv_iadd hx hb dX11_roll_70 ?_
  refine callVIr (rest := [.int x7, .int x5, .ref (ad 0)]) SF (c_X11_wayAt l D cy tz ad t12 (gI t12 24 + 1) _ h) (cw_RX11_139 hts ⟨Nat.le_of_ble_eq_true rfl, Nat.le_of_ble_eq_true rfl⟩) rfl rfl (va_recv hK hP (ci := 10) (q0 := 0) rfl rfl) hK hZ hA hP hD hS rfl hl.1 rfl (Nat.le_of_ble_eq_true rfl) dX11_roll_71 ⟨Nat.zero_le _, Nat.zero_le _⟩ (fun r17 H locs h hP hD hS => ?_)
  refine callVV (rest := []) SF (c_X11_turnPoint l D cy tz ad t12 x5 x7 r17 _ h) (cw_RX11_135 hts ⟨Nat.le_of_ble_eq_true rfl, Nat.le_of_ble_eq_true rfl⟩) rfl rfl (va_recv hK hP (ci := 10) (q0 := 0) rfl rfl) hK hZ hA hP hD hS rfl hl.1 rfl (Nat.le_of_ble_eq_true rfl) dX11_roll_74 ⟨Nat.zero_le _, Nat.zero_le _⟩ (fun t20 H locs h hP hD hS => ?_)
  refine lv_aload_n hx hb dX11_roll_77 rfl (lv_at hl 4 rfl) ?_
  refine lv_dup hx hb dX11_roll_78 rfl ?_
  refine va_get (D := D) (ci := 10) (v := .int (gI t20 17)) (C := RX11) (T := TX11) (N := 35) hx hb hts inlX11 hown hK hP 0 rfl rfl 17 (by decide) (hts _ w_18_9) (fun _ h9 => h9) rfl dX11_roll_79 ?_
  refine lv_aload_n hx hb dX11_roll_82 rfl (lv_at hl 4 rfl) ?_
  refine va_get (D := D) (ci := 10) (v := .int (gI t20 1)) (C := RX11) (T := TX11) (N := 35) hx hb hts inlX11 hown hK hP 0 rfl rfl 1 (by decide) (hts _ w_14_3) (fun _ h9 => h9) rfl dX11_roll_83 ?_
  refine lv_iload_n hx hb dX11_roll_86 rfl (lv_at hl 1 rfl) ?_
  refine lv_isub hx hb dX11_roll_87 ?_
  refine lv_aload_n hx hb dX11_roll_88 rfl (lv_at hl 4 rfl) ?_
  refine va_get (D := D) (ci := 10) (v := .int (gI t20 17)) (C := RX11) (T := TX11) (N := 35) hx hb hts inlX11 hown hK hP 0 rfl rfl 17 (by decide) (hts _ w_18_9) (fun _ h9 => h9) rfl dX11_roll_89 ?_
  refine lv_isub hx hb dX11_roll_92 ?_
  refine lv_aload_n hx hb dX11_roll_93 rfl (lv_at hl 4 rfl) ?_
  refine va_get (D := D) (ci := 10) (v := .ref (ad 2)) (C := RX11) (T := TX11) (N := 35) hx hb hts inlX11 hown hK hP 0 rfl rfl 3 (by decide) (hts _ w_5_7) (fun _ h9 => h9) rfl dX11_roll_94 ?_
  refine lv_iconst (v := 3) hx hb dX11_roll_97 (by decide) ?_
  refine va_iald (f := gA t20 3) (n := 5) hx hb hK hP 2 0 rfl rfl (vin (by decide +kernel)) dX11_roll_98 ?_
  refine lv_imul hx hb dX11_roll_99 ?_
  refine lv_bipush (v := 100) hx hb dX11_roll_100 (by decide) ?_
  refine lv_idiv hx hb dX11_roll_102 (by decide) ?_
  refine lv_iadd hx hb dX11_roll_103 ?_
  refine lv_topi (fun x21 e22 => ?_)
  have h := h x21 e22
  refine va_put (D := D) (ci := 10) (v := .int x21) (ty := .int) (C := RX11) (T := TX11) (N := 35) hx hb hts inlX11 tyX11 tyX11_ok nmX11 hown hK hP hD hS 0 rfl rfl 17 (by decide) (hts _ w_18_9) (fun _ h9 => h9) rfl (by decide +kernel) rfl rfl (Nat.le_of_ble_eq_true rfl) dX11_roll_104 (fun H locs hP hD hS => ?_)
  have hP : va_P D vwCl (wM cy ad (sI t20 17 x21)) H := hP
  have hD : va_D A (wM cy ad (sI t20 17 x21)) := hD
  refine lv_aload_n hx hb dX11_roll_107 rfl (lv_at hl 4 rfl) ?_
  refine lv_dup hx hb dX11_roll_108 rfl ?_
  refine va_get (D := D) (ci := 10) (v := .int (gI t20 18)) (C := RX11) (T := TX11) (N := 35) hx hb hts inlX11 hown hK hP 0 rfl rfl 18 (by decide) (hts _ w_18_10) (fun _ h9 => h9) rfl dX11_roll_109 ?_
  refine lv_aload_n hx hb dX11_roll_112 rfl (lv_at hl 4 rfl) ?_
  refine va_get (D := D) (ci := 10) (v := .int (gI t20 2)) (C := RX11) (T := TX11) (N := 35) hx hb hts inlX11 hown hK hP 0 rfl rfl 2 (by decide) (hts _ w_14_4) (fun _ h9 => h9) rfl dX11_roll_113 ?_
  refine lv_iload hx hb dX11_roll_116 (lv_at hl 0 rfl) ?_
  refine lv_isub hx hb dX11_roll_118 ?_
  refine lv_aload_n hx hb dX11_roll_119 rfl (lv_at hl 4 rfl) ?_
  refine va_get (D := D) (ci := 10) (v := .int (gI t20 18)) (C := RX11) (T := TX11) (N := 35) hx hb hts inlX11 hown hK hP 0 rfl rfl 18 (by decide) (hts _ w_18_10) (fun _ h9 => h9) rfl dX11_roll_120 ?_
  refine lv_isub hx hb dX11_roll_123 ?_
  refine lv_aload_n hx hb dX11_roll_124 rfl (lv_at hl 4 rfl) ?_
  refine va_get (D := D) (ci := 10) (v := .ref (ad 2)) (C := RX11) (T := TX11) (N := 35) hx hb hts inlX11 hown hK hP 0 rfl rfl 3 (by decide) (hts _ w_5_7) (fun _ h9 => h9) rfl dX11_roll_125 ?_
  refine lv_iconst (v := 3) hx hb dX11_roll_128 (by decide) ?_
  refine va_iald (f := gA t20 3) (n := 5) hx hb hK hP 2 0 rfl rfl (vin (by decide +kernel)) dX11_roll_129 ?_
  refine lv_imul hx hb dX11_roll_130 ?_
  refine lv_bipush (v := 100) hx hb dX11_roll_131 (by decide) ?_
  refine lv_idiv hx hb dX11_roll_133 (by decide) ?_
  refine lv_iadd hx hb dX11_roll_134 ?_
  refine lv_topi (fun x23 e24 => ?_)
  have h := h x23 e24
  refine va_put (D := D) (ci := 10) (v := .int x23) (ty := .int) (C := RX11) (T := TX11) (N := 35) hx hb hts inlX11 tyX11 tyX11_ok nmX11 hown hK hP hD hS 0 rfl rfl 18 (by decide) (hts _ w_18_10) (fun _ h9 => h9) rfl (by decide +kernel) rfl rfl (Nat.le_of_ble_eq_true rfl) dX11_roll_135 (fun H locs hP hD hS => ?_)
  have hP : va_P D vwCl (wM cy ad (sI (sI t20 17 x21) 18 x23)) H := hP
  have hD : va_D A (wM cy ad (sI (sI t20 17 x21) 18 x23)) := hD
  refine lv_aload_n hx hb dX11_roll_138 rfl (lv_at hl 4 rfl) ?_
  refine lv_dup hx hb dX11_roll_139 rfl ?_
  refine va_get (D := D) (ci := 10) (v := .int (gI t20 22)) (C := RX11) (T := TX11) (N := 35) hx hb hts inlX11 hown hK hP 0 rfl rfl 22 (by decide) (hts _ w_26_8) (fun _ h9 => h9) rfl dX11_roll_140 ?_
  refine lv_aload_n hx hb dX11_roll_143 rfl (lv_at hl 4 rfl) ?_
  refine va_get (D := D) (ci := 10) (v := .int x21) (C := RX11) (T := TX11) (N := 35) hx hb hts inlX11 hown hK hP 0 rfl rfl 17 (by decide) (hts _ w_18_9) (fun _ h9 => h9) rfl dX11_roll_144 ?_
  refine lv_iadd hx hb dX11_roll_147 ?_
  refine lv_topi (fun x25 e26 => ?_)
  have h := h x25 e26
  refine va_put (D := D) (ci := 10) (v := .int x25) (ty := .int) (C := RX11) (T := TX11) (N := 35) hx hb hts inlX11 tyX11 tyX11_ok nmX11 hown hK hP hD hS 0 rfl rfl 22 (by decide) (hts _ w_26_8) (fun _ h9 => h9) rfl (by decide +kernel) rfl rfl (Nat.le_of_ble_eq_true rfl) dX11_roll_148 (fun H locs hP hD hS => ?_)
  have hP : va_P D vwCl (wM cy ad (sI (sI (sI t20 17 x21) 18 x23) 22 x25)) H := hP
  have hD : va_D A (wM cy ad (sI (sI (sI t20 17 x21) 18 x23) 22 x25)) := hD
  refine lv_aload_n hx hb dX11_roll_151 rfl (lv_at hl 4 rfl) ?_
  refine lv_dup hx hb dX11_roll_152 rfl ?_
  refine va_get (D := D) (ci := 10) (v := .int (gI t20 23)) (C := RX11) (T := TX11) (N := 35) hx hb hts inlX11 hown hK hP 0 rfl rfl 23 (by decide) (hts _ w_26_9) (fun _ h9 => h9) rfl dX11_roll_153 ?_
  refine lv_aload_n hx hb dX11_roll_156 rfl (lv_at hl 4 rfl) ?_
  refine va_get (D := D) (ci := 10) (v := .int x23) (C := RX11) (T := TX11) (N := 35) hx hb hts inlX11 hown hK hP 0 rfl rfl 18 (by decide) (hts _ w_18_10) (fun _ h9 => h9) rfl dX11_roll_157 ?_
  refine lv_iadd hx hb dX11_roll_160 ?_
  refine lv_topi (fun x27 e28 => ?_)
  have h := h x27 e28
  refine va_put (D := D) (ci := 10) (v := .int x27) (ty := .int) (C := RX11) (T := TX11) (N := 35) hx hb hts inlX11 tyX11 tyX11_ok nmX11 hown hK hP hD hS 0 rfl rfl 23 (by decide) (hts _ w_26_9) (fun _ h9 => h9) rfl (by decide +kernel) rfl rfl (Nat.le_of_ble_eq_true rfl) dX11_roll_161 (fun H locs hP hD hS => ?_)
  have hP : va_P D vwCl (wM cy ad (sI (sI (sI (sI t20 17 x21) 18 x23) 22 x25) 23 x27)) H := hP
  have hD : va_D A (wM cy ad (sI (sI (sI (sI t20 17 x21) 18 x23) 22 x25) 23 x27)) := hD
  refine lv_aload_n hx hb dX11_roll_164 rfl (lv_at hl 4 rfl) ?_
  refine lv_dup hx hb dX11_roll_165 rfl ?_
  refine va_get (D := D) (ci := 10) (v := .int (gI t20 24)) (C := RX11) (T := TX11) (N := 35) hx hb hts inlX11 hown hK hP 0 rfl rfl 24 (by decide) (hts _ w_26_7) (fun _ h9 => h9) rfl dX11_roll_166 ?_
  refine lv_iconst (v := 1) hx hb dX11_roll_169 (by decide) ?_
  refine lv_iadd hx hb dX11_roll_170 ?_
  refine lv_topi (fun x29 e30 => ?_)
  have h := h x29 e30
  refine va_put (D := D) (ci := 10) (v := .int x29) (ty := .int) (C := RX11) (T := TX11) (N := 35) hx hb hts inlX11 tyX11 tyX11_ok nmX11 hown hK hP hD hS 0 rfl rfl 24 (by decide) (hts _ w_26_7) (fun _ h9 => h9) rfl (by decide +kernel) rfl rfl (Nat.le_of_ble_eq_true rfl) dX11_roll_171 (fun H locs hP hD hS => ?_)
  have hP : va_P D vwCl (wM cy ad (sI (sI (sI (sI (sI t20 17 x21) 18 x23) 22 x25) 23 x27) 24 x29)) H := hP
  have hD : va_D A (wM cy ad (sI (sI (sI (sI (sI t20 17 x21) 18 x23) 22 x25) 23 x27) 24 x29)) := hD
  exact hret _ _ _ _ _ h hP hD hS dX11_roll_174
-- X11_isPlace
def rm_X11_isPlace : Room := { frames := 1, cells := 0, slots := 0, locals := 25 }
abbrev ws_X11_isPlace : List Cond := .code yX11_isPlace cX11_isPlace 3 (some .boolean) :: wsL_law
def wp_X11_isPlace (a1 : Int32) (a2 : Int32) (a3 : Int32) (post : Int32 → Prop) : Prop := wp_X11_in a1.toInt64 ((-a3).toInt64) a3.toInt64 (fun r1 => ((r1 = 0) → (post 0)) ∧ ((¬ r1 = 0) → (wp_X11_in a2.toInt64 ((-a3).toInt64) a3.toInt64 (fun r4 => ((r4 = 0) → (post 0)) ∧ ((¬ r4 = 0) → (post 1))))))
set_option maxHeartbeats 4000000 in
set_option maxRecDepth 100000 in
theorem c_X11_isPlace (l : Launch) (D : va_G) (cy : Nat → ClassId) (tz : Nat → Nat) (w : va_W) (a1 : Int32) (a2 : Int32) (a3 : Int32) (post : Int32 → Prop) (h : wp_X11_isPlace a1 a2 a3 post) : CtI l D cy tz yX11_isPlace ws_X11_isPlace rm_X11_isPlace [.int a1, .int a2, .int a3] w (fun _ : Unit => w) (fun r _ => post r) := by
  refine CtI.of (own := RX11) (nm := "isPlace") (lv := [(0, .int a1), (1, .int a2), (2, .int a3)]) (plainFor_of_name (by decide)) rfl rfl (Nat.le_of_ble_eq_true rfl) rfl ?_
  intro p e s m args below meth c A Q ls B hP hD hS hl hret
  obtain ⟨hx, hb, hml, hown, hts, hK, hZ, hA, hnm⟩ := B
  have SF : CallFix p m c cX11_isPlace 3 s args wsL_law RX11 := ⟨hx, hb, hml, hown, hts⟩
  unfold wp_X11_isPlace at h
  refine lv_iload_n hx hb dX11_isPlace_0 rfl (lv_at hl 0 rfl) ?_
  refine lv_i2l (v := a1.toInt64) hx hb dX11_isPlace_1 rfl ?_
  refine lv_iload_n hx hb dX11_isPlace_2 rfl (lv_at hl 2 rfl) ?_
  refine lv_ineg hx hb dX11_isPlace_3 ?_
  refine lv_i2l (v := (-a3).toInt64) hx hb dX11_isPlace_4 rfl ?_
  refine lv_iload_n hx hb dX11_isPlace_5 rfl (lv_at hl 2 rfl) ?_
  refine lv_i2l (v := a3.toInt64) hx hb dX11_isPlace_6 rfl ?_
  refine callSIr (rest := []) SF (c_X11_in l D cy tz _ a1.toInt64 ((-a3).toInt64) a3.toInt64 _ h) (cw_RX11_67 hts ⟨Nat.le_of_ble_eq_true rfl, Nat.le_of_ble_eq_true rfl⟩) rfl rfl hK hZ hA hP hD hS rfl hl.1 rfl (Nat.le_of_ble_eq_true rfl) dX11_isPlace_7 ⟨Nat.zero_le _, Nat.zero_le _⟩ (fun r1 H locs h hP hD hS => ?_)
  refine lv_if_eq (tgt := 30) hx hb dX11_isPlace_10 (by decide) (fun c3 => ?_) (fun c3 => ?_)
  · have h := h.1 c3
    refine lv_iconst (v := 0) hx hb dX11_isPlace_30 (by decide) ?_
    exact hret _ () _ _ _ _ rfl h hP hD hS dX11_isPlace_31
  · have h := h.2 c3
    refine lv_iload_n hx hb dX11_isPlace_13 rfl (lv_at hl 1 rfl) ?_
    refine lv_i2l (v := a2.toInt64) hx hb dX11_isPlace_14 rfl ?_
    refine lv_iload_n hx hb dX11_isPlace_15 rfl (lv_at hl 2 rfl) ?_
    refine lv_ineg hx hb dX11_isPlace_16 ?_
    refine lv_i2l (v := (-a3).toInt64) hx hb dX11_isPlace_17 rfl ?_
    refine lv_iload_n hx hb dX11_isPlace_18 rfl (lv_at hl 2 rfl) ?_
    refine lv_i2l (v := a3.toInt64) hx hb dX11_isPlace_19 rfl ?_
    refine callSIr (rest := []) SF (c_X11_in l D cy tz _ a2.toInt64 ((-a3).toInt64) a3.toInt64 _ h) (cw_RX11_67 hts ⟨Nat.le_of_ble_eq_true rfl, Nat.le_of_ble_eq_true rfl⟩) rfl rfl hK hZ hA hP hD hS rfl hl.1 rfl (Nat.le_of_ble_eq_true rfl) dX11_isPlace_20 ⟨Nat.zero_le _, Nat.zero_le _⟩ (fun r4 H locs h hP hD hS => ?_)
    refine lv_if_eq (tgt := 30) hx hb dX11_isPlace_23 (by decide) (fun c6 => ?_) (fun c6 => ?_)
    · have h := h.1 c6
      refine lv_iconst (v := 0) hx hb dX11_isPlace_30 (by decide) ?_
      exact hret _ () _ _ _ _ rfl h hP hD hS dX11_isPlace_31
    · have h := h.2 c6
      refine lv_iconst (v := 1) hx hb dX11_isPlace_26 (by decide) ?_
      refine lv_goto (tgt := 31) hx hb dX11_isPlace_27 (by decide) ?_
      exact hret _ () _ _ _ _ rfl h hP hD hS dX11_isPlace_31
