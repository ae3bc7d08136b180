-- X11_rolled
def rm_X11_rolled : Room := { frames := 3, cells := 0, slots := 0, locals := 68 }
abbrev ws_X11_rolled : List Cond := .code yX11_rolled cX11_rolled 7 (some .int) :: wsL_law
theorem cw_RX11_221 {R : Room} {s : State} {args : Array Value} (hts : ∀ w ∈ wsL_law, w.before args s = true) (hR : rm_X11_isPlace.frames + 1 ≤ R.frames ∧ 8 + (3 + 11) + rm_X11_isPlace.locals ≤ R.locals) : CallB R s args RX11 221 yX11_isPlace cX11_isPlace 3 (some .boolean) ws_X11_isPlace rm_X11_isPlace rm_X11_isPlace.cells rm_X11_isPlace.slots 3 ∧ (Cond.static yX11_isPlace).before args s = true := va_cwS 3 hts (gdS w_26_10 w_26_11 w_1_5 w_26_12) rfl rfl rfl (by decide +kernel) hR
theorem cw_RX11_224 {R : Room} {s : State} {args : Array Value} (hts : ∀ w ∈ wsL_law, w.before args s = true) (hR : rm_X11_beginRoll.frames + 1 ≤ R.frames ∧ 8 + (5 + 11) + rm_X11_beginRoll.locals ≤ R.locals) : CallW R s args RX11 RX11 224 yX11_beginRoll cX11_beginRoll 5 none ws_X11_beginRoll rm_X11_beginRoll rm_X11_beginRoll.cells rm_X11_beginRoll.slots 4 := cwV 4 hts (gdV w_26_13 w_26_14 w_26_15 w_1_5 w_26_16) rfl rfl rfl (by decide +kernel) hR
theorem cw_RX11_228 {R : Room} {s : State} {args : Array Value} (hts : ∀ w ∈ wsL_law, w.before args s = true) (hR : rm_X11_roll.frames + 1 ≤ R.frames ∧ 8 + (5 + 11) + rm_X11_roll.locals ≤ R.locals) : CallW R s args RX11 RX11 228 yX11_roll cX11_roll 5 none ws_X11_roll rm_X11_roll rm_X11_roll.cells rm_X11_roll.slots 0 := cwV 0 hts (gdV w_26_17 w_26_18 w_26_19 w_1_5 w_26_20) rfl rfl rfl (by decide +kernel) hR
def wp_X11_rolled_L48 (post : Int32 → St → Prop) (K : St → Prop) (a5 : Int32) : Nat → St → Prop
  | 0, _ => False
  | n48 + 1, t15 => ((a5 ≤ gI t15 24) → (K t15)) ∧ ((¬ a5 ≤ gI t15 24) → (wp_X11_roll t15 (fun t18 => wp_X11_rolled_L48 post K a5 n48 t18)))
def wp_X11_rolled (st : St) (a1 : Int32) (a2 : Int32) (a3 : Int32) (a4 : Int32) (a5 : Int32) (a6 : Int32) (post : Int32 → St → Prop) : Prop := wp_X11_isPlace a1 a2 1000 (fun r1 => ((r1 = 0) → (post (-100000002) st)) ∧ ((¬ r1 = 0) → (wp_X11_isThrow a3 a4 (fun r4 => ((r4 = 0) → (post (-100000002) st)) ∧ ((¬ r4 = 0) → (wp_X11_isTick a5 (fun r7 => ((r7 = 0) → (post (-100000002) st)) ∧ ((¬ r7 = 0) → (wp_X11_isEnd a6 (fun r10 => ((¬ r10 = 0) → (wp_X11_beginRoll st a1 a2 a3 a4 (fun t14 => ∃ m48 : Nat, wp_X11_rolled_L48 post (fun t19 => ((¬ a6 = 0) → (post (gI t19 23) t19)) ∧ ((a6 = 0) → (post (gI t19 22) t19))) a5 m48 t14))) ∧ ((r10 = 0) → (post (-100000002) st))))))))))))
set_option maxHeartbeats 4000000 in
set_option maxRecDepth 100000 in
theorem c_X11_rolled (l : Launch) (D : va_G) (cy : Nat → ClassId) (tz : Nat → Nat) (ad : Nat → Nat) (st : St) (a1 : Int32) (a2 : Int32) (a3 : Int32) (a4 : Int32) (a5 : Int32) (a6 : Int32) (post : Int32 → St → Prop) (h : wp_X11_rolled st a1 a2 a3 a4 a5 a6 post) : CtI l D cy tz yX11_rolled ws_X11_rolled rm_X11_rolled [.ref (ad 0), .int a1, .int a2, .int a3, .int a4, .int a5, .int a6] (wM cy ad st) (wM cy ad) post := by
  refine CtI.of (own := RX11) (nm := "rolled") (lv := [(0, .ref (ad 0)), (1, .int a1), (2, .int a2), (3, .int a3), (4, .int a4), (5, .int a5), (6, .int a6)]) (plainFor_of_name (by decide)) rfl rfl (Nat.le_of_ble_eq_true rfl) rfl ?_
  intro p e s m args below meth c A Q ls B hP hD hS hl hret
  obtain ⟨hx, hb, hml, hown, hts, hK, hZ, hA, hnm⟩ := B
  have SF : CallFix p m c cX11_rolled 7 s args wsL_law RX11 := ⟨hx, hb, hml, hown, hts⟩
  unfold wp_X11_rolled at h
  refine lv_iload_n hx hb dX11_rolled_0 rfl (lv_at hl 1 rfl) ?_
  refine lv_iload_n hx hb dX11_rolled_1 rfl (lv_at hl 2 rfl) ?_
  refine lv_sipush (v := 1000) hx hb dX11_rolled_2 (by decide) ?_
  refine callSIr (rest := []) SF (c_X11_isPlace l D cy tz _ a1 a2 1000 _ h) (cw_RX11_221 hts ⟨Nat.le_of_ble_eq_true rfl, Nat.le_of_ble_eq_true rfl⟩) rfl rfl hK hZ hA hP hD hS rfl hl.1 rfl (Nat.le_of_ble_eq_true rfl) dX11_rolled_5 ⟨Nat.zero_le _, Nat.zero_le _⟩ (fun r1 H locs h hP hD hS => ?_)
  refine lv_if_eq (tgt := 36) hx hb dX11_rolled_8 (by decide) (fun c3 => ?_) (fun c3 => ?_)
  · have h := h.1 c3
    refine lv_ldc (v := (-100000002)) hx hb hown (hts _ w_15_17) dX11_rolled_36 ?_
    exact hret _ _ _ _ _ _ rfl h hP hD hS dX11_rolled_38
  · have h := h.2 c3
    refine lv_iload_n hx hb dX11_rolled_11 rfl (lv_at hl 3 rfl) ?_
    refine lv_iload hx hb dX11_rolled_12 (lv_at hl 4 rfl) ?_
    refine callSIr (rest := []) SF (c_X11_isThrow l D cy tz _ a3 a4 _ h) (cw_RX11_173 hts ⟨Nat.le_of_ble_eq_true rfl, Nat.le_of_ble_eq_true rfl⟩) rfl rfl hK hZ hA hP hD hS rfl hl.1 rfl (Nat.le_of_ble_eq_true rfl) dX11_rolled_14 ⟨Nat.zero_le _, Nat.zero_le _⟩ (fun r4 H locs h hP hD hS => ?_)
    refine lv_if_eq (tgt := 36) hx hb dX11_rolled_17 (by decide) (fun c6 => ?_) (fun c6 => ?_)
    · have h := h.1 c6
      refine lv_ldc (v := (-100000002)) hx hb hown (hts _ w_15_17) dX11_rolled_36 ?_
      exact hret _ _ _ _ _ _ rfl h hP hD hS dX11_rolled_38
    · have h := h.2 c6
      refine lv_iload hx hb dX11_rolled_20 (lv_at hl 5 rfl) ?_
      refine callSIr (rest := []) SF (c_X11_isTick l D cy tz _ a5 _ h) (cw_RX11_118 hts ⟨Nat.le_of_ble_eq_true rfl, Nat.le_of_ble_eq_true rfl⟩) rfl rfl hK hZ hA hP hD hS rfl hl.1 rfl (Nat.le_of_ble_eq_true rfl) dX11_rolled_22 ⟨Nat.zero_le _, Nat.zero_le _⟩ (fun r7 H locs h hP hD hS => ?_)
      refine lv_if_eq (tgt := 36) hx hb dX11_rolled_25 (by decide) (fun c9 => ?_) (fun c9 => ?_)
      · have h := h.1 c9
        refine lv_ldc (v := (-100000002)) hx hb hown (hts _ w_15_17) dX11_rolled_36 ?_
        exact hret _ _ _ _ _ _ rfl h hP hD hS dX11_rolled_38
      · have h := h.2 c9
        refine lv_iload hx hb dX11_rolled_28 (lv_at hl 6 rfl) ?_
        refine callSIr (rest := []) SF (c_X11_isEnd l D cy tz _ a6 _ h) (cw_RX11_121 hts ⟨Nat.le_of_ble_eq_true rfl, Nat.le_of_ble_eq_true rfl⟩) rfl rfl hK hZ hA hP hD hS rfl hl.1 rfl (Nat.le_of_ble_eq_true rfl) dX11_rolled_30 ⟨Nat.zero_le _, Nat.zero_le _⟩ (fun r10 H locs h hP hD hS => ?_)
        refine lv_if_ne (tgt := 39) hx hb dX11_rolled_33 (by decide) (fun c12 => ?_) (fun c12 => ?_)
        · have h := h.1 c12
          refine lv_aload_n hx hb dX11_rolled_39 rfl (lv_at hl 0 rfl) ?_
          refine lv_iload_n hx hb dX11_rolled_40 rfl (lv_at hl 1 rfl) ?_
          refine lv_iload_n hx hb dX11_rolled_41 rfl (lv_at hl 2 rfl) ?_
          refine lv_iload_n hx hb dX11_rolled_42 rfl (lv_at hl 3 rfl) ?_
          refine lv_iload hx hb dX11_rolled_43 (lv_at hl 4 rfl) ?_
          refine callVV (rest := []) SF (c_X11_beginRoll l D cy tz ad st a1 a2 a3 a4 _ h) (cw_RX11_224 hts ⟨Nat.le_of_ble_eq_true rfl, Nat.le_of_ble_eq_true rfl⟩) rfl rfl (va_recv hK hP (ci := 10) (q0 := 0) rfl rfl) hK hZ hA hP hD hS rfl hl.1 rfl (Nat.le_of_ble_eq_true rfl) dX11_rolled_45 ⟨Nat.zero_le _, Nat.zero_le _⟩ (fun t14 H locs h hP hD hS => ?_)
          have loop48 : ∀ (K : St → Prop), (∀ (t19 : St) (H : Heap) (locs : List Loc) (ls : Array Slot), K t19 → va_P D vwCl (wM cy ad t19) H → va_D A (wM cy ad t19) → va_S A s.heap H locs → lv_has ls 7 [(0, .ref (ad 0)), (6, .int a6)] → W p l e rm_X11_rolled s m args below meth c H locs 0 0 Q (F0 m 64 ls [])) → ∀ (n : Nat) (t15 : St) (H : Heap) (locs : List Loc) (ls : Array Slot), wp_X11_rolled_L48 post K a5 n t15 → va_P D vwCl (wM cy ad t15) H → va_D A (wM cy ad t15) → va_S A s.heap H locs → lv_has ls 7 [(0, .ref (ad 0)), (5, .int a5), (6, .int a6)] → W p l e rm_X11_rolled s m args below meth c H locs 0 0 Q (F0 m 48 ls []) := by
            intro K hE48 n
            induction n with
            | zero => intro t15 H locs ls h; exact h.elim
            | succ n ih48 =>
              intro t15 H locs ls h hP hD hS hl
              rw [wp_X11_rolled_L48] at h
              refine lv_aload_n hx hb dX11_rolled_48 rfl (lv_at hl 0 rfl) ?_
              refine va_get (D := D) (ci := 10) (v := .int (gI t15 24)) (C := RX11) (T := TX11) (N := 35) hx hb hts inlX11 hown hK hP 0 rfl rfl 24 (by decide) (hts _ w_26_7) (fun _ h9 => h9) rfl dX11_rolled_49 ?_
              refine lv_iload hx hb dX11_rolled_52 (lv_at hl 1 rfl) ?_
              refine lv_icmp_ge (tgt := 64) hx hb dX11_rolled_54 (by decide) (fun c16 => ?_) (fun c16 => ?_)
              · have h := h.1 c16
                exact hE48 _ _ _ _ h hP hD hS (lv_sub hl [0, 2] rfl)
              · have h := h.2 c16
                refine lv_aload_n hx hb dX11_rolled_57 rfl (lv_at hl 0 rfl) ?_
                refine callVV (rest := []) SF (c_X11_roll l D cy tz ad t15 _ h) (cw_RX11_228 hts ⟨Nat.le_of_ble_eq_true rfl, Nat.le_of_ble_eq_true rfl⟩) rfl rfl (va_recv hK hP (ci := 10) (q0 := 0) rfl rfl) hK hZ hA hP hD hS rfl hl.1 rfl (Nat.le_of_ble_eq_true rfl) dX11_rolled_58 ⟨Nat.zero_le _, Nat.zero_le _⟩ (fun t18 H locs h hP hD hS => ?_)
                refine lv_goto (tgt := 48) hx hb dX11_rolled_61 (by decide) ?_
                exact ih48 _ _ _ _ h hP hD hS (lv_sub hl [0, 1, 2] rfl)
          obtain ⟨n, h⟩ := h
          refine loop48 _ ?_ n _ _ _ _ h hP hD hS (lv_sub hl [0, 5, 6] rfl)
          intro t19 H locs ls h hP hD hS hl
          refine lv_iload hx hb dX11_rolled_64 (lv_at hl 1 rfl) ?_
          refine lv_if_ne (tgt := 76) hx hb dX11_rolled_66 (by decide) (fun c20 => ?_) (fun c20 => ?_)
          · have h := h.1 c20
            refine lv_aload_n hx hb dX11_rolled_76 rfl (lv_at hl 0 rfl) ?_
            refine va_get (D := D) (ci := 10) (v := .int (gI t19 23)) (C := RX11) (T := TX11) (N := 35) hx hb hts inlX11 hown hK hP 0 rfl rfl 23 (by decide) (hts _ w_26_9) (fun _ h9 => h9) rfl dX11_rolled_77 ?_
            exact hret _ _ _ _ _ _ rfl h hP hD hS dX11_rolled_80
          · have h := h.2 c20
            refine lv_aload_n hx hb dX11_rolled_69 rfl (lv_at hl 0 rfl) ?_
            refine va_get (D := D) (ci := 10) (v := .int (gI t19 22)) (C := RX11) (T := TX11) (N := 35) hx hb hts inlX11 hown hK hP 0 rfl rfl 22 (by decide) (hts _ w_26_8) (fun _ h9 => h9) rfl dX11_rolled_70 ?_
            refine lv_goto (tgt := 80) hx hb dX11_rolled_73 (by decide) ?_
            exact hret _ _ _ _ _ _ rfl h hP hD hS dX11_rolled_80
        · have h := h.2 c12
          refine lv_ldc (v := (-100000002)) hx hb hown (hts _ w_15_17) dX11_rolled_36 ?_
          exact hret _ _ _ _ _ _ rfl h hP hD hS dX11_rolled_38
-- X11_isOff
def rm_X11_isOff : Room := { frames := 0, cells := 0, slots := 0, locals := 0 }
abbrev ws_X11_isOff : List Cond := .code yX11_isOff cX11_isOff 1 (some .boolean) :: wsL_law
def wp_X11_isOff (st : St) (post : Int32 → Prop) : Prop := (((((gI st 22).toInt64 * (gI st 22).toInt64) + ((gI st 23).toInt64 * (gI st 23).toInt64)) ≤ ((gA st 3 (4 : Int32).toNatClampNeg) * (gA st 3 (4 : Int32).toNatClampNeg)).toInt64) → (post 0)) ∧ ((¬ (((gI st 22).toInt64 * (gI st 22).toInt64) + ((gI st 23).toInt64 * (gI st 23).toInt64)) ≤ ((gA st 3 (4 : Int32).toNatClampNeg) * (gA st 3 (4 : Int32).toNatClampNeg)).toInt64) → (post 1))
set_option maxHeartbeats 4000000 in
set_option maxRecDepth 100000 in
theorem c_X11_isOff (l : Launch) (D : va_G) (cy : Nat → ClassId) (tz : Nat → Nat) (ad : Nat → Nat) (st : St) (post : Int32 → Prop) (h : wp_X11_isOff st post) : CtI l D cy tz yX11_isOff ws_X11_isOff rm_X11_isOff [.ref (ad 0)] (wM cy ad st) (fun _ : Unit => wM cy ad st) (fun r _ => post r) := by
  refine CtI.of (own := RX11) (nm := "isOff") (lv := [(0, .ref (ad 0))]) (plainFor_of_name (by decide)) rfl rfl (Nat.le_of_ble_eq_true rfl) rfl ?_
  intro p e s m args below meth c A Q ls B hP hD hS hl hret
  obtain ⟨hx, hb, hml, hown, hts, hK, hZ, hA, hnm⟩ := B
  have SF : CallFix p m c cX11_isOff 1 s args wsL_law RX11 := ⟨hx, hb, hml, hown, hts⟩
  unfold wp_X11_isOff at h
  refine lv_aload_n hx hb dX11_isOff_0 rfl (lv_at hl 0 rfl) ?_
  refine va_get (D := D) (ci := 10) (v := .int (gI st 22)) (C := RX11) (T := TX11) (N := 35) hx hb hts inlX11 hown hK hP 0 rfl rfl 22 (by decide) (hts _ w_26_8) (fun _ h9 => h9) rfl dX11_isOff_1 ?_
  refine lv_i2l (v := (gI st 22).toInt64) hx hb dX11_isOff_4 rfl ?_
  refine lv_aload_n hx hb dX11_isOff_5 rfl (lv_at hl 0 rfl) ?_
  refine va_get (D := D) (ci := 10) (v := .int (gI st 22)) (C := RX11) (T := TX11) (N := 35) hx hb hts inlX11 hown hK hP 0 rfl rfl 22 (by decide) (hts _ w_26_8) (fun _ h9 => h9) rfl dX11_isOff_6 ?_
  refine lv_i2l (v := (gI st 22).toInt64) hx hb dX11_isOff_9 rfl ?_
  refine lv_lmul hx hb dX11_isOff_10 ?_
  refine lv_aload_n hx hb dX11_isOff_11 rfl (lv_at hl 0 rfl) ?_
  refine va_get (D := D) (ci := 10) (v := .int (gI st 23)) (C := RX11) (T := TX11) (N := 35) hx hb hts inlX11 hown hK hP 0 rfl rfl 23 (by decide) (hts _ w_26_9) (fun _ h9 => h9) rfl dX11_isOff_12 ?_
  refine lv_i2l (v := (gI st 23).toInt64) hx hb dX11_isOff_15 rfl ?_
  refine lv_aload_n hx hb dX11_isOff_16 rfl (lv_at hl 0 rfl) ?_
  refine va_get (D := D) (ci := 10) (v := .int (gI st 23)) (C := RX11) (T := TX11) (N := 35) hx hb hts inlX11 hown hK hP 0 rfl rfl 23 (by decide) (hts _ w_26_9) (fun _ h9 => h9) rfl dX11_isOff_17 ?_
  refine lv_i2l (v := (gI st 23).toInt64) hx hb dX11_isOff_20 rfl ?_
  refine lv_lmul hx hb dX11_isOff_21 ?_
  refine lv_ladd hx hb dX11_isOff_22 ?_
  refine lv_aload_n hx hb dX11_isOff_23 rfl (lv_at hl 0 rfl) ?_
  refine va_get (D := D) (ci := 10) (v := .ref (ad 2)) (C := RX11) (T := TX11) (N := 35) hx hb hts inlX11 hown hK hP 0 rfl rfl 3 (by decide) (hts _ w_5_7) (fun _ h9 => h9) rfl dX11_isOff_24 ?_
  refine lv_iconst (v := 4) hx hb dX11_isOff_27 (by decide) ?_
  refine va_iald (f := gA st 3) (n := 5) hx hb hK hP 2 0 rfl rfl (vin (by decide +kernel)) dX11_isOff_28 ?_
  refine lv_aload_n hx hb dX11_isOff_29 rfl (lv_at hl 0 rfl) ?_
  refine va_get (D := D) (ci := 10) (v := .ref (ad 2)) (C := RX11) (T := TX11) (N := 35) hx hb hts inlX11 hown hK hP 0 rfl rfl 3 (by decide) (hts _ w_5_7) (fun _ h9 => h9) rfl dX11_isOff_30 ?_
  refine lv_iconst (v := 4) hx hb dX11_isOff_33 (by decide) ?_
  refine va_iald (f := gA st 3) (n := 5) hx hb hK hP 2 0 rfl rfl (vin (by decide +kernel)) dX11_isOff_34 ?_
  refine lv_imul hx hb dX11_isOff_35 ?_
  refine lv_i2l (v := ((gA st 3 (4 : Int32).toNatClampNeg) * (gA st 3 (4 : Int32).toNatClampNeg)).toInt64) hx hb dX11_isOff_36 rfl ?_
  refine W.lcmp hx hb dX11_isOff_37 ?_
  refine lv_if_le (tgt := 45) hx hb dX11_isOff_38 (by decide) (fun c1 => ?_) (fun c1 => ?_)
  · have h := h.1 ((lg_cmp_le _ _).mp c1)
    refine lv_iconst (v := 0) hx hb dX11_isOff_45 (by decide) ?_
    exact hret _ () _ _ _ _ rfl h hP hD hS dX11_isOff_46
  · have h := h.2 (fun z => c1 ((lg_cmp_le _ _).mpr z))
    refine lv_iconst (v := 1) hx hb dX11_isOff_41 (by decide) ?_
    refine lv_goto (tgt := 46) hx hb dX11_isOff_42 (by decide) ?_
    exact hret _ () _ _ _ _ rfl h hP hD hS dX11_isOff_46
-- X11_off
def rm_X11_off : Room := { frames := 3, cells := 0, slots := 0, locals := 68 }
abbrev ws_X11_off : List Cond := .code yX11_off cX11_off 5 (some .int) :: wsL_law
theorem cw_RX11_231 {R : Room} {s : State} {args : Array Value} (hts : ∀ w ∈ wsL_law, w.before args s = true) (hR : rm_X11_isOff.frames + 1 ≤ R.frames ∧ 8 + (1 + 11) + rm_X11_isOff.locals ≤ R.locals) : CallW R s args RX11 RX11 231 yX11_isOff cX11_isOff 1 (some .boolean) ws_X11_isOff rm_X11_isOff rm_X11_isOff.cells rm_X11_isOff.slots 0 := cwV 0 hts (gdV w_27_13 w_27_14 w_27_15 w_1_5 w_27_16) rfl rfl rfl (by decide +kernel) hR
def wp_X11_off_L32 (post : Int32 → St → Prop) (K : St → Prop) : Nat → St → Prop
  | 0, _ => False
  | n32 + 1, t9 => wp_X11_isOff t9 (fun r10 => ((¬ r10 = 0) → (K t9)) ∧ ((r10 = 0) → (((60 ≤ gI t9 24) → (K t9)) ∧ ((¬ 60 ≤ gI t9 24) → (wp_X11_roll t9 (fun t15 => wp_X11_off_L32 post K n32 t15))))))
def wp_X11_off (st : St) (a1 : Int32) (a2 : Int32) (a3 : Int32) (a4 : Int32) (post : Int32 → St → Prop) : Prop := wp_X11_isPlace a1 a2 1000 (fun r1 => ((r1 = 0) → (post (-2) st)) ∧ ((¬ r1 = 0) → (wp_X11_isThrow a3 a4 (fun r4 => ((¬ r4 = 0) → (wp_X11_beginRoll st a1 a2 a3 a4 (fun t8 => ∃ m32 : Nat, wp_X11_off_L32 post (fun t16 => wp_X11_isOff t16 (fun r17 => ((r17 = 0) → (post (-6) t16)) ∧ ((¬ r17 = 0) → (post (gI t16 24) t16)))) m32 t8))) ∧ ((r4 = 0) → (post (-2) st))))))
set_option maxHeartbeats 4000000 in
set_option maxRecDepth 100000 in
theorem c_X11_off (l : Launch) (D : va_G) (cy : Nat → ClassId) (tz : Nat → Nat) (ad : Nat → Nat) (st : St) (a1 : Int32) (a2 : Int32) (a3 : Int32) (a4 : Int32) (post : Int32 → St → Prop) (h : wp_X11_off st a1 a2 a3 a4 post) : CtI l D cy tz yX11_off ws_X11_off rm_X11_off [.ref (ad 0), .int a1, .int a2, .int a3, .int a4] (wM cy ad st) (wM cy ad) post := by
  refine CtI.of (own := RX11) (nm := "off") (lv := [(0, .ref (ad 0)), (1, .int a1), (2, .int a2), (3, .int a3), (4, .int a4)]) (plainFor_of_name (by decide)) rfl rfl (Nat.le_of_ble_eq_true rfl) rfl ?_
  intro p e s m args below meth c A Q ls B hP hD hS hl hret
  obtain ⟨hx, hb, hml, hown, hts, hK, hZ, hA, hnm⟩ := B
  have SF : CallFix p m c cX11_off 5 s args wsL_law RX11 := ⟨hx, hb, hml, hown, hts⟩
  unfold wp_X11_off at h
  refine lv_iload_n hx hb dX11_off_0 rfl (lv_at hl 1 rfl) ?_
  refine lv_iload_n hx hb dX11_off_1 rfl (lv_at hl 2 rfl) ?_
  refine lv_sipush (v := 1000) hx hb dX11_off_2 (by decide) ?_
  refine callSIr (rest := []) SF (c_X11_isPlace l D cy tz _ a1 a2 1000 _ h) (cw_RX11_221 hts ⟨Nat.le_of_ble_eq_true rfl, Nat.le_of_ble_eq_true rfl⟩) rfl rfl hK hZ hA hP hD hS rfl hl.1 rfl (Nat.le_of_ble_eq_true rfl) dX11_off_5 ⟨Nat.zero_le _, Nat.zero_le _⟩ (fun r1 H locs h hP hD hS => ?_)
  refine lv_if_eq (tgt := 20) hx hb dX11_off_8 (by decide) (fun c3 => ?_) (fun c3 => ?_)
  · have h := h.1 c3
    refine lv_bipush (v := (-2)) hx hb dX11_off_20 (by decide) ?_
    exact hret _ _ _ _ _ _ rfl h hP hD hS dX11_off_22
  · have h := h.2 c3
    refine lv_iload_n hx hb dX11_off_11 rfl (lv_at hl 3 rfl) ?_
    refine lv_iload hx hb dX11_off_12 (lv_at hl 4 rfl) ?_
    refine callSIr (rest := []) SF (c_X11_isThrow l D cy tz _ a3 a4 _ h) (cw_RX11_173 hts ⟨Nat.le_of_ble_eq_true rfl, Nat.le_of_ble_eq_true rfl⟩) rfl rfl hK hZ hA hP hD hS rfl hl.1 rfl (Nat.le_of_ble_eq_true rfl) dX11_off_14 ⟨Nat.zero_le _, Nat.zero_le _⟩ (fun r4 H locs h hP hD hS => ?_)
    refine lv_if_ne (tgt := 23) hx hb dX11_off_17 (by decide) (fun c6 => ?_) (fun c6 => ?_)
    · have h := h.1 c6
      refine lv_aload_n hx hb dX11_off_23 rfl (lv_at hl 0 rfl) ?_
      refine lv_iload_n hx hb dX11_off_24 rfl (lv_at hl 1 rfl) ?_
      refine lv_iload_n hx hb dX11_off_25 rfl (lv_at hl 2 rfl) ?_
      refine lv_iload_n hx hb dX11_off_26 rfl (lv_at hl 3 rfl) ?_
      refine lv_iload hx hb dX11_off_27 (lv_at hl 4 rfl) ?_
      refine callVV (rest := []) SF (c_X11_beginRoll l D cy tz ad st a1 a2 a3 a4 _ h) (cw_RX11_224 hts ⟨Nat.le_of_ble_eq_true rfl, Nat.le_of_ble_eq_true rfl⟩) rfl rfl (va_recv hK hP (ci := 10) (q0 := 0) rfl rfl) hK hZ hA hP hD hS rfl hl.1 rfl (Nat.le_of_ble_eq_true rfl) dX11_off_29 ⟨Nat.zero_le _, Nat.zero_le _⟩ (fun t8 H locs h hP hD hS => ?_)
      have loop32 : ∀ (K : St → Prop), (∀ (t16 : St) (H : Heap) (locs : List Loc) (ls : Array Slot), K t16 → va_P D vwCl (wM cy ad t16) H → va_D A (wM cy ad t16) → va_S A s.heap H locs → lv_has ls 5 [(0, .ref (ad 0))] → W p l e rm_X11_off s m args below meth c H locs 0 0 Q (F0 m 55 ls [])) → ∀ (n : Nat) (t9 : St) (H : Heap) (locs : List Loc) (ls : Array Slot), wp_X11_off_L32 post K n t9 → va_P D vwCl (wM cy ad t9) H → va_D A (wM cy ad t9) → va_S A s.heap H locs → lv_has ls 5 [(0, .ref (ad 0))] → W p l e rm_X11_off s m args below meth c H locs 0 0 Q (F0 m 32 ls []) := by
        intro K hE32 n
        induction n with
        | zero => intro t9 H locs ls h; exact h.elim
        | succ n ih32 =>
          intro t9 H locs ls h hP hD hS hl
          rw [wp_X11_off_L32] at h
          refine lv_aload_n hx hb dX11_off_32 rfl (lv_at hl 0 rfl) ?_
          refine callVIr (rest := []) SF (c_X11_isOff l D cy tz ad t9 _ h) (cw_RX11_231 hts ⟨Nat.le_of_ble_eq_true rfl, Nat.le_of_ble_eq_true rfl⟩) rfl rfl (va_recv hK hP (ci := 10) (q0 := 0) rfl rfl) hK hZ hA hP hD hS rfl hl.1 rfl (Nat.le_of_ble_eq_true rfl) dX11_off_33 ⟨Nat.zero_le _, Nat.zero_le _⟩ (fun r10 H locs h hP hD hS => ?_)
          refine lv_if_ne (tgt := 55) hx hb dX11_off_36 (by decide) (fun c12 => ?_) (fun c12 => ?_)
          · have h := h.1 c12
            exact hE32 _ _ _ _ h hP hD hS (lv_sub hl [0] rfl)
          · have h := h.2 c12
            refine lv_aload_n hx hb dX11_off_39 rfl (lv_at hl 0 rfl) ?_
            refine va_get (D := D) (ci := 10) (v := .int (gI t9 24)) (C := RX11) (T := TX11) (N := 35) hx hb hts inlX11 hown hK hP 0 rfl rfl 24 (by decide) (hts _ w_26_7) (fun _ h9 => h9) rfl dX11_off_40 ?_
            refine lv_bipush (v := 60) hx hb dX11_off_43 (by decide) ?_
            refine lv_icmp_ge (tgt := 55) hx hb dX11_off_45 (by decide) (fun c13 => ?_) (fun c13 => ?_)
            · have h := h.1 c13
              exact hE32 _ _ _ _ h hP hD hS (lv_sub hl [0] rfl)
            · have h := h.2 c13
              refine lv_aload_n hx hb dX11_off_48 rfl (lv_at hl 0 rfl) ?_
              refine callVV (rest := []) SF (c_X11_roll l D cy tz ad t9 _ h) (cw_RX11_228 hts ⟨Nat.le_of_ble_eq_true rfl, Nat.le_of_ble_eq_true rfl⟩) rfl rfl (va_recv hK hP (ci := 10) (q0 := 0) rfl rfl) hK hZ hA hP hD hS rfl hl.1 rfl (Nat.le_of_ble_eq_true rfl) dX11_off_49 ⟨Nat.zero_le _, Nat.zero_le _⟩ (fun t15 H locs h hP hD hS => ?_)
              refine lv_goto (tgt := 32) hx hb dX11_off_52 (by decide) ?_
              exact ih32 _ _ _ _ h hP hD hS (lv_sub hl [0] rfl)
      obtain ⟨n, h⟩ := h
      refine loop32 _ ?_ n _ _ _ _ h hP hD hS (lv_sub hl [0] rfl)
      intro t16 H locs ls h hP hD hS hl
      refine lv_aload_n hx hb dX11_off_55 rfl (lv_at hl 0 rfl) ?_
      refine callVIr (rest := []) SF (c_X11_isOff l D cy tz ad t16 _ h) (cw_RX11_231 hts ⟨Nat.le_of_ble_eq_true rfl, Nat.le_of_ble_eq_true rfl⟩) rfl rfl (va_recv hK hP (ci := 10) (q0 := 0) rfl rfl) hK hZ hA hP hD hS rfl hl.1 rfl (Nat.le_of_ble_eq_true rfl) dX11_off_56 ⟨Nat.zero_le _, Nat.zero_le _⟩ (fun r17 H locs h hP hD hS => ?_)
      refine lv_if_eq (tgt := 69) hx hb dX11_off_59 (by decide) (fun c19 => ?_) (fun c19 => ?_)
      · have h := h.1 c19
        refine lv_bipush (v := (-6)) hx hb dX11_off_69 (by decide) ?_
        exact hret _ _ _ _ _ _ rfl h hP hD hS dX11_off_71
      · have h := h.2 c19
        refine lv_aload_n hx hb dX11_off_62 rfl (lv_at hl 0 rfl) ?_
        refine va_get (D := D) (ci := 10) (v := .int (gI t16 24)) (C := RX11) (T := TX11) (N := 35) hx hb hts inlX11 hown hK hP 0 rfl rfl 24 (by decide) (hts _ w_26_7) (fun _ h9 => h9) rfl dX11_off_63 ?_
        refine lv_goto (tgt := 71) hx hb dX11_off_66 (by decide) ?_
        exact hret _ _ _ _ _ _ rfl h hP hD hS dX11_off_71
    · have h := h.2 c6
      refine lv_bipush (v := (-2)) hx hb dX11_off_20 (by decide) ?_
      exact hret _ _ _ _ _ _ rfl h hP hD hS dX11_off_22
-- X11_leansOf
def rm_X11_leansOf : Room := { frames := 0, cells := 0, slots := 0, locals := 0 }
abbrev ws_X11_leansOf : List Cond := .code yX11_leansOf cX11_leansOf 2 (some .int) :: wsL_law
def wp_X11_leansOf (st : St) (a1 : Int32) (post : Int32 → Prop) : Prop := post (((a1 * (gA st 3 (0 : Int32).toNatClampNeg)) * (gA st 3 (0 : Int32).toNatClampNeg)) / 1000)
set_option maxHeartbeats 4000000 in
set_option maxRecDepth 100000 in
theorem c_X11_leansOf (l : Launch) (D : va_G) (cy : Nat → ClassId) (tz : Nat → Nat) (ad : Nat → Nat) (st : St) (a1 : Int32) (post : Int32 → Prop) (h : wp_X11_leansOf st a1 post) : CtI l D cy tz yX11_leansOf ws_X11_leansOf rm_X11_leansOf [.ref (ad 0), .int a1] (wM cy ad st) (fun _ : Unit => wM cy ad st) (fun r _ => post r) := by
  refine CtI.of (own := RX11) (nm := "leansOf") (lv := [(0, .ref (ad 0)), (1, .int a1)]) (plainFor_of_name (by decide)) rfl rfl (Nat.le_of_ble_eq_true rfl) rfl ?_
  intro p e s m args below meth c A Q ls B hP hD hS hl hret
  obtain ⟨hx, hb, hml, hown, hts, hK, hZ, hA, hnm⟩ := B
  have SF : CallFix p m c cX11_leansOf 2 s args wsL_law RX11 := ⟨hx, hb, hml, hown, hts⟩
  unfold wp_X11_leansOf at h
  refine lv_iload_n hx hb dX11_leansOf_0 rfl (lv_at hl 1 rfl) ?_
  refine lv_aload_n hx hb dX11_leansOf_1 rfl (lv_at hl 0 rfl) ?_
  refine va_get (D := D) (ci := 10) (v := .ref (ad 2)) (C := RX11) (T := TX11) (N := 35) hx hb hts inlX11 hown hK hP 0 rfl rfl 3 (by decide) (hts _ w_5_7) (fun _ h9 => h9) rfl dX11_leansOf_2 ?_
  refine lv_iconst (v := 0) hx hb dX11_leansOf_5 (by decide) ?_
  refine va_iald (f := gA st 3) (n := 5) hx hb hK hP 2 0 rfl rfl (vin (by decide +kernel)) dX11_leansOf_6 ?_
  refine lv_imul hx hb dX11_leansOf_7 ?_
  refine lv_aload_n hx hb dX11_leansOf_8 rfl (lv_at hl 0 rfl) ?_
  refine va_get (D := D) (ci := 10) (v := .ref (ad 2)) (C := RX11) (T := TX11) (N := 35) hx hb hts inlX11 hown hK hP 0 rfl rfl 3 (by decide) (hts _ w_5_7) (fun _ h9 => h9) rfl dX11_leansOf_9 ?_
  refine lv_iconst (v := 0) hx hb dX11_leansOf_12 (by decide) ?_
  refine va_iald (f := gA st 3) (n := 5) hx hb hK hP 2 0 rfl rfl (vin (by decide +kernel)) dX11_leansOf_13 ?_
  refine lv_imul hx hb dX11_leansOf_14 ?_
  refine lv_sipush (v := 1000) hx hb dX11_leansOf_15 (by decide) ?_
  refine lv_idiv hx hb dX11_leansOf_18 (by decide) ?_
  exact hret _ () _ _ _ _ rfl h hP hD hS dX11_leansOf_19
-- X11_leans
def rm_X11_leans : Room := { frames := 1, cells := 0, slots := 0, locals := 25 }
abbrev ws_X11_leans : List Cond := .code yX11_leans cX11_leans 2 (some .int) :: wsL_law
theorem cw_RX11_235 {R : Room} {s : State} {args : Array Value} (hts : ∀ w ∈ wsL_law, w.before args s = true) (hR : rm_X11_leansOf.frames + 1 ≤ R.frames ∧ 8 + (2 + 11) + rm_X11_leansOf.locals ≤ R.locals) : CallW R s args RX11 RX11 235 yX11_leansOf cX11_leansOf 2 (some .int) ws_X11_leansOf rm_X11_leansOf rm_X11_leansOf.cells rm_X11_leansOf.slots 1 := cwV 1 hts (gdV w_28_4 w_28_5 w_28_6 w_1_5 w_28_7) rfl rfl rfl (by decide +kernel) hR
def wp_X11_leans (st : St) (a1 : Int32) (post : Int32 → Prop) : Prop := wp_X11_in a1.toInt64 0 1000 (fun r1 => ((r1 = 0) → (post (-2))) ∧ ((¬ r1 = 0) → (wp_X11_leansOf st a1 (fun r4 => post r4))))
set_option maxHeartbeats 4000000 in
set_option maxRecDepth 100000 in
theorem c_X11_leans (l : Launch) (D : va_G) (cy : Nat → ClassId) (tz : Nat → Nat) (ad : Nat → Nat) (st : St) (a1 : Int32) (post : Int32 → Prop) (h : wp_X11_leans st a1 post) : CtI l D cy tz yX11_leans ws_X11_leans rm_X11_leans [.ref (ad 0), .int a1] (wM cy ad st) (fun _ : Unit => wM cy ad st) (fun r _ => post r) := by
  refine CtI.of (own := RX11) (nm := "leans") (lv := [(0, .ref (ad 0)), (1, .int a1)]) (plainFor_of_name (by decide)) rfl rfl (Nat.le_of_ble_eq_true rfl) rfl ?_
  intro p e s m args below meth c A Q ls B hP hD hS hl hret
  obtain ⟨hx, hb, hml, hown, hts, hK, hZ, hA, hnm⟩ := B
  have SF : CallFix p m c cX11_leans 2 s args wsL_law RX11 := ⟨hx, hb, hml, hown, hts⟩
  unfold wp_X11_leans at h
  refine lv_iload_n hx hb dX11_leans_0 rfl (lv_at hl 1 rfl) ?_
  refine lv_i2l (v := a1.toInt64) hx hb dX11_leans_1 rfl ?_
  refine lv_lconst (v := 0) hx hb dX11_leans_2 (by decide) ?_
  refine lv_ldc2 (v := 1000) hx hb hown (hts _ w_14_1) dX11_leans_3 ?_
  refine callSIr (rest := []) SF (c_X11_in l D cy tz _ a1.toInt64 0 1000 _ h) (cw_RX11_67 hts ⟨Nat.le_of_ble_eq_true rfl, Nat.le_of_ble_eq_true rfl⟩) rfl rfl hK hZ hA hP hD hS rfl hl.1 rfl (Nat.le_of_ble_eq_true rfl) dX11_leans_6 ⟨Nat.zero_le _, Nat.zero_le _⟩ (fun r1 H locs h hP hD hS => ?_)
  refine lv_if_eq (tgt := 20) hx hb dX11_leans_9 (by decide) (fun c3 => ?_) (fun c3 => ?_)
  · have h := h.1 c3
    refine lv_bipush (v := (-2)) hx hb dX11_leans_20 (by decide) ?_
    exact hret _ () _ _ _ _ rfl h hP hD hS dX11_leans_22
  · have h := h.2 c3
    refine lv_aload_n hx hb dX11_leans_12 rfl (lv_at hl 0 rfl) ?_
    refine lv_iload_n hx hb dX11_leans_13 rfl (lv_at hl 1 rfl) ?_
    refine callVIr (rest := []) SF (c_X11_leansOf l D cy tz ad st a1 _ h) (cw_RX11_235 hts ⟨Nat.le_of_ble_eq_true rfl, Nat.le_of_ble_eq_true rfl⟩) rfl rfl (va_recv hK hP (ci := 10) (q0 := 0) rfl rfl) hK hZ hA hP hD hS rfl hl.1 rfl (Nat.le_of_ble_eq_true rfl) dX11_leans_14 ⟨Nat.zero_le _, Nat.zero_le _⟩ (fun r4 H locs h hP hD hS => ?_)
    refine lv_goto (tgt := 22) hx hb dX11_leans_17 (by decide) ?_
    exact hret _ () _ _ _ _ rfl h hP hD hS dX11_leans_22
-- X11_stays
def rm_X11_stays : Room := { frames := 1, cells := 0, slots := 0, locals := 25 }
abbrev ws_X11_stays : List Cond := .code yX11_stays cX11_stays 3 (some .int) :: wsL_law
def wp_X11_stays_L19 (post : Int32 → Prop) (K : Int32 → Prop) (st : St) (a1 : Int32) : Nat → Int32 → Prop
  | 0, _ => False
  | n19 + 1, v4 => wp_X11_leansOf st v4 (fun r6 => ((r6 ≤ a1) → (K v4)) ∧ ((¬ r6 ≤ a1) → (∀ x9 : Int32, x9 = v4 + (-1) → (wp_X11_stays_L19 post K st a1 n19 x9))))
def wp_X11_stays (st : St) (a1 : Int32) (post : Int32 → Prop) : Prop := wp_X11_in a1.toInt64 0 9999 (fun r1 => ((¬ r1 = 0) → (∃ m19 : Nat, wp_X11_stays_L19 post (fun v11 => post v11) st a1 m19 1000)) ∧ ((r1 = 0) → (post (-2))))
set_option maxHeartbeats 4000000 in
set_option maxRecDepth 100000 in
theorem c_X11_stays (l : Launch) (D : va_G) (cy : Nat → ClassId) (tz : Nat → Nat) (ad : Nat → Nat) (st : St) (a1 : Int32) (post : Int32 → Prop) (h : wp_X11_stays st a1 post) : CtI l D cy tz yX11_stays ws_X11_stays rm_X11_stays [.ref (ad 0), .int a1] (wM cy ad st) (fun _ : Unit => wM cy ad st) (fun r _ => post r) := by
  refine CtI.of (own := RX11) (nm := "stays") (lv := [(0, .ref (ad 0)), (1, .int a1)]) (plainFor_of_name (by decide)) rfl rfl (Nat.le_of_ble_eq_true rfl) rfl ?_
  intro p e s m args below meth c A Q ls B hP hD hS hl hret
  obtain ⟨hx, hb, hml, hown, hts, hK, hZ, hA, hnm⟩ := B
  have SF : CallFix p m c cX11_stays 3 s args wsL_law RX11 := ⟨hx, hb, hml, hown, hts⟩
  unfold wp_X11_stays at h
  refine lv_iload_n hx hb dX11_stays_0 rfl (lv_at hl 1 rfl) ?_
  refine lv_i2l (v := a1.toInt64) hx hb dX11_stays_1 rfl ?_
  refine lv_lconst (v := 0) hx hb dX11_stays_2 (by decide) ?_
  refine lv_ldc2 (v := 9999) hx hb hown (hts _ w_28_16) dX11_stays_3 ?_
  refine callSIr (rest := []) SF (c_X11_in l D cy tz _ a1.toInt64 0 9999 _ h) (cw_RX11_67 hts ⟨Nat.le_of_ble_eq_true rfl, Nat.le_of_ble_eq_true rfl⟩) rfl rfl hK hZ hA hP hD hS rfl hl.1 rfl (Nat.le_of_ble_eq_true rfl) dX11_stays_6 ⟨Nat.zero_le _, Nat.zero_le _⟩ (fun r1 H locs h hP hD hS => ?_)
  refine lv_if_ne (tgt := 15) hx hb dX11_stays_9 (by decide) (fun c3 => ?_) (fun c3 => ?_)
  · have h := h.1 c3
    refine lv_sipush (v := 1000) hx hb dX11_stays_15 (by decide) ?_
    refine lv_istore_n (lv' := [(2, .int 1000), (0, .ref (ad 0)), (1, .int a1)]) hx hb dX11_stays_18 rfl hl (by decide) rfl (fun ls hl => ?_)
    have loop19 : ∀ (K : Int32 → Prop), (∀ (v11 : Int32) (H : Heap) (locs : List Loc) (ls : Array Slot), K v11 → va_P D vwCl (wM cy ad st) H → va_D A (wM cy ad st) → va_S A s.heap H locs → lv_has ls 3 [(2, .int v11)] → W p l e rm_X11_stays s m args below meth c H locs 0 0 Q (F0 m 34 ls [])) → ∀ (n : Nat) (v4 : Int32) (H : Heap) (locs : List Loc) (ls : Array Slot), wp_X11_stays_L19 post K st a1 n v4 → va_P D vwCl (wM cy ad st) H → va_D A (wM cy ad st) → va_S A s.heap H locs → lv_has ls 3 [(0, .ref (ad 0)), (1, .int a1), (2, .int v4)] → W p l e rm_X11_stays s m args below meth c H locs 0 0 Q (F0 m 19 ls []) := by
      intro K hE19 n
      induction n with
      | zero => intro v4 H locs ls h; exact h.elim
      | succ n ih19 =>
        intro v4 H locs ls h hP hD hS hl
        rw [wp_X11_stays_L19] at h
        refine lv_aload_n hx hb dX11_stays_19 rfl (lv_at hl 0 rfl) ?_
        refine lv_iload_n hx hb dX11_stays_20 rfl (lv_at hl 2 rfl) ?_
        refine callVIr (rest := []) SF (c_X11_leansOf l D cy tz ad st v4 _ h) (cw_RX11_235 hts ⟨Nat.le_of_ble_eq_true rfl, Nat.le_of_ble_eq_true rfl⟩) rfl rfl (va_recv hK hP (ci := 10) (q0 := 0) rfl rfl) hK hZ hA hP hD hS rfl hl.1 rfl (Nat.le_of_ble_eq_true rfl) dX11_stays_21 ⟨Nat.zero_le _, Nat.zero_le _⟩ (fun r6 H locs h hP hD hS => ?_)
        refine lv_iload_n hx hb dX11_stays_24 rfl (lv_at hl 1 rfl) ?_
        refine lv_icmp_le (tgt := 34) hx hb dX11_stays_25 (by decide) (fun c8 => ?_) (fun c8 => ?_)
        · have h := h.1 c8
          exact hE19 _ _ _ _ h hP hD hS (lv_sub hl [2] rfl)
        · have h := h.2 c8
          obtain ⟨x9, e10⟩ : ∃ z : Int32, z = v4 + (-1) := ⟨_, rfl⟩
          have h := h x9 e10
          refine lv_iinc (v := x9) (lv' := [(2, .int x9), (0, .ref (ad 0)), (1, .int a1)]) hx hb dX11_stays_28 hl (k := 2) rfl (by rw [e10]; rfl) (by decide) rfl (fun ls hl => ?_)
          refine lv_goto (tgt := 19) hx hb dX11_stays_31 (by decide) ?_
          exact ih19 _ _ _ _ h hP hD hS (lv_sub hl [1, 2, 0] rfl)
    obtain ⟨n, h⟩ := h
    refine loop19 _ ?_ n _ _ _ _ h hP hD hS (lv_sub hl [1, 2, 0] rfl)
    intro v11 H locs ls h hP hD hS hl
    refine lv_iload_n hx hb dX11_stays_34 rfl (lv_at hl 0 rfl) ?_
    exact hret _ () _ _ _ _ rfl h hP hD hS dX11_stays_35
  · have h := h.2 c3
    refine lv_bipush (v := (-2)) hx hb dX11_stays_12 (by decide) ?_
    exact hret _ () _ _ _ _ rfl h hP hD hS dX11_stays_14
-- X11_hut
def rm_X11_hut : Room := { frames := 1, cells := 0, slots := 0, locals := 25 }
abbrev ws_X11_hut : List Cond := .code yX11_hut cX11_hut 6 (some .int) :: wsL_law
def wp_X11_hut_L51 (post : Int32 → Prop) (K : Prop) (a1 : Int32) (a3 : Int32) (x10 : Int32) : Nat → Int32 → Prop
  | 0, _ => False
  | n51 + 1, v12 => ((99 < v12) → (K)) ∧ ((¬ 99 < v12) → ((((((a1 * v12) * x10) / 38) ≤ a3) → (∀ x16 : Int32, x16 = v12 + 1 → (wp_X11_hut_L51 post K a1 a3 x10 n51 x16))) ∧ ((¬ (((a1 * v12) * x10) / 38) ≤ a3) → (post v12))))
def wp_X11_hut (st : St) (a1 : Int32) (a2 : Int32) (a3 : Int32) (post : Int32 → Prop) : Prop := wp_X11_in a1.toInt64 1 1000 (fun r1 => ((r1 = 0) → (post (-2))) ∧ ((¬ r1 = 0) → (wp_X11_in a2.toInt64 1 200 (fun r4 => ((r4 = 0) → (post (-2))) ∧ ((¬ r4 = 0) → (wp_X11_in a3.toInt64 0 9999 (fun r7 => ((¬ r7 = 0) → ((¬ a2 = 0) ∧ (∀ x10 : Int32, x10 = (((a1 + a2) - 1) / a2) → (∃ m51 : Nat, wp_X11_hut_L51 post (post (-6)) a1 a3 x10 m51 1)))) ∧ ((r7 = 0) → (post (-2))))))))))
set_option maxHeartbeats 4000000 in
set_option maxRecDepth 100000 in
theorem c_X11_hut (l : Launch) (D : va_G) (cy : Nat → ClassId) (tz : Nat → Nat) (ad : Nat → Nat) (st : St) (a1 : Int32) (a2 : Int32) (a3 : Int32) (post : Int32 → Prop) (h : wp_X11_hut st a1 a2 a3 post) : CtI l D cy tz yX11_hut ws_X11_hut rm_X11_hut [.ref (ad 0), .int a1, .int a2, .int a3] (wM cy ad st) (fun _ : Unit => wM cy ad st) (fun r _ => post r) := by
  refine CtI.of (own := RX11) (nm := "hut") (lv := [(0, .ref (ad 0)), (1, .int a1), (2, .int a2), (3, .int a3)]) (plainFor_of_name (by decide)) rfl rfl (Nat.le_of_ble_eq_true rfl) rfl ?_
  intro p e s m args below meth c A Q ls B hP hD hS hl hret
  obtain ⟨hx, hb, hml, hown, hts, hK, hZ, hA, hnm⟩ := B
  have SF : CallFix p m c cX11_hut 6 s args wsL_law RX11 := ⟨hx, hb, hml, hown, hts⟩
  unfold wp_X11_hut at h
  refine lv_iload_n hx hb dX11_hut_0 rfl (lv_at hl 1 rfl) ?_
  refine lv_i2l (v := a1.toInt64) hx hb dX11_hut_1 rfl ?_
  refine lv_lconst (v := 1) hx hb dX11_hut_2 (by decide) ?_
  refine lv_ldc2 (v := 1000) hx hb hown (hts _ w_14_1) dX11_hut_3 ?_
  refine callSIr (rest := []) SF (c_X11_in l D cy tz _ a1.toInt64 1 1000 _ h) (cw_RX11_67 hts ⟨Nat.le_of_ble_eq_true rfl, Nat.le_of_ble_eq_true rfl⟩) rfl rfl hK hZ hA hP hD hS rfl hl.1 rfl (Nat.le_of_ble_eq_true rfl) dX11_hut_6 ⟨Nat.zero_le _, Nat.zero_le _⟩ (fun r1 H locs h hP hD hS => ?_)
  refine lv_if_eq (tgt := 36) hx hb dX11_hut_9 (by decide) (fun c3 => ?_) (fun c3 => ?_)
  · have h := h.1 c3
    refine lv_bipush (v := (-2)) hx hb dX11_hut_36 (by decide) ?_
    exact hret _ () _ _ _ _ rfl h hP hD hS dX11_hut_38
  · have h := h.2 c3
    refine lv_iload_n hx hb dX11_hut_12 rfl (lv_at hl 2 rfl) ?_
    refine lv_i2l (v := a2.toInt64) hx hb dX11_hut_13 rfl ?_
    refine lv_lconst (v := 1) hx hb dX11_hut_14 (by decide) ?_
    refine lv_ldc2 (v := 200) hx hb hown (hts _ w_18_2) dX11_hut_15 ?_
    refine callSIr (rest := []) SF (c_X11_in l D cy tz _ a2.toInt64 1 200 _ h) (cw_RX11_67 hts ⟨Nat.le_of_ble_eq_true rfl, Nat.le_of_ble_eq_true rfl⟩) rfl rfl hK hZ hA hP hD hS rfl hl.1 rfl (Nat.le_of_ble_eq_true rfl) dX11_hut_18 ⟨Nat.zero_le _, Nat.zero_le _⟩ (fun r4 H locs h hP hD hS => ?_)
    refine lv_if_eq (tgt := 36) hx hb dX11_hut_21 (by decide) (fun c6 => ?_) (fun c6 => ?_)
    · have h := h.1 c6
      refine lv_bipush (v := (-2)) hx hb dX11_hut_36 (by decide) ?_
      exact hret _ () _ _ _ _ rfl h hP hD hS dX11_hut_38
    · have h := h.2 c6
      refine lv_iload_n hx hb dX11_hut_24 rfl (lv_at hl 3 rfl) ?_
      refine lv_i2l (v := a3.toInt64) hx hb dX11_hut_25 rfl ?_
      refine lv_lconst (v := 0) hx hb dX11_hut_26 (by decide) ?_
      refine lv_ldc2 (v := 9999) hx hb hown (hts _ w_28_16) dX11_hut_27 ?_
      refine callSIr (rest := []) SF (c_X11_in l D cy tz _ a3.toInt64 0 9999 _ h) (cw_RX11_67 hts ⟨Nat.le_of_ble_eq_true rfl, Nat.le_of_ble_eq_true rfl⟩) rfl rfl hK hZ hA hP hD hS rfl hl.1 rfl (Nat.le_of_ble_eq_true rfl) dX11_hut_30 ⟨Nat.zero_le _, Nat.zero_le _⟩ (fun r7 H locs h hP hD hS => ?_)
      refine lv_if_ne (tgt := 39) hx hb dX11_hut_33 (by decide) (fun c9 => ?_) (fun c9 => ?_)
      · have h := h.1 c9
        refine lv_iload_n hx hb dX11_hut_39 rfl (lv_at hl 1 rfl) ?_
        refine lv_iload_n hx hb dX11_hut_40 rfl (lv_at hl 2 rfl) ?_
        refine lv_iadd hx hb dX11_hut_41 ?_
        refine lv_iconst (v := 1) hx hb dX11_hut_42 (by decide) ?_
        refine lv_isub hx hb dX11_hut_43 ?_
        refine lv_iload_n hx hb dX11_hut_44 rfl (lv_at hl 2 rfl) ?_
        refine lv_idiv hx hb dX11_hut_45 h.1 ?_
        have h := h.2
        refine lv_topi (fun x10 e11 => ?_)
        have h := h x10 e11
        refine lv_istore (lv' := [(4, .int x10), (0, .ref (ad 0)), (1, .int a1), (2, .int a2), (3, .int a3)]) hx hb dX11_hut_46 hl (by decide) rfl (fun ls hl => ?_)
        refine lv_iconst (v := 1) hx hb dX11_hut_48 (by decide) ?_
        refine lv_istore (lv' := [(5, .int 1), (4, .int x10), (0, .ref (ad 0)), (1, .int a1), (2, .int a2), (3, .int a3)]) hx hb dX11_hut_49 hl (by decide) rfl (fun ls hl => ?_)
        have loop51 : ∀ (K : Prop), (∀ (H : Heap) (locs : List Loc) (ls : Array Slot), K → va_P D vwCl (wM cy ad st) H → va_D A (wM cy ad st) → va_S A s.heap H locs → lv_has ls 6 [] → W p l e rm_X11_hut s m args below meth c H locs 0 0 Q (F0 m 81 ls [])) → ∀ (n : Nat) (v12 : Int32) (H : Heap) (locs : List Loc) (ls : Array Slot), wp_X11_hut_L51 post K a1 a3 x10 n v12 → va_P D vwCl (wM cy ad st) H → va_D A (wM cy ad st) → va_S A s.heap H locs → lv_has ls 6 [(1, .int a1), (3, .int a3), (4, .int x10), (5, .int v12)] → W p l e rm_X11_hut s m args below meth c H locs 0 0 Q (F0 m 51 ls []) := by
          intro K hE51 n
          induction n with
          | zero => intro v12 H locs ls h; exact h.elim
          | succ n ih51 =>
            intro v12 H locs ls h hP hD hS hl
            rw [wp_X11_hut_L51] at h
            refine lv_iload hx hb dX11_hut_51 (lv_at hl 3 rfl) ?_
            refine lv_bipush (v := 99) hx hb dX11_hut_53 (by decide) ?_
            refine lv_icmp_gt (tgt := 81) hx hb dX11_hut_55 (by decide) (fun c14 => ?_) (fun c14 => ?_)
            · have h := h.1 c14
              exact hE51 _ _ _ h hP hD hS (lv_sub hl [] rfl)
            · have h := h.2 c14
              refine lv_iload_n hx hb dX11_hut_58 rfl (lv_at hl 0 rfl) ?_
              refine lv_iload hx hb dX11_hut_59 (lv_at hl 3 rfl) ?_
              refine lv_imul hx hb dX11_hut_61 ?_
              refine lv_iload hx hb dX11_hut_62 (lv_at hl 2 rfl) ?_
              refine lv_imul hx hb dX11_hut_64 ?_
              refine lv_bipush (v := 38) hx hb dX11_hut_65 (by decide) ?_
              refine lv_idiv hx hb dX11_hut_67 (by decide) ?_
              refine lv_iload_n hx hb dX11_hut_68 rfl (lv_at hl 1 rfl) ?_
              refine lv_icmp_le (tgt := 75) hx hb dX11_hut_69 (by decide) (fun c15 => ?_) (fun c15 => ?_)
              · have h := h.1 c15
                obtain ⟨x16, e17⟩ : ∃ z : Int32, z = v12 + 1 := ⟨_, rfl⟩
                have h := h x16 e17
                refine lv_iinc (v := x16) (lv' := [(5, .int x16), (1, .int a1), (3, .int a3), (4, .int x10)]) hx hb dX11_hut_75 hl (k := 3) rfl (by rw [e17]; rfl) (by decide) rfl (fun ls hl => ?_)
                refine lv_goto (tgt := 51) hx hb dX11_hut_78 (by decide) ?_
                exact ih51 _ _ _ _ h hP hD hS (lv_sub hl [1, 2, 3, 0] rfl)
              · have h := h.2 c15
                refine lv_iload hx hb dX11_hut_72 (lv_at hl 3 rfl) ?_
                exact hret _ () _ _ _ _ rfl h hP hD hS dX11_hut_74
        obtain ⟨n, h⟩ := h
        refine loop51 _ ?_ n _ _ _ _ h hP hD hS (lv_sub hl [3, 5, 1, 0] rfl)
        intro H locs ls h hP hD hS hl
        refine lv_bipush (v := (-6)) hx hb dX11_hut_81 (by decide) ?_
        exact hret _ () _ _ _ _ rfl h hP hD hS dX11_hut_83
      · have h := h.2 c9
        refine lv_bipush (v := (-2)) hx hb dX11_hut_36 (by decide) ?_
        exact hret _ () _ _ _ _ rfl h hP hD hS dX11_hut_38
-- X11_film
def rm_X11_film : Room := { frames := 2, cells := 0, slots := 0, locals := 47 }
abbrev ws_X11_film : List Cond := .code yX11_film cX11_film 3 (some .int) :: wsL_law
def wp_X11_film (st : St) (a1 : Int32) (a2 : Int32) (post : Int32 → St → Prop) : Prop := wp_X11_isPlace a1 a2 2000 (fun r1 => ((¬ r1 = 0) → (((¬ gI st 27 = 24) → (vp_in (gI st 27) 24 ∧ (vp_in (gI st 27) 24 ∧ (∀ x5 : Int32, x5 = (gI st 27 + 1) → (post x5 (sI (sA (sA st 25 (upd (gA st 25) (gI st 27).toNatClampNeg a1)) 26 (upd (gA st 26) (gI st 27).toNatClampNeg a2)) 27 x5)))))) ∧ ((gI st 27 = 24) → (post (-4) st)))) ∧ ((r1 = 0) → (post (-2) st)))
set_option maxHeartbeats 4000000 in
set_option maxRecDepth 100000 in
theorem c_X11_film (l : Launch) (D : va_G) (cy : Nat → ClassId) (tz : Nat → Nat) (ad : Nat → Nat) (st : St) (a1 : Int32) (a2 : Int32) (post : Int32 → St → Prop) (h : wp_X11_film st a1 a2 post) : CtI l D cy tz yX11_film ws_X11_film rm_X11_film [.ref (ad 0), .int a1, .int a2] (wM cy ad st) (wM cy ad) post := by
  refine CtI.of (own := RX11) (nm := "film") (lv := [(0, .ref (ad 0)), (1, .int a1), (2, .int a2)]) (plainFor_of_name (by decide)) rfl rfl (Nat.le_of_ble_eq_true rfl) rfl ?_
  intro p e s m args below meth c A Q ls B hP hD hS hl hret
  obtain ⟨hx, hb, hml, hown, hts, hK, hZ, hA, hnm⟩ := B
  have SF : CallFix p m c cX11_film 3 s args wsL_law RX11 := ⟨hx, hb, hml, hown, hts⟩
  unfold wp_X11_film at h
  refine lv_iload_n hx hb dX11_film_0 rfl (lv_at hl 1 rfl) ?_
  refine lv_iload_n hx hb dX11_film_1 rfl (lv_at hl 2 rfl) ?_
  refine lv_sipush (v := 2000) hx hb dX11_film_2 (by decide) ?_
  refine callSIr (rest := []) SF (c_X11_isPlace l D cy tz _ a1 a2 2000 _ h) (cw_RX11_221 hts ⟨Nat.le_of_ble_eq_true rfl, Nat.le_of_ble_eq_true rfl⟩) rfl rfl hK hZ hA hP hD hS rfl hl.1 rfl (Nat.le_of_ble_eq_true rfl) dX11_film_5 ⟨Nat.zero_le _, Nat.zero_le _⟩ (fun r1 H locs h hP hD hS => ?_)
  refine lv_if_ne (tgt := 14) hx hb dX11_film_8 (by decide) (fun c3 => ?_) (fun c3 => ?_)
  · have h := h.1 c3
    refine lv_aload_n hx hb dX11_film_14 rfl (lv_at hl 0 rfl) ?_
    refine va_get (D := D) (ci := 10) (v := .int (gI st 27)) (C := RX11) (T := TX11) (N := 35) hx hb hts inlX11 hown hK hP 0 rfl rfl 27 (by decide) (hts _ w_29_16) (fun _ h9 => h9) rfl dX11_film_15 ?_
    refine lv_bipush (v := 24) hx hb dX11_film_18 (by decide) ?_
    refine lv_icmp_ne (tgt := 26) hx hb dX11_film_20 (by decide) (fun c4 => ?_) (fun c4 => ?_)
    · have h := h.1 c4
      refine lv_aload_n hx hb dX11_film_26 rfl (lv_at hl 0 rfl) ?_
      refine va_get (D := D) (ci := 10) (v := .ref (ad 13)) (C := RX11) (T := TX11) (N := 35) hx hb hts inlX11 hown hK hP 0 rfl rfl 25 (by decide) (hts _ w_5_19) (fun _ h9 => h9) rfl dX11_film_27 ?_
      refine lv_aload_n hx hb dX11_film_30 rfl (lv_at hl 0 rfl) ?_
      refine va_get (D := D) (ci := 10) (v := .int (gI st 27)) (C := RX11) (T := TX11) (N := 35) hx hb hts inlX11 hown hK hP 0 rfl rfl 27 (by decide) (hts _ w_29_16) (fun _ h9 => h9) rfl dX11_film_31 ?_
      refine lv_iload_n hx hb dX11_film_34 rfl (lv_at hl 1 rfl) ?_
      refine va_iast (f := gA st 25) (n := 24) hx hb hK hP hD hS 13 0 rfl rfl h.1 dX11_film_35 (fun H locs hP hD hS => ?_)
      have h := h.2
      have hP : va_P D vwCl (wM cy ad (sA st 25 (upd (gA st 25) (gI st 27).toNatClampNeg a1))) H := hP
      have hD : va_D A (wM cy ad (sA st 25 (upd (gA st 25) (gI st 27).toNatClampNeg a1))) := hD
      refine lv_aload_n hx hb dX11_film_36 rfl (lv_at hl 0 rfl) ?_
      refine va_get (D := D) (ci := 10) (v := .ref (ad 14)) (C := RX11) (T := TX11) (N := 35) hx hb hts inlX11 hown hK hP 0 rfl rfl 26 (by decide) (hts _ w_5_20) (fun _ h9 => h9) rfl dX11_film_37 ?_
      refine lv_aload_n hx hb dX11_film_40 rfl (lv_at hl 0 rfl) ?_
      refine va_get (D := D) (ci := 10) (v := .int (gI st 27)) (C := RX11) (T := TX11) (N := 35) hx hb hts inlX11 hown hK hP 0 rfl rfl 27 (by decide) (hts _ w_29_16) (fun _ h9 => h9) rfl dX11_film_41 ?_
      refine lv_iload_n hx hb dX11_film_44 rfl (lv_at hl 2 rfl) ?_
      refine va_iast (f := gA st 26) (n := 24) hx hb hK hP hD hS 14 0 rfl rfl h.1 dX11_film_45 (fun H locs hP hD hS => ?_)
      have h := h.2
      have hP : va_P D vwCl (wM cy ad (sA (sA st 25 (upd (gA st 25) (gI st 27).toNatClampNeg a1)) 26 (upd (gA st 26) (gI st 27).toNatClampNeg a2))) H := hP
      have hD : va_D A (wM cy ad (sA (sA st 25 (upd (gA st 25) (gI st 27).toNatClampNeg a1)) 26 (upd (gA st 26) (gI st 27).toNatClampNeg a2))) := hD
      refine lv_aload_n hx hb dX11_film_46 rfl (lv_at hl 0 rfl) ?_
      refine lv_dup hx hb dX11_film_47 rfl ?_
      refine va_get (D := D) (ci := 10) (v := .int (gI st 27)) (C := RX11) (T := TX11) (N := 35) hx hb hts inlX11 hown hK hP 0 rfl rfl 27 (by decide) (hts _ w_29_16) (fun _ h9 => h9) rfl dX11_film_48 ?_
      refine lv_iconst (v := 1) hx hb dX11_film_51 (by decide) ?_
      refine lv_iadd hx hb dX11_film_52 ?_
      refine lv_topi (fun x5 e6 => ?_)
      have h := h x5 e6
      refine va_put (D := D) (ci := 10) (v := .int x5) (ty := .int) (C := RX11) (T := TX11) (N := 35) hx hb hts inlX11 tyX11 tyX11_ok nmX11 hown hK hP hD hS 0 rfl rfl 27 (by decide) (hts _ w_29_16) (fun _ h9 => h9) rfl (by decide +kernel) rfl rfl (Nat.le_of_ble_eq_true rfl) dX11_film_53 (fun H locs hP hD hS => ?_)
      have hP : va_P D vwCl (wM cy ad (sI (sA (sA st 25 (upd (gA st 25) (gI st 27).toNatClampNeg a1)) 26 (upd (gA st 26) (gI st 27).toNatClampNeg a2)) 27 x5)) H := hP
      have hD : va_D A (wM cy ad (sI (sA (sA st 25 (upd (gA st 25) (gI st 27).toNatClampNeg a1)) 26 (upd (gA st 26) (gI st 27).toNatClampNeg a2)) 27 x5)) := hD
      refine lv_aload_n hx hb dX11_film_56 rfl (lv_at hl 0 rfl) ?_
      refine va_get (D := D) (ci := 10) (v := .int x5) (C := RX11) (T := TX11) (N := 35) hx hb hts inlX11 hown hK hP 0 rfl rfl 27 (by decide) (hts _ w_29_16) (fun _ h9 => h9) rfl dX11_film_57 ?_
      exact hret _ _ _ _ _ _ rfl h hP hD hS dX11_film_60
    · have h := h.2 c4
      refine lv_bipush (v := (-4)) hx hb dX11_film_23 (by decide) ?_
      exact hret _ _ _ _ _ _ rfl h hP hD hS dX11_film_25
  · have h := h.2 c3
    refine lv_bipush (v := (-2)) hx hb dX11_film_11 (by decide) ?_
    exact hret _ _ _ _ _ _ rfl h hP hD hS dX11_film_13
-- X11_clear
def rm_X11_clear : Room := { frames := 0, cells := 0, slots := 0, locals := 0 }
abbrev ws_X11_clear : List Cond := .code yX11_clear cX11_clear 2 (some .int) :: wsL_law
def wp_X11_clear (st : St) (post : Int32 → St → Prop) : Prop := ∀ x1 : Int32, x1 = gI st 27 → (post x1 (sI st 27 0))
set_option maxHeartbeats 4000000 in
set_option maxRecDepth 100000 in
theorem c_X11_clear (l : Launch) (D : va_G) (cy : Nat → ClassId) (tz : Nat → Nat) (ad : Nat → Nat) (st : St) (post : Int32 → St → Prop) (h : wp_X11_clear st post) : CtI l D cy tz yX11_clear ws_X11_clear rm_X11_clear [.ref (ad 0)] (wM cy ad st) (wM cy ad) post := by
  refine CtI.of (own := RX11) (nm := "clear") (lv := [(0, .ref (ad 0))]) (plainFor_of_name (by decide)) rfl rfl (Nat.le_of_ble_eq_true rfl) rfl ?_
  intro p e s m args below meth c A Q ls B hP hD hS hl hret
  obtain ⟨hx, hb, hml, hown, hts, hK, hZ, hA, hnm⟩ := B
  have SF : CallFix p m c cX11_clear 2 s args wsL_law RX11 := ⟨hx, hb, hml, hown, hts⟩
  unfold wp_X11_clear at h
  refine lv_aload_n hx hb dX11_clear_0 rfl (lv_at hl 0 rfl) ?_
  refine va_get (D := D) (ci := 10) (v := .int (gI st 27)) (C := RX11) (T := TX11) (N := 35) hx hb hts inlX11 hown hK hP 0 rfl rfl 27 (by decide) (hts _ w_29_16) (fun _ h9 => h9) rfl dX11_clear_1 ?_
  refine lv_topi (fun x1 e2 => ?_)
  have h := h x1 e2
  refine lv_istore_n (lv' := [(1, .int x1), (0, .ref (ad 0))]) hx hb dX11_clear_4 rfl hl (by decide) rfl (fun ls hl => ?_)
  refine lv_aload_n hx hb dX11_clear_5 rfl (lv_at hl 1 rfl) ?_
  refine lv_iconst (v := 0) hx hb dX11_clear_6 (by decide) ?_
  refine va_put (D := D) (ci := 10) (v := .int 0) (ty := .int) (C := RX11) (T := TX11) (N := 35) hx hb hts inlX11 tyX11 tyX11_ok nmX11 hown hK hP hD hS 0 rfl rfl 27 (by decide) (hts _ w_29_16) (fun _ h9 => h9) rfl (by decide +kernel) rfl rfl (Nat.le_of_ble_eq_true rfl) dX11_clear_7 (fun H locs hP hD hS => ?_)
  have hP : va_P D vwCl (wM cy ad (sI st 27 0)) H := hP
  have hD : va_D A (wM cy ad (sI st 27 0)) := hD
  refine lv_iload_n hx hb dX11_clear_10 rfl (lv_at hl 0 rfl) ?_
  exact hret _ _ _ _ _ _ rfl h hP hD hS dX11_clear_11
-- X11_bentOf
def rm_X11_bentOf : Room := { frames := 1, cells := 0, slots := 0, locals := 27 }
abbrev ws_X11_bentOf : List Cond := .code yX11_bentOf cX11_bentOf 6 (some .int) :: wsL_law
def wp_X11_bentOf_L7 (post : Int32 → St → Prop) (K : St → Int32 → Prop) (a1 : Int32) : Nat → St → Int32 → Int32 → Int32 → Prop
  | 0, _, _, _, _ => False
  | n7 + 1, t4, v1, v2, v3 => ((gI t4 27 ≤ v3) → (K t4 v2)) ∧ ((¬ gI t4 27 ≤ v3) → (vp_in v3 24 ∧ (vp_in v3 24 ∧ (wp_X11_turnPoint t4 (gA t4 25 v3.toNatClampNeg) (gA t4 26 v3.toNatClampNeg) (v1 / 10) (fun t7 => ∀ x8 : Int32, x8 = gI t7 1 → (vp_in v3 24 ∧ (∀ x10 : Int32, x10 = gI t7 2 → (vp_in v3 24 ∧ (∀ x12 : Int32, x12 = ((v1 + a1) - (v1 + a1) / 240 * 240) → (((0 ≤ x12) → (((v3 ≤ 1) → (∀ x16 : Int32, x16 = v3 + 1 → (wp_X11_bentOf_L7 post K a1 n7 (sA (sA t7 28 (upd (gA t7 28) v3.toNatClampNeg x8)) 29 (upd (gA t7 29) v3.toNatClampNeg x10)) x12 v2 x16))) ∧ ((¬ v3 ≤ 1) → (vp_in v3 24 ∧ (vp_in (v3 - 2) 24 ∧ (vp_in (v3 - 1) 24 ∧ (wp_X11_size ((((upd (gA t7 28) v3.toNatClampNeg x8) v3.toNatClampNeg) + ((upd (gA t7 28) v3.toNatClampNeg x8) (v3 - 2).toNatClampNeg)) - (2 * ((upd (gA t7 28) v3.toNatClampNeg x8) (v3 - 1).toNatClampNeg))) (fun r18 => vp_in v3 24 ∧ (vp_in (v3 - 2) 24 ∧ (vp_in (v3 - 1) 24 ∧ (wp_X11_size ((((upd (gA t7 29) v3.toNatClampNeg x10) v3.toNatClampNeg) + ((upd (gA t7 29) v3.toNatClampNeg x10) (v3 - 2).toNatClampNeg)) - (2 * ((upd (gA t7 29) v3.toNatClampNeg x10) (v3 - 1).toNatClampNeg))) (fun r20 => ∀ x22 : Int32, x22 = (v2 + (r18 + r20)) → (∀ x24 : Int32, x24 = v3 + 1 → (wp_X11_bentOf_L7 post K a1 n7 (sA (sA t7 28 (upd (gA t7 28) v3.toNatClampNeg x8)) 29 (upd (gA t7 29) v3.toNatClampNeg x10)) x12 x22 x24)))))))))))))) ∧ ((¬ 0 ≤ x12) → (∀ x26 : Int32, x26 = (x12 + 240) → (((v3 ≤ 1) → (∀ x29 : Int32, x29 = v3 + 1 → (wp_X11_bentOf_L7 post K a1 n7 (sA (sA t7 28 (upd (gA t7 28) v3.toNatClampNeg x8)) 29 (upd (gA t7 29) v3.toNatClampNeg x10)) x26 v2 x29))) ∧ ((¬ v3 ≤ 1) → (vp_in v3 24 ∧ (vp_in (v3 - 2) 24 ∧ (vp_in (v3 - 1) 24 ∧ (wp_X11_size ((((upd (gA t7 28) v3.toNatClampNeg x8) v3.toNatClampNeg) + ((upd (gA t7 28) v3.toNatClampNeg x8) (v3 - 2).toNatClampNeg)) - (2 * ((upd (gA t7 28) v3.toNatClampNeg x8) (v3 - 1).toNatClampNeg))) (fun r31 => vp_in v3 24 ∧ (vp_in (v3 - 2) 24 ∧ (vp_in (v3 - 1) 24 ∧ (wp_X11_size ((((upd (gA t7 29) v3.toNatClampNeg x10) v3.toNatClampNeg) + ((upd (gA t7 29) v3.toNatClampNeg x10) (v3 - 2).toNatClampNeg)) - (2 * ((upd (gA t7 29) v3.toNatClampNeg x10) (v3 - 1).toNatClampNeg))) (fun r33 => ∀ x35 : Int32, x35 = (v2 + (r31 + r33)) → (∀ x37 : Int32, x37 = v3 + 1 → (wp_X11_bentOf_L7 post K a1 n7 (sA (sA t7 28 (upd (gA t7 28) v3.toNatClampNeg x8)) 29 (upd (gA t7 29) v3.toNatClampNeg x10)) x26 x35 x37)))))))))))))))))))))))))
def wp_X11_bentOf (st : St) (a1 : Int32) (post : Int32 → St → Prop) : Prop := ∃ m7 : Nat, wp_X11_bentOf_L7 post (fun t40 v39 => post v39 t40) a1 m7 st 0 0 0
set_option maxHeartbeats 4000000 in
set_option maxRecDepth 100000 in
theorem c_X11_bentOf (l : Launch) (D : va_G) (cy : Nat → ClassId) (tz : Nat → Nat) (ad : Nat → Nat) (st : St) (a1 : Int32) (post : Int32 → St → Prop) (h : wp_X11_bentOf st a1 post) : CtI l D cy tz yX11_bentOf ws_X11_bentOf rm_X11_bentOf [.ref (ad 0), .int a1] (wM cy ad st) (wM cy ad) post := by
  refine CtI.of (own := RX11) (nm := "bentOf") (lv := [(0, .ref (ad 0)), (1, .int a1)]) (plainFor_of_name (by decide)) rfl rfl (Nat.le_of_ble_eq_true rfl) rfl ?_
  intro p e s m args below meth c A Q ls B hP hD hS hl hret
  obtain ⟨hx, hb, hml, hown, hts, hK, hZ, hA, hnm⟩ := B
  have SF : CallFix p m c cX11_bentOf 6 s args wsL_law RX11 := ⟨hx, hb, hml, hown, hts⟩
  unfold wp_X11_bentOf at h
  refine lv_iconst (v := 0) hx hb dX11_bentOf_0 (by decide) ?_
  refine lv_istore_n (lv' := [(2, .int 0), (0, .ref (ad 0)), (1, .int a1)]) hx hb dX11_bentOf_1 rfl hl (by decide) rfl (fun ls hl => ?_)
  refine lv_iconst (v := 0) hx hb dX11_bentOf_2 (by decide) ?_
  refine lv_istore_n (lv' := [(3, .int 0), (2, .int 0), (0, .ref (ad 0)), (1, .int a1)]) hx hb dX11_bentOf_3 rfl hl (by decide) rfl (fun ls hl => ?_)
  refine lv_iconst (v := 0) hx hb dX11_bentOf_4 (by decide) ?_
  refine lv_istore (lv' := [(4, .int 0), (3, .int 0), (2, .int 0), (0, .ref (ad 0)), (1, .int a1)]) hx hb dX11_bentOf_5 hl (by decide) rfl (fun ls hl => ?_)
  have loop7 : ∀ (K : St → Int32 → Prop), (∀ (t40 : St) (v39 : Int32) (H : Heap) (locs : List Loc) (ls : Array Slot), K t40 v39 → va_P D vwCl (wM cy ad t40) H → va_D A (wM cy ad t40) → va_S A s.heap H locs → lv_has ls 6 [(3, .int v39)] → W p l e rm_X11_bentOf s m args below meth c H locs 0 0 Q (F0 m 166 ls [])) → ∀ (n : Nat) (t4 : St) (v1 : Int32) (v2 : Int32) (v3 : Int32) (H : Heap) (locs : List Loc) (ls : Array Slot), wp_X11_bentOf_L7 post K a1 n t4 v1 v2 v3 → va_P D vwCl (wM cy ad t4) H → va_D A (wM cy ad t4) → va_S A s.heap H locs → lv_has ls 6 [(0, .ref (ad 0)), (1, .int a1), (2, .int v1), (3, .int v2), (4, .int v3)] → W p l e rm_X11_bentOf s m args below meth c H locs 0 0 Q (F0 m 7 ls []) := by
    intro K hE7 n
    induction n with
    | zero => intro t4 v1 v2 v3 H locs ls h; exact h.elim
    | succ n ih7 =>
      intro t4 v1 v2 v3 H locs ls h hP hD hS hl
      rw [wp_X11_bentOf_L7] at h
      refine lv_iload hx hb dX11_bentOf_7 (lv_at hl 4 rfl) ?_
      refine lv_aload_n hx hb dX11_bentOf_9 rfl (lv_at hl 0 rfl) ?_
      refine va_get (D := D) (ci := 10) (v := .int (gI t4 27)) (C := RX11) (T := TX11) (N := 35) hx hb hts inlX11 hown hK hP 0 rfl rfl 27 (by decide) (hts _ w_29_16) (fun _ h9 => h9) rfl dX11_bentOf_10 ?_
      refine lv_icmp_ge (tgt := 166) hx hb dX11_bentOf_13 (by decide) (fun c5 => ?_) (fun c5 => ?_)
      · have h := h.1 c5
        exact hE7 _ _ _ _ _ h hP hD hS (lv_sub hl [3] rfl)
      · have h := h.2 c5
        refine lv_aload_n hx hb dX11_bentOf_16 rfl (lv_at hl 0 rfl) ?_
        refine lv_aload_n hx hb dX11_bentOf_17 rfl (lv_at hl 0 rfl) ?_
        refine va_get (D := D) (ci := 10) (v := .ref (ad 13)) (C := RX11) (T := TX11) (N := 35) hx hb hts inlX11 hown hK hP 0 rfl rfl 25 (by decide) (hts _ w_5_19) (fun _ h9 => h9) rfl dX11_bentOf_18 ?_
        refine lv_iload hx hb dX11_bentOf_21 (lv_at hl 4 rfl) ?_
        refine va_iald (f := gA t4 25) (n := 24) hx hb hK hP 13 0 rfl rfl h.1 dX11_bentOf_23 ?_
        have h := h.2
        refine lv_aload_n hx hb dX11_bentOf_24 rfl (lv_at hl 0 rfl) ?_
        refine va_get (D := D) (ci := 10) (v := .ref (ad 14)) (C := RX11) (T := TX11) (N := 35) hx hb hts inlX11 hown hK hP 0 rfl rfl 26 (by decide) (hts _ w_5_20) (fun _ h9 => h9) rfl dX11_bentOf_25 ?_
        refine lv_iload hx hb dX11_bentOf_28 (lv_at hl 4 rfl) ?_
        refine va_iald (f := gA t4 26) (n := 24) hx hb hK hP 14 0 rfl rfl h.1 dX11_bentOf_30 ?_
        have h := h.2
        refine lv_iload_n hx hb dX11_bentOf_31 rfl (lv_at hl 2 rfl) ?_
        refine lv_bipush (v := 10) hx hb dX11_bentOf_32 (by decide) ?_
        refine lv_idiv hx hb dX11_bentOf_34 (by decide) ?_
        refine callVV (rest := []) SF (c_X11_turnPoint l D cy tz ad t4 (gA t4 25 v3.toNatClampNeg) (gA t4 26 v3.toNatClampNeg) (v1 / 10) _ h) (cw_RX11_135 hts ⟨Nat.le_of_ble_eq_true rfl, Nat.le_of_ble_eq_true rfl⟩) rfl rfl (va_recv hK hP (ci := 10) (q0 := 0) rfl rfl) hK hZ hA hP hD hS rfl hl.1 rfl (Nat.le_of_ble_eq_true rfl) dX11_bentOf_35 ⟨Nat.zero_le _, Nat.zero_le _⟩ (fun t7 H locs h hP hD hS => ?_)
        refine lv_aload_n hx hb dX11_bentOf_38 rfl (lv_at hl 0 rfl) ?_
        refine va_get (D := D) (ci := 10) (v := .ref (ad 15)) (C := RX11) (T := TX11) (N := 35) hx hb hts inlX11 hown hK hP 0 rfl rfl 28 (by decide) (hts _ w_5_21) (fun _ h9 => h9) rfl dX11_bentOf_39 ?_
        refine lv_iload hx hb dX11_bentOf_42 (lv_at hl 4 rfl) ?_
        refine lv_aload_n hx hb dX11_bentOf_44 rfl (lv_at hl 0 rfl) ?_
        refine va_get (D := D) (ci := 10) (v := .int (gI t7 1)) (C := RX11) (T := TX11) (N := 35) hx hb hts inlX11 hown hK hP 0 rfl rfl 1 (by decide) (hts _ w_14_3) (fun _ h9 => h9) rfl dX11_bentOf_45 ?_
        refine lv_topi (fun x8 e9 => ?_)
        have h := h x8 e9
        refine va_iast (f := gA t7 28) (n := 24) hx hb hK hP hD hS 15 0 rfl rfl h.1 dX11_bentOf_48 (fun H locs hP hD hS => ?_)
        have h := h.2
        have hP : va_P D vwCl (wM cy ad (sA t7 28 (upd (gA t7 28) v3.toNatClampNeg x8))) H := hP
        have hD : va_D A (wM cy ad (sA t7 28 (upd (gA t7 28) v3.toNatClampNeg x8))) := hD
        refine lv_aload_n hx hb dX11_bentOf_49 rfl (lv_at hl 0 rfl) ?_
        refine va_get (D := D) (ci := 10) (v := .ref (ad 16)) (C := RX11) (T := TX11) (N := 35) hx hb hts inlX11 hown hK hP 0 rfl rfl 29 (by decide) (hts _ w_5_22) (fun _ h9 => h9) rfl dX11_bentOf_50 ?_
        refine lv_iload hx hb dX11_bentOf_53 (lv_at hl 4 rfl) ?_
        refine lv_aload_n hx hb dX11_bentOf_55 rfl (lv_at hl 0 rfl) ?_
        refine va_get (D := D) (ci := 10) (v := .int (gI t7 2)) (C := RX11) (T := TX11) (N := 35) hx hb hts inlX11 hown hK hP 0 rfl rfl 2 (by decide) (hts _ w_14_4) (fun _ h9 => h9) rfl dX11_bentOf_56 ?_
        refine lv_topi (fun x10 e11 => ?_)
        have h := h x10 e11
        refine va_iast (f := gA t7 29) (n := 24) hx hb hK hP hD hS 16 0 rfl rfl h.1 dX11_bentOf_59 (fun H locs hP hD hS => ?_)
        have h := h.2
        have hP : va_P D vwCl (wM cy ad (sA (sA t7 28 (upd (gA t7 28) v3.toNatClampNeg x8)) 29 (upd (gA t7 29) v3.toNatClampNeg x10))) H := hP
        have hD : va_D A (wM cy ad (sA (sA t7 28 (upd (gA t7 28) v3.toNatClampNeg x8)) 29 (upd (gA t7 29) v3.toNatClampNeg x10))) := hD
        refine lv_iload_n hx hb dX11_bentOf_60 rfl (lv_at hl 2 rfl) ?_
        refine lv_iload_n hx hb dX11_bentOf_61 rfl (lv_at hl 1 rfl) ?_
        refine lv_iadd hx hb dX11_bentOf_62 ?_
        refine lv_sipush (v := 240) hx hb dX11_bentOf_63 (by decide) ?_
        refine lv_irem hx hb dX11_bentOf_66 (by decide) ?_
        refine lv_topi (fun x12 e13 => ?_)
        have h := h x12 e13
        refine lv_istore (lv' := [(5, .int x12), (0, .ref (ad 0)), (1, .int a1), (2, .int v1), (3, .int v2), (4, .int v3)]) hx hb dX11_bentOf_67 hl (by decide) rfl (fun ls hl => ?_)
        refine lv_iload hx hb dX11_bentOf_69 (lv_at hl 0 rfl) ?_
        refine lv_if_ge (tgt := 83) hx hb dX11_bentOf_71 (by decide) (fun c14 => ?_) (fun c14 => ?_)
        · have h := h.1 c14
          refine lv_iload hx hb dX11_bentOf_83 (lv_at hl 0 rfl) ?_
          refine lv_istore_n (lv' := [(2, .int x12), (5, .int x12), (0, .ref (ad 0)), (1, .int a1), (3, .int v2), (4, .int v3)]) hx hb dX11_bentOf_85 rfl hl (by decide) rfl (fun ls hl => ?_)
          refine lv_iload hx hb dX11_bentOf_86 (lv_at hl 5 rfl) ?_
          refine lv_iconst (v := 1) hx hb dX11_bentOf_88 (by decide) ?_
          refine lv_icmp_le (tgt := 160) hx hb dX11_bentOf_89 (by decide) (fun c15 => ?_) (fun c15 => ?_)
          · have h := h.1 c15
            obtain ⟨x16, e17⟩ : ∃ z : Int32, z = v3 + 1 := ⟨_, rfl⟩
            have h := h x16 e17
            refine lv_iinc (v := x16) (lv' := [(4, .int x16), (2, .int x12), (5, .int x12), (0, .ref (ad 0)), (1, .int a1), (3, .int v2)]) hx hb dX11_bentOf_160 hl (k := 5) rfl (by rw [e17]; rfl) (by decide) rfl (fun ls hl => ?_)
            refine lv_goto (tgt := 7) hx hb dX11_bentOf_163 (by decide) ?_
            exact ih7 _ _ _ _ _ _ _ h hP hD hS (lv_sub hl [3, 4, 1, 5, 0] rfl)
          · have h := h.2 c15
            refine lv_iload_n hx hb dX11_bentOf_92 rfl (lv_at hl 4 rfl) ?_
            refine lv_aload_n hx hb dX11_bentOf_93 rfl (lv_at hl 2 rfl) ?_
            refine va_get (D := D) (ci := 10) (v := .ref (ad 15)) (C := RX11) (T := TX11) (N := 35) hx hb hts inlX11 hown hK hP 0 rfl rfl 28 (by decide) (hts _ w_5_21) (fun _ h9 => h9) rfl dX11_bentOf_94 ?_
            refine lv_iload hx hb dX11_bentOf_97 (lv_at hl 5 rfl) ?_
            refine va_iald (f := (upd (gA t7 28) v3.toNatClampNeg x8)) (n := 24) hx hb hK hP 15 0 rfl rfl h.1 dX11_bentOf_99 ?_
            have h := h.2
            refine lv_aload_n hx hb dX11_bentOf_100 rfl (lv_at hl 2 rfl) ?_
            refine va_get (D := D) (ci := 10) (v := .ref (ad 15)) (C := RX11) (T := TX11) (N := 35) hx hb hts inlX11 hown hK hP 0 rfl rfl 28 (by decide) (hts _ w_5_21) (fun _ h9 => h9) rfl dX11_bentOf_101 ?_
            refine lv_iload hx hb dX11_bentOf_104 (lv_at hl 5 rfl) ?_
            refine lv_iconst (v := 2) hx hb dX11_bentOf_106 (by decide) ?_
            refine lv_isub hx hb dX11_bentOf_107 ?_
            refine va_iald (f := (upd (gA t7 28) v3.toNatClampNeg x8)) (n := 24) hx hb hK hP 15 0 rfl rfl h.1 dX11_bentOf_108 ?_
            have h := h.2
            refine lv_iadd hx hb dX11_bentOf_109 ?_
            refine lv_iconst (v := 2) hx hb dX11_bentOf_110 (by decide) ?_
            refine lv_aload_n hx hb dX11_bentOf_111 rfl (lv_at hl 2 rfl) ?_
            refine va_get (D := D) (ci := 10) (v := .ref (ad 15)) (C := RX11) (T := TX11) (N := 35) hx hb hts inlX11 hown hK hP 0 rfl rfl 28 (by decide) (hts _ w_5_21) (fun _ h9 => h9) rfl dX11_bentOf_112 ?_
            refine lv_iload hx hb dX11_bentOf_115 (lv_at hl 5 rfl) ?_
            refine lv_iconst (v := 1) hx hb dX11_bentOf_117 (by decide) ?_
            refine lv_isub hx hb dX11_bentOf_118 ?_
            refine va_iald (f := (upd (gA t7 28) v3.toNatClampNeg x8)) (n := 24) hx hb hK hP 15 0 rfl rfl h.1 dX11_bentOf_119 ?_
            have h := h.2
            refine lv_imul hx hb dX11_bentOf_120 ?_
            refine lv_isub hx hb dX11_bentOf_121 ?_
            refine callSIr (rest := [.int v2]) SF (c_X11_size l D cy tz _ ((((upd (gA t7 28) v3.toNatClampNeg x8) v3.toNatClampNeg) + ((upd (gA t7 28) v3.toNatClampNeg x8) (v3 - 2).toNatClampNeg)) - (2 * ((upd (gA t7 28) v3.toNatClampNeg x8) (v3 - 1).toNatClampNeg))) _ h) (cw_RX11_184 hts ⟨Nat.le_of_ble_eq_true rfl, Nat.le_of_ble_eq_true rfl⟩) rfl rfl hK hZ hA hP hD hS rfl hl.1 rfl (Nat.le_of_ble_eq_true rfl) dX11_bentOf_122 ⟨Nat.zero_le _, Nat.zero_le _⟩ (fun r18 H locs h hP hD hS => ?_)
            refine lv_aload_n hx hb dX11_bentOf_125 rfl (lv_at hl 2 rfl) ?_
            refine va_get (D := D) (ci := 10) (v := .ref (ad 16)) (C := RX11) (T := TX11) (N := 35) hx hb hts inlX11 hown hK hP 0 rfl rfl 29 (by decide) (hts _ w_5_22) (fun _ h9 => h9) rfl dX11_bentOf_126 ?_
            refine lv_iload hx hb dX11_bentOf_129 (lv_at hl 5 rfl) ?_
            refine va_iald (f := (upd (gA t7 29) v3.toNatClampNeg x10)) (n := 24) hx hb hK hP 16 0 rfl rfl h.1 dX11_bentOf_131 ?_
            have h := h.2
            refine lv_aload_n hx hb dX11_bentOf_132 rfl (lv_at hl 2 rfl) ?_
            refine va_get (D := D) (ci := 10) (v := .ref (ad 16)) (C := RX11) (T := TX11) (N := 35) hx hb hts inlX11 hown hK hP 0 rfl rfl 29 (by decide) (hts _ w_5_22) (fun _ h9 => h9) rfl dX11_bentOf_133 ?_
            refine lv_iload hx hb dX11_bentOf_136 (lv_at hl 5 rfl) ?_
            refine lv_iconst (v := 2) hx hb dX11_bentOf_138 (by decide) ?_
            refine lv_isub hx hb dX11_bentOf_139 ?_
            refine va_iald (f := (upd (gA t7 29) v3.toNatClampNeg x10)) (n := 24) hx hb hK hP 16 0 rfl rfl h.1 dX11_bentOf_140 ?_
            have h := h.2
            refine lv_iadd hx hb dX11_bentOf_141 ?_
            refine lv_iconst (v := 2) hx hb dX11_bentOf_142 (by decide) ?_
            refine lv_aload_n hx hb dX11_bentOf_143 rfl (lv_at hl 2 rfl) ?_
            refine va_get (D := D) (ci := 10) (v := .ref (ad 16)) (C := RX11) (T := TX11) (N := 35) hx hb hts inlX11 hown hK hP 0 rfl rfl 29 (by decide) (hts _ w_5_22) (fun _ h9 => h9) rfl dX11_bentOf_144 ?_
            refine lv_iload hx hb dX11_bentOf_147 (lv_at hl 5 rfl) ?_
            refine lv_iconst (v := 1) hx hb dX11_bentOf_149 (by decide) ?_
            refine lv_isub hx hb dX11_bentOf_150 ?_
            refine va_iald (f := (upd (gA t7 29) v3.toNatClampNeg x10)) (n := 24) hx hb hK hP 16 0 rfl rfl h.1 dX11_bentOf_151 ?_
            have h := h.2
            refine lv_imul hx hb dX11_bentOf_152 ?_
            refine lv_isub hx hb dX11_bentOf_153 ?_
            refine callSIr (rest := [.int r18, .int v2]) SF (c_X11_size l D cy tz _ ((((upd (gA t7 29) v3.toNatClampNeg x10) v3.toNatClampNeg) + ((upd (gA t7 29) v3.toNatClampNeg x10) (v3 - 2).toNatClampNeg)) - (2 * ((upd (gA t7 29) v3.toNatClampNeg x10) (v3 - 1).toNatClampNeg))) _ h) (cw_RX11_184 hts ⟨Nat.le_of_ble_eq_true rfl, Nat.le_of_ble_eq_true rfl⟩) rfl rfl hK hZ hA hP hD hS rfl hl.1 rfl (Nat.le_of_ble_eq_true rfl) dX11_bentOf_154 ⟨Nat.zero_le _, Nat.zero_le _⟩ (fun r20 H locs h hP hD hS => ?_)
            refine lv_iadd hx hb dX11_bentOf_157 ?_
            refine lv_iadd hx hb dX11_bentOf_158 ?_
            refine lv_topi (fun x22 e23 => ?_)
            have h := h x22 e23
            refine lv_istore_n (lv' := [(3, .int x22), (2, .int x12), (5, .int x12), (0, .ref (ad 0)), (1, .int a1), (4, .int v3)]) hx hb dX11_bentOf_159 rfl hl (by decide) rfl (fun ls hl => ?_)
            obtain ⟨x24, e25⟩ : ∃ z : Int32, z = v3 + 1 := ⟨_, rfl⟩
            have h := h x24 e25
            refine lv_iinc (v := x24) (lv' := [(4, .int x24), (3, .int x22), (2, .int x12), (5, .int x12), (0, .ref (ad 0)), (1, .int a1)]) hx hb dX11_bentOf_160 hl (k := 5) rfl (by rw [e25]; rfl) (by decide) rfl (fun ls hl => ?_)
            refine lv_goto (tgt := 7) hx hb dX11_bentOf_163 (by decide) ?_
            exact ih7 _ _ _ _ _ _ _ h hP hD hS (lv_sub hl [4, 5, 2, 1, 0] rfl)
        · have h := h.2 c14
          refine lv_iload hx hb dX11_bentOf_74 (lv_at hl 0 rfl) ?_
          refine lv_sipush (v := 240) hx hb dX11_bentOf_76 (by decide) ?_
          refine lv_iadd hx hb dX11_bentOf_79 ?_
          refine lv_goto (tgt := 85) hx hb dX11_bentOf_80 (by decide) ?_
          refine lv_topi (fun x26 e27 => ?_)
          have h := h x26 e27
          refine lv_istore_n (lv' := [(2, .int x26), (5, .int x12), (0, .ref (ad 0)), (1, .int a1), (3, .int v2), (4, .int v3)]) hx hb dX11_bentOf_85 rfl hl (by decide) rfl (fun ls hl => ?_)
          refine lv_iload hx hb dX11_bentOf_86 (lv_at hl 5 rfl) ?_
          refine lv_iconst (v := 1) hx hb dX11_bentOf_88 (by decide) ?_
          refine lv_icmp_le (tgt := 160) hx hb dX11_bentOf_89 (by decide) (fun c28 => ?_) (fun c28 => ?_)
          · have h := h.1 c28
            obtain ⟨x29, e30⟩ : ∃ z : Int32, z = v3 + 1 := ⟨_, rfl⟩
            have h := h x29 e30
            refine lv_iinc (v := x29) (lv' := [(4, .int x29), (2, .int x26), (5, .int x12), (0, .ref (ad 0)), (1, .int a1), (3, .int v2)]) hx hb dX11_bentOf_160 hl (k := 5) rfl (by rw [e30]; rfl) (by decide) rfl (fun ls hl => ?_)
            refine lv_goto (tgt := 7) hx hb dX11_bentOf_163 (by decide) ?_
            exact ih7 _ _ _ _ _ _ _ h hP hD hS (lv_sub hl [3, 4, 1, 5, 0] rfl)
          · have h := h.2 c28
            refine lv_iload_n hx hb dX11_bentOf_92 rfl (lv_at hl 4 rfl) ?_
            refine lv_aload_n hx hb dX11_bentOf_93 rfl (lv_at hl 2 rfl) ?_
            refine va_get (D := D) (ci := 10) (v := .ref (ad 15)) (C := RX11) (T := TX11) (N := 35) hx hb hts inlX11 hown hK hP 0 rfl rfl 28 (by decide) (hts _ w_5_21) (fun _ h9 => h9) rfl dX11_bentOf_94 ?_
            refine lv_iload hx hb dX11_bentOf_97 (lv_at hl 5 rfl) ?_
            refine va_iald (f := (upd (gA t7 28) v3.toNatClampNeg x8)) (n := 24) hx hb hK hP 15 0 rfl rfl h.1 dX11_bentOf_99 ?_
            have h := h.2
            refine lv_aload_n hx hb dX11_bentOf_100 rfl (lv_at hl 2 rfl) ?_
            refine va_get (D := D) (ci := 10) (v := .ref (ad 15)) (C := RX11) (T := TX11) (N := 35) hx hb hts inlX11 hown hK hP 0 rfl rfl 28 (by decide) (hts _ w_5_21) (fun _ h9 => h9) rfl dX11_bentOf_101 ?_
            refine lv_iload hx hb dX11_bentOf_104 (lv_at hl 5 rfl) ?_
            refine lv_iconst (v := 2) hx hb dX11_bentOf_106 (by decide) ?_
            refine lv_isub hx hb dX11_bentOf_107 ?_
            refine va_iald (f := (upd (gA t7 28) v3.toNatClampNeg x8)) (n := 24) hx hb hK hP 15 0 rfl rfl h.1 dX11_bentOf_108 ?_
            have h := h.2
            refine lv_iadd hx hb dX11_bentOf_109 ?_
            refine lv_iconst (v := 2) hx hb dX11_bentOf_110 (by decide) ?_
            refine lv_aload_n hx hb dX11_bentOf_111 rfl (lv_at hl 2 rfl) ?_
            refine va_get (D := D) (ci := 10) (v := .ref (ad 15)) (C := RX11) (T := TX11) (N := 35) hx hb hts inlX11 hown hK hP 0 rfl rfl 28 (by decide) (hts _ w_5_21) (fun _ h9 => h9) rfl dX11_bentOf_112 ?_
            refine lv_iload hx hb dX11_bentOf_115 (lv_at hl 5 rfl) ?_
            refine lv_iconst (v := 1) hx hb dX11_bentOf_117 (by decide) ?_
            refine lv_isub hx hb dX11_bentOf_118 ?_
            refine va_iald (f := (upd (gA t7 28) v3.toNatClampNeg x8)) (n := 24) hx hb hK hP 15 0 rfl rfl h.1 dX11_bentOf_119 ?_
            have h := h.2
            refine lv_imul hx hb dX11_bentOf_120 ?_
            refine lv_isub hx hb dX11_bentOf_121 ?_
            refine callSIr (rest := [.int v2]) SF (c_X11_size l D cy tz _ ((((upd (gA t7 28) v3.toNatClampNeg x8) v3.toNatClampNeg) + ((upd (gA t7 28) v3.toNatClampNeg x8) (v3 - 2).toNatClampNeg)) - (2 * ((upd (gA t7 28) v3.toNatClampNeg x8) (v3 - 1).toNatClampNeg))) _ h) (cw_RX11_184 hts ⟨Nat.le_of_ble_eq_true rfl, Nat.le_of_ble_eq_true rfl⟩) rfl rfl hK hZ hA hP hD hS rfl hl.1 rfl (Nat.le_of_ble_eq_true rfl) dX11_bentOf_122 ⟨Nat.zero_le _, Nat.zero_le _⟩ (fun r31 H locs h hP hD hS => ?_)
            refine lv_aload_n hx hb dX11_bentOf_125 rfl (lv_at hl 2 rfl) ?_
            refine va_get (D := D) (ci := 10) (v := .ref (ad 16)) (C := RX11) (T := TX11) (N := 35) hx hb hts inlX11 hown hK hP 0 rfl rfl 29 (by decide) (hts _ w_5_22) (fun _ h9 => h9) rfl dX11_bentOf_126 ?_
            refine lv_iload hx hb dX11_bentOf_129 (lv_at hl 5 rfl) ?_
            refine va_iald (f := (upd (gA t7 29) v3.toNatClampNeg x10)) (n := 24) hx hb hK hP 16 0 rfl rfl h.1 dX11_bentOf_131 ?_
            have h := h.2
            refine lv_aload_n hx hb dX11_bentOf_132 rfl (lv_at hl 2 rfl) ?_
            refine va_get (D := D) (ci := 10) (v := .ref (ad 16)) (C := RX11) (T := TX11) (N := 35) hx hb hts inlX11 hown hK hP 0 rfl rfl 29 (by decide) (hts _ w_5_22) (fun _ h9 => h9) rfl dX11_bentOf_133 ?_
            refine lv_iload hx hb dX11_bentOf_136 (lv_at hl 5 rfl) ?_
            refine lv_iconst (v := 2) hx hb dX11_bentOf_138 (by decide) ?_
            refine lv_isub hx hb dX11_bentOf_139 ?_
            refine va_iald (f := (upd (gA t7 29) v3.toNatClampNeg x10)) (n := 24) hx hb hK hP 16 0 rfl rfl h.1 dX11_bentOf_140 ?_
            have h := h.2
            refine lv_iadd hx hb dX11_bentOf_141 ?_
            refine lv_iconst (v := 2) hx hb dX11_bentOf_142 (by decide) ?_
            refine lv_aload_n hx hb dX11_bentOf_143 rfl (lv_at hl 2 rfl) ?_
            refine va_get (D := D) (ci := 10) (v := .ref (ad 16)) (C := RX11) (T := TX11) (N := 35) hx hb hts inlX11 hown hK hP 0 rfl rfl 29 (by decide) (hts _ w_5_22) (fun _ h9 => h9) rfl dX11_bentOf_144 ?_
            refine lv_iload hx hb dX11_bentOf_147 (lv_at hl 5 rfl) ?_
            refine lv_iconst (v := 1) hx hb dX11_bentOf_149 (by decide) ?_
            refine lv_isub hx hb dX11_bentOf_150 ?_
            refine va_iald (f := (upd (gA t7 29) v3.toNatClampNeg x10)) (n := 24) hx hb hK hP 16 0 rfl rfl h.1 dX11_bentOf_151 ?_
            have h := h.2
            refine lv_imul hx hb dX11_bentOf_152 ?_
            refine lv_isub hx hb dX11_bentOf_153 ?_
            refine callSIr (rest := [.int r31, .int v2]) SF (c_X11_size l D cy tz _ ((((upd (gA t7 29) v3.toNatClampNeg x10) v3.toNatClampNeg) + ((upd (gA t7 29) v3.toNatClampNeg x10) (v3 - 2).toNatClampNeg)) - (2 * ((upd (gA t7 29) v3.toNatClampNeg x10) (v3 - 1).toNatClampNeg))) _ h) (cw_RX11_184 hts ⟨Nat.le_of_ble_eq_true rfl, Nat.le_of_ble_eq_true rfl⟩) rfl rfl hK hZ hA hP hD hS rfl hl.1 rfl (Nat.le_of_ble_eq_true rfl) dX11_bentOf_154 ⟨Nat.zero_le _, Nat.zero_le _⟩ (fun r33 H locs h hP hD hS => ?_)
            refine lv_iadd hx hb dX11_bentOf_157 ?_
            refine lv_iadd hx hb dX11_bentOf_158 ?_
            refine lv_topi (fun x35 e36 => ?_)
            have h := h x35 e36
            refine lv_istore_n (lv' := [(3, .int x35), (2, .int x26), (5, .int x12), (0, .ref (ad 0)), (1, .int a1), (4, .int v3)]) hx hb dX11_bentOf_159 rfl hl (by decide) rfl (fun ls hl => ?_)
            obtain ⟨x37, e38⟩ : ∃ z : Int32, z = v3 + 1 := ⟨_, rfl⟩
            have h := h x37 e38
            refine lv_iinc (v := x37) (lv' := [(4, .int x37), (3, .int x35), (2, .int x26), (5, .int x12), (0, .ref (ad 0)), (1, .int a1)]) hx hb dX11_bentOf_160 hl (k := 5) rfl (by rw [e38]; rfl) (by decide) rfl (fun ls hl => ?_)
            refine lv_goto (tgt := 7) hx hb dX11_bentOf_163 (by decide) ?_
            exact ih7 _ _ _ _ _ _ _ h hP hD hS (lv_sub hl [4, 5, 2, 1, 0] rfl)
  obtain ⟨n, h⟩ := h
  refine loop7 _ ?_ n _ _ _ _ _ _ _ h hP hD hS (lv_sub hl [3, 4, 2, 1, 0] rfl)
  intro t40 v39 H locs ls h hP hD hS hl
  refine lv_iload_n hx hb dX11_bentOf_166 rfl (lv_at hl 0 rfl) ?_
  exact hret _ _ _ _ _ _ rfl h hP hD hS dX11_bentOf_167
-- X11_bent
def rm_X11_bent : Room := { frames := 2, cells := 0, slots := 0, locals := 52 }
abbrev ws_X11_bent : List Cond := .code yX11_bent cX11_bent 2 (some .int) :: wsL_law
theorem cw_RX11_245 {R : Room} {s : State} {args : Array Value} (hts : ∀ w ∈ wsL_law, w.before args s = true) (hR : rm_X11_bentOf.frames + 1 ≤ R.frames ∧ 8 + (6 + 11) + rm_X11_bentOf.locals ≤ R.locals) : CallW R s args RX11 RX11 245 yX11_bentOf cX11_bentOf 6 (some .int) ws_X11_bentOf rm_X11_bentOf rm_X11_bentOf.cells rm_X11_bentOf.slots 1 := cwV 1 hts (gdV w_31_3 w_31_4 w_31_5 w_1_5 w_31_6) rfl rfl rfl (by decide +kernel) hR
def wp_X11_bent (st : St) (a1 : Int32) (post : Int32 → St → Prop) : Prop := wp_X11_in a1.toInt64 (-60) 60 (fun r1 => ((r1 = 0) → (post (-2) st)) ∧ ((¬ r1 = 0) → (wp_X11_bentOf st a1 (fun r4 t5 => post r4 t5))))
set_option maxHeartbeats 4000000 in
set_option maxRecDepth 100000 in
theorem c_X11_bent (l : Launch) (D : va_G) (cy : Nat → ClassId) (tz : Nat → Nat) (ad : Nat → Nat) (st : St) (a1 : Int32) (post : Int32 → St → Prop) (h : wp_X11_bent st a1 post) : CtI l D cy tz yX11_bent ws_X11_bent rm_X11_bent [.ref (ad 0), .int a1] (wM cy ad st) (wM cy ad) post := by
  refine CtI.of (own := RX11) (nm := "bent") (lv := [(0, .ref (ad 0)), (1, .int a1)]) (plainFor_of_name (by decide)) rfl rfl (Nat.le_of_ble_eq_true rfl) rfl ?_
  intro p e s m args below meth c A Q ls B hP hD hS hl hret
  obtain ⟨hx, hb, hml, hown, hts, hK, hZ, hA, hnm⟩ := B
  have SF : CallFix p m c cX11_bent 2 s args wsL_law RX11 := ⟨hx, hb, hml, hown, hts⟩
  unfold wp_X11_bent at h
  refine lv_iload_n hx hb dX11_bent_0 rfl (lv_at hl 1 rfl) ?_
  refine lv_i2l (v := a1.toInt64) hx hb dX11_bent_1 rfl ?_
  refine lv_ldc2 (v := (-60)) hx hb hown (hts _ w_31_2) dX11_bent_2 ?_
  refine lv_ldc2 (v := 60) hx hb hown (hts _ w_12_5) dX11_bent_5 ?_
  refine callSIr (rest := []) SF (c_X11_in l D cy tz _ a1.toInt64 (-60) 60 _ h) (cw_RX11_67 hts ⟨Nat.le_of_ble_eq_true rfl, Nat.le_of_ble_eq_true rfl⟩) rfl rfl hK hZ hA hP hD hS rfl hl.1 rfl (Nat.le_of_ble_eq_true rfl) dX11_bent_8 ⟨Nat.zero_le _, Nat.zero_le _⟩ (fun r1 H locs h hP hD hS => ?_)
  refine lv_if_eq (tgt := 22) hx hb dX11_bent_11 (by decide) (fun c3 => ?_) (fun c3 => ?_)
  · have h := h.1 c3
    refine lv_bipush (v := (-2)) hx hb dX11_bent_22 (by decide) ?_
    exact hret _ _ _ _ _ _ rfl h hP hD hS dX11_bent_24
  · have h := h.2 c3
    refine lv_aload_n hx hb dX11_bent_14 rfl (lv_at hl 0 rfl) ?_
    refine lv_iload_n hx hb dX11_bent_15 rfl (lv_at hl 1 rfl) ?_
    refine callVI (rest := []) SF (c_X11_bentOf l D cy tz ad st a1 _ h) (cw_RX11_245 hts ⟨Nat.le_of_ble_eq_true rfl, Nat.le_of_ble_eq_true rfl⟩) rfl rfl (va_recv hK hP (ci := 10) (q0 := 0) rfl rfl) hK hZ hA hP hD hS rfl hl.1 rfl (Nat.le_of_ble_eq_true rfl) dX11_bent_16 ⟨Nat.zero_le _, Nat.zero_le _⟩ (fun r4 t5 H locs h hP hD hS => ?_)
    refine lv_goto (tgt := 24) hx hb dX11_bent_19 (by decide) ?_
    exact hret _ _ _ _ _ _ rfl h hP hD hS dX11_bent_24
-- X11_turnedBy
def rm_X11_turnedBy : Room := { frames := 2, cells := 0, slots := 0, locals := 52 }
abbrev ws_X11_turnedBy : List Cond := .code yX11_turnedBy cX11_turnedBy 3 (some .int) :: wsL_law
def wp_X11_turnedBy_L4 (post : Int32 → St → Prop) (K : St → Int32 → Prop) : Nat → St → Int32 → Int32 → Prop
  | 0, _, _, _ => False
  | n4 + 1, t3, v1, v2 => ((60 < v2) → (K t3 v1)) ∧ ((¬ 60 < v2) → (wp_X11_bentOf t3 v2 (fun r5 t6 => wp_X11_bentOf t6 v1 (fun r7 t8 => ((r7 ≤ r5) → (wp_X11_bentOf t8 (-v2) (fun r10 t11 => wp_X11_bentOf t11 v1 (fun r12 t13 => ((r12 ≤ r10) → (∀ x15 : Int32, x15 = v2 + 1 → (wp_X11_turnedBy_L4 post K n4 t13 v1 x15))) ∧ ((¬ r12 ≤ r10) → (∀ x17 : Int32, x17 = (-v2) → (∀ x19 : Int32, x19 = v2 + 1 → (wp_X11_turnedBy_L4 post K n4 t13 x17 x19)))))))) ∧ ((¬ r7 ≤ r5) → (wp_X11_bentOf t8 (-v2) (fun r21 t22 => wp_X11_bentOf t22 v2 (fun r23 t24 => ((r23 ≤ r21) → (∀ x26 : Int32, x26 = v2 + 1 → (wp_X11_turnedBy_L4 post K n4 t24 v2 x26))) ∧ ((¬ r23 ≤ r21) → (∀ x28 : Int32, x28 = (-v2) → (∀ x30 : Int32, x30 = v2 + 1 → (wp_X11_turnedBy_L4 post K n4 t24 x28 x30))))))))))))
def wp_X11_turnedBy (st : St) (post : Int32 → St → Prop) : Prop := ∃ m4 : Nat, wp_X11_turnedBy_L4 post (fun t33 v32 => post v32 t33) m4 st 0 1
set_option maxHeartbeats 4000000 in
set_option maxRecDepth 100000 in
theorem c_X11_turnedBy (l : Launch) (D : va_G) (cy : Nat → ClassId) (tz : Nat → Nat) (ad : Nat → Nat) (st : St) (post : Int32 → St → Prop) (h : wp_X11_turnedBy st post) : CtI l D cy tz yX11_turnedBy ws_X11_turnedBy rm_X11_turnedBy [.ref (ad 0)] (wM cy ad st) (wM cy ad) post := by
  refine CtI.of (own := RX11) (nm := "turnedBy") (lv := [(0, .ref (ad 0))]) (plainFor_of_name (by decide)) rfl rfl (Nat.le_of_ble_eq_true rfl) rfl ?_
  intro p e s m args below meth c A Q ls B hP hD hS hl hret
  obtain ⟨hx, hb, hml, hown, hts, hK, hZ, hA, hnm⟩ := B
  have SF : CallFix p m c cX11_turnedBy 3 s args wsL_law RX11 := ⟨hx, hb, hml, hown, hts⟩
  unfold wp_X11_turnedBy at h
  refine lv_iconst (v := 0) hx hb dX11_turnedBy_0 (by decide) ?_
  refine lv_istore_n (lv' := [(1, .int 0), (0, .ref (ad 0))]) hx hb dX11_turnedBy_1 rfl hl (by decide) rfl (fun ls hl => ?_)
  refine lv_iconst (v := 1) hx hb dX11_turnedBy_2 (by decide) ?_
  refine lv_istore_n (lv' := [(2, .int 1), (1, .int 0), (0, .ref (ad 0))]) hx hb dX11_turnedBy_3 rfl hl (by decide) rfl (fun ls hl => ?_)
  have loop4 : ∀ (K : St → Int32 → Prop), (∀ (t33 : St) (v32 : Int32) (H : Heap) (locs : List Loc) (ls : Array Slot), K t33 v32 → va_P D vwCl (wM cy ad t33) H → va_D A (wM cy ad t33) → va_S A s.heap H locs → lv_has ls 3 [(1, .int v32)] → W p l e rm_X11_turnedBy s m args below meth c H locs 0 0 Q (F0 m 56 ls [])) → ∀ (n : Nat) (t3 : St) (v1 : Int32) (v2 : Int32) (H : Heap) (locs : List Loc) (ls : Array Slot), wp_X11_turnedBy_L4 post K n t3 v1 v2 → va_P D vwCl (wM cy ad t3) H → va_D A (wM cy ad t3) → va_S A s.heap H locs → lv_has ls 3 [(0, .ref (ad 0)), (1, .int v1), (2, .int v2)] → W p l e rm_X11_turnedBy s m args below meth c H locs 0 0 Q (F0 m 4 ls []) := by
    intro K hE4 n
    induction n with
    | zero => intro t3 v1 v2 H locs ls h; exact h.elim
    | succ n ih4 =>
      intro t3 v1 v2 H locs ls h hP hD hS hl
      rw [wp_X11_turnedBy_L4] at h
      refine lv_iload_n hx hb dX11_turnedBy_4 rfl (lv_at hl 2 rfl) ?_
      refine lv_bipush (v := 60) hx hb dX11_turnedBy_5 (by decide) ?_
      refine lv_icmp_gt (tgt := 56) hx hb dX11_turnedBy_7 (by decide) (fun c4 => ?_) (fun c4 => ?_)
      · have h := h.1 c4
        exact hE4 _ _ _ _ _ h hP hD hS (lv_sub hl [1] rfl)
      · have h := h.2 c4
        refine lv_aload_n hx hb dX11_turnedBy_10 rfl (lv_at hl 0 rfl) ?_
        refine lv_iload_n hx hb dX11_turnedBy_11 rfl (lv_at hl 2 rfl) ?_
        refine callVI (rest := []) SF (c_X11_bentOf l D cy tz ad t3 v2 _ h) (cw_RX11_245 hts ⟨Nat.le_of_ble_eq_true rfl, Nat.le_of_ble_eq_true rfl⟩) rfl rfl (va_recv hK hP (ci := 10) (q0 := 0) rfl rfl) hK hZ hA hP hD hS rfl hl.1 rfl (Nat.le_of_ble_eq_true rfl) dX11_turnedBy_12 ⟨Nat.zero_le _, Nat.zero_le _⟩ (fun r5 t6 H locs h hP hD hS => ?_)
        refine lv_aload_n hx hb dX11_turnedBy_15 rfl (lv_at hl 0 rfl) ?_
        refine lv_iload_n hx hb dX11_turnedBy_16 rfl (lv_at hl 1 rfl) ?_
        refine callVI (rest := [.int r5]) SF (c_X11_bentOf l D cy tz ad t6 v1 _ h) (cw_RX11_245 hts ⟨Nat.le_of_ble_eq_true rfl, Nat.le_of_ble_eq_true rfl⟩) rfl rfl (va_recv hK hP (ci := 10) (q0 := 0) rfl rfl) hK hZ hA hP hD hS rfl hl.1 rfl (Nat.le_of_ble_eq_true rfl) dX11_turnedBy_17 ⟨Nat.zero_le _, Nat.zero_le _⟩ (fun r7 t8 H locs h hP hD hS => ?_)
        refine lv_icmp_ge (tgt := 27) hx hb dX11_turnedBy_20 (by decide) (fun c9 => ?_) (fun c9 => ?_)
        · have h := h.1 c9
          refine lv_iload_n hx hb dX11_turnedBy_27 rfl (lv_at hl 1 rfl) ?_
          refine lv_istore_n (lv' := [(1, .int v1), (0, .ref (ad 0)), (2, .int v2)]) hx hb dX11_turnedBy_28 rfl hl (by decide) rfl (fun ls hl => ?_)
          refine lv_aload_n hx hb dX11_turnedBy_29 rfl (lv_at hl 1 rfl) ?_
          refine lv_iload_n hx hb dX11_turnedBy_30 rfl (lv_at hl 2 rfl) ?_
          refine lv_ineg hx hb dX11_turnedBy_31 ?_
          refine callVI (rest := []) SF (c_X11_bentOf l D cy tz ad t8 (-v2) _ h) (cw_RX11_245 hts ⟨Nat.le_of_ble_eq_true rfl, Nat.le_of_ble_eq_true rfl⟩) rfl rfl (va_recv hK hP (ci := 10) (q0 := 0) rfl rfl) hK hZ hA hP hD hS rfl hl.1 rfl (Nat.le_of_ble_eq_true rfl) dX11_turnedBy_32 ⟨Nat.zero_le _, Nat.zero_le _⟩ (fun r10 t11 H locs h hP hD hS => ?_)
          refine lv_aload_n hx hb dX11_turnedBy_35 rfl (lv_at hl 1 rfl) ?_
          refine lv_iload_n hx hb dX11_turnedBy_36 rfl (lv_at hl 0 rfl) ?_
          refine callVI (rest := [.int r10]) SF (c_X11_bentOf l D cy tz ad t11 v1 _ h) (cw_RX11_245 hts ⟨Nat.le_of_ble_eq_true rfl, Nat.le_of_ble_eq_true rfl⟩) rfl rfl (va_recv hK hP (ci := 10) (q0 := 0) rfl rfl) hK hZ hA hP hD hS rfl hl.1 rfl (Nat.le_of_ble_eq_true rfl) dX11_turnedBy_37 ⟨Nat.zero_le _, Nat.zero_le _⟩ (fun r12 t13 H locs h hP hD hS => ?_)
          refine lv_icmp_ge (tgt := 48) hx hb dX11_turnedBy_40 (by decide) (fun c14 => ?_) (fun c14 => ?_)
          · have h := h.1 c14
            refine lv_iload_n hx hb dX11_turnedBy_48 rfl (lv_at hl 0 rfl) ?_
            refine lv_istore_n (lv' := [(1, .int v1), (0, .ref (ad 0)), (2, .int v2)]) hx hb dX11_turnedBy_49 rfl hl (by decide) rfl (fun ls hl => ?_)
            obtain ⟨x15, e16⟩ : ∃ z : Int32, z = v2 + 1 := ⟨_, rfl⟩
            have h := h x15 e16
            refine lv_iinc (v := x15) (lv' := [(2, .int x15), (1, .int v1), (0, .ref (ad 0))]) hx hb dX11_turnedBy_50 hl (k := 2) rfl (by rw [e16]; rfl) (by decide) rfl (fun ls hl => ?_)
            refine lv_goto (tgt := 4) hx hb dX11_turnedBy_53 (by decide) ?_
            exact ih4 _ _ _ _ _ _ h hP hD hS (lv_sub hl [2, 1, 0] rfl)
          · have h := h.2 c14
            refine lv_iload_n hx hb dX11_turnedBy_43 rfl (lv_at hl 2 rfl) ?_
            refine lv_ineg hx hb dX11_turnedBy_44 ?_
            refine lv_goto (tgt := 49) hx hb dX11_turnedBy_45 (by decide) ?_
            refine lv_topi (fun x17 e18 => ?_)
            have h := h x17 e18
            refine lv_istore_n (lv' := [(1, .int x17), (0, .ref (ad 0)), (2, .int v2)]) hx hb dX11_turnedBy_49 rfl hl (by decide) rfl (fun ls hl => ?_)
            obtain ⟨x19, e20⟩ : ∃ z : Int32, z = v2 + 1 := ⟨_, rfl⟩
            have h := h x19 e20
            refine lv_iinc (v := x19) (lv' := [(2, .int x19), (1, .int x17), (0, .ref (ad 0))]) hx hb dX11_turnedBy_50 hl (k := 2) rfl (by rw [e20]; rfl) (by decide) rfl (fun ls hl => ?_)
            refine lv_goto (tgt := 4) hx hb dX11_turnedBy_53 (by decide) ?_
            exact ih4 _ _ _ _ _ _ h hP hD hS (lv_sub hl [2, 1, 0] rfl)
        · have h := h.2 c9
          refine lv_iload_n hx hb dX11_turnedBy_23 rfl (lv_at hl 2 rfl) ?_
          refine lv_goto (tgt := 28) hx hb dX11_turnedBy_24 (by decide) ?_
          refine lv_istore_n (lv' := [(1, .int v2), (0, .ref (ad 0)), (2, .int v2)]) hx hb dX11_turnedBy_28 rfl hl (by decide) rfl (fun ls hl => ?_)
          refine lv_aload_n hx hb dX11_turnedBy_29 rfl (lv_at hl 1 rfl) ?_
          refine lv_iload_n hx hb dX11_turnedBy_30 rfl (lv_at hl 2 rfl) ?_
          refine lv_ineg hx hb dX11_turnedBy_31 ?_
          refine callVI (rest := []) SF (c_X11_bentOf l D cy tz ad t8 (-v2) _ h) (cw_RX11_245 hts ⟨Nat.le_of_ble_eq_true rfl, Nat.le_of_ble_eq_true rfl⟩) rfl rfl (va_recv hK hP (ci := 10) (q0 := 0) rfl rfl) hK hZ hA hP hD hS rfl hl.1 rfl (Nat.le_of_ble_eq_true rfl) dX11_turnedBy_32 ⟨Nat.zero_le _, Nat.zero_le _⟩ (fun r21 t22 H locs h hP hD hS => ?_)
          refine lv_aload_n hx hb dX11_turnedBy_35 rfl (lv_at hl 1 rfl) ?_
          refine lv_iload_n hx hb dX11_turnedBy_36 rfl (lv_at hl 0 rfl) ?_
          refine callVI (rest := [.int r21]) SF (c_X11_bentOf l D cy tz ad t22 v2 _ h) (cw_RX11_245 hts ⟨Nat.le_of_ble_eq_true rfl, Nat.le_of_ble_eq_true rfl⟩) rfl rfl (va_recv hK hP (ci := 10) (q0 := 0) rfl rfl) hK hZ hA hP hD hS rfl hl.1 rfl (Nat.le_of_ble_eq_true rfl) dX11_turnedBy_37 ⟨Nat.zero_le _, Nat.zero_le _⟩ (fun r23 t24 H locs h hP hD hS => ?_)
          refine lv_icmp_ge (tgt := 48) hx hb dX11_turnedBy_40 (by decide) (fun c25 => ?_) (fun c25 => ?_)
          · have h := h.1 c25
            refine lv_iload_n hx hb dX11_turnedBy_48 rfl (lv_at hl 0 rfl) ?_
            refine lv_istore_n (lv' := [(1, .int v2), (0, .ref (ad 0)), (2, .int v2)]) hx hb dX11_turnedBy_49 rfl hl (by decide) rfl (fun ls hl => ?_)
            obtain ⟨x26, e27⟩ : ∃ z : Int32, z = v2 + 1 := ⟨_, rfl⟩
            have h := h x26 e27
            refine lv_iinc (v := x26) (lv' := [(2, .int x26), (1, .int v2), (0, .ref (ad 0))]) hx hb dX11_turnedBy_50 hl (k := 2) rfl (by rw [e27]; rfl) (by decide) rfl (fun ls hl => ?_)
            refine lv_goto (tgt := 4) hx hb dX11_turnedBy_53 (by decide) ?_
            exact ih4 _ _ _ _ _ _ h hP hD hS (lv_sub hl [2, 1, 0] rfl)
          · have h := h.2 c25
            refine lv_iload_n hx hb dX11_turnedBy_43 rfl (lv_at hl 2 rfl) ?_
            refine lv_ineg hx hb dX11_turnedBy_44 ?_
            refine lv_goto (tgt := 49) hx hb dX11_turnedBy_45 (by decide) ?_
            refine lv_topi (fun x28 e29 => ?_)
            have h := h x28 e29
            refine lv_istore_n (lv' := [(1, .int x28), (0, .ref (ad 0)), (2, .int v2)]) hx hb dX11_turnedBy_49 rfl hl (by decide) rfl (fun ls hl => ?_)
            obtain ⟨x30, e31⟩ : ∃ z : Int32, z = v2 + 1 := ⟨_, rfl⟩
            have h := h x30 e31
            refine lv_iinc (v := x30) (lv' := [(2, .int x30), (1, .int x28), (0, .ref (ad 0))]) hx hb dX11_turnedBy_50 hl (k := 2) rfl (by rw [e31]; rfl) (by decide) rfl (fun ls hl => ?_)
            refine lv_goto (tgt := 4) hx hb dX11_turnedBy_53 (by decide) ?_
            exact ih4 _ _ _ _ _ _ h hP hD hS (lv_sub hl [2, 1, 0] rfl)
  obtain ⟨n, h⟩ := h
  refine loop4 _ ?_ n _ _ _ _ _ _ h hP hD hS (lv_sub hl [2, 1, 0] rfl)
  intro t33 v32 H locs ls h hP hD hS hl
  refine lv_iload_n hx hb dX11_turnedBy_56 rfl (lv_at hl 0 rfl) ?_
  exact hret _ _ _ _ _ _ rfl h hP hD hS dX11_turnedBy_57
-- X11_turned
def rm_X11_turned : Room := { frames := 3, cells := 0, slots := 0, locals := 74 }
abbrev ws_X11_turned : List Cond := .code yX11_turned cX11_turned 1 (some .int) :: wsL_law
theorem cw_RX11_249 {R : Room} {s : State} {args : Array Value} (hts : ∀ w ∈ wsL_law, w.before args s = true) (hR : rm_X11_turnedBy.frames + 1 ≤ R.frames ∧ 8 + (3 + 11) + rm_X11_turnedBy.locals ≤ R.locals) : CallW R s args RX11 RX11 249 yX11_turnedBy cX11_turnedBy 3 (some .int) ws_X11_turnedBy rm_X11_turnedBy rm_X11_turnedBy.cells rm_X11_turnedBy.slots 0 := cwV 0 hts (gdV w_32_2 w_32_3 w_32_4 w_1_5 w_32_5) rfl rfl rfl (by decide +kernel) hR
def wp_X11_turned (st : St) (post : Int32 → St → Prop) : Prop := ((3 ≤ gI st 27) → (wp_X11_turnedBy st (fun r2 t3 => post r2 t3))) ∧ ((¬ 3 ≤ gI st 27) → (post (-100000003) st))
set_option maxHeartbeats 4000000 in
set_option maxRecDepth 100000 in
theorem c_X11_turned (l : Launch) (D : va_G) (cy : Nat → ClassId) (tz : Nat → Nat) (ad : Nat → Nat) (st : St) (post : Int32 → St → Prop) (h : wp_X11_turned st post) : CtI l D cy tz yX11_turned ws_X11_turned rm_X11_turned [.ref (ad 0)] (wM cy ad st) (wM cy ad) post := by
  refine CtI.of (own := RX11) (nm := "turned") (lv := [(0, .ref (ad 0))]) (plainFor_of_name (by decide)) rfl rfl (Nat.le_of_ble_eq_true rfl) rfl ?_
  intro p e s m args below meth c A Q ls B hP hD hS hl hret
  obtain ⟨hx, hb, hml, hown, hts, hK, hZ, hA, hnm⟩ := B
  have SF : CallFix p m c cX11_turned 1 s args wsL_law RX11 := ⟨hx, hb, hml, hown, hts⟩
  unfold wp_X11_turned at h
  refine lv_aload_n hx hb dX11_turned_0 rfl (lv_at hl 0 rfl) ?_
  refine va_get (D := D) (ci := 10) (v := .int (gI st 27)) (C := RX11) (T := TX11) (N := 35) hx hb hts inlX11 hown hK hP 0 rfl rfl 27 (by decide) (hts _ w_29_16) (fun _ h9 => h9) rfl dX11_turned_1 ?_
  refine lv_iconst (v := 3) hx hb dX11_turned_4 (by decide) ?_
  refine lv_icmp_ge (tgt := 13) hx hb dX11_turned_5 (by decide) (fun c1 => ?_) (fun c1 => ?_)
  · have h := h.1 c1
    refine lv_aload_n hx hb dX11_turned_13 rfl (lv_at hl 0 rfl) ?_
    refine callVI (rest := []) SF (c_X11_turnedBy l D cy tz ad st _ h) (cw_RX11_249 hts ⟨Nat.le_of_ble_eq_true rfl, Nat.le_of_ble_eq_true rfl⟩) rfl rfl (va_recv hK hP (ci := 10) (q0 := 0) rfl rfl) hK hZ hA hP hD hS rfl hl.1 rfl (Nat.le_of_ble_eq_true rfl) dX11_turned_14 ⟨Nat.zero_le _, Nat.zero_le _⟩ (fun r2 t3 H locs h hP hD hS => ?_)
    exact hret _ _ _ _ _ _ rfl h hP hD hS dX11_turned_17
  · have h := h.2 c1
    refine lv_ldc (v := (-100000003)) hx hb hown (hts _ w_32_1) dX11_turned_8 ?_
    refine lv_goto (tgt := 17) hx hb dX11_turned_10 (by decide) ?_
    exact hret _ _ _ _ _ _ rfl h hP hD hS dX11_turned_17
-- X11_span
def rm_X11_span : Room := { frames := 3, cells := 0, slots := 0, locals := 74 }
abbrev ws_X11_span : List Cond := .code yX11_span cX11_span 6 (some .int) :: wsL_law
def wp_X11_span_L68 (post : Int32 → St → Prop) (K : St → Int32 → Prop) (x12 : Int32) : Nat → St → Int32 → Prop
  | 0, _, _ => False
  | n68 + 1, t17, v16 => wp_X11_bentOf t17 v16 (fun r18 t19 => ((r18 ≤ x12) → (K t19 v16)) ∧ ((¬ r18 ≤ x12) → (∀ x21 : Int32, x21 = (v16 + (-1)) → (wp_X11_span_L68 post K x12 n68 t19 x21))))
def wp_X11_span_L68q (post : Int32 → St → Prop) (K : St → Int32 → Prop) (x12 : Int32) : Nat → St → Int32 → Prop
  | 0, _, _ => False
  | n68 + 1, t26, v25 => wp_X11_bentOf t26 v25 (fun r27 t28 => ((r27 ≤ x12) → (K t28 v25)) ∧ ((¬ r27 ≤ x12) → (∀ x30 : Int32, x30 = (v25 + (-1)) → (wp_X11_span_L68q post K x12 n68 t28 x30))))
def wp_X11_span_L68qq (post : Int32 → St → Prop) (K : St → Int32 → Prop) (x12 : Int32) : Nat → St → Int32 → Prop
  | 0, _, _ => False
  | n68 + 1, t36, v35 => wp_X11_bentOf t36 v35 (fun r37 t38 => ((r37 ≤ x12) → (K t38 v35)) ∧ ((¬ r37 ≤ x12) → (∀ x40 : Int32, x40 = (v35 + 1) → (wp_X11_span_L68qq post K x12 n68 t38 x40))))
def wp_X11_span_L68qqq (post : Int32 → St → Prop) (K : St → Int32 → Prop) (x12 : Int32) : Nat → St → Int32 → Prop
  | 0, _, _ => False
  | n68 + 1, t45, v44 => wp_X11_bentOf t45 v44 (fun r46 t47 => ((r46 ≤ x12) → (K t47 v44)) ∧ ((¬ r46 ≤ x12) → (∀ x49 : Int32, x49 = (v44 + 1) → (wp_X11_span_L68qqq post K x12 n68 t47 x49))))
def wp_X11_span (st : St) (a1 : Int32) (a2 : Int32) (post : Int32 → St → Prop) : Prop := wp_X11_in a1.toInt64 0 9999 (fun r1 => ((r1 = 0) → (post (-100000002) st)) ∧ ((¬ r1 = 0) → (wp_X11_isEnd a2 (fun r4 => ((¬ r4 = 0) → (((3 ≤ gI st 27) → (wp_X11_turnedBy st (fun r8 t9 => wp_X11_bentOf t9 r8 (fun r10 t11 => ∀ x12 : Int32, x12 = (r10 + a1) → (((¬ a2 = 0) → (((¬ a2 = 0) → (∃ m68 : Nat, wp_X11_span_L68 post (fun t24 v23 => post v23 t24) x12 m68 t11 60)) ∧ ((a2 = 0) → (∃ m68 : Nat, wp_X11_span_L68q post (fun t33 v32 => post v32 t33) x12 m68 t11 (-60))))) ∧ ((a2 = 0) → (((¬ a2 = 0) → (∃ m68 : Nat, wp_X11_span_L68qq post (fun t43 v42 => post v42 t43) x12 m68 t11 60)) ∧ ((a2 = 0) → (∃ m68 : Nat, wp_X11_span_L68qqq post (fun t52 v51 => post v51 t52) x12 m68 t11 (-60)))))))))) ∧ ((¬ 3 ≤ gI st 27) → (post (-100000003) st)))) ∧ ((r4 = 0) → (post (-100000002) st))))))
set_option maxHeartbeats 4000000 in
set_option maxRecDepth 100000 in
theorem c_X11_span (l : Launch) (D : va_G) (cy : Nat → ClassId) (tz : Nat → Nat) (ad : Nat → Nat) (st : St) (a1 : Int32) (a2 : Int32) (post : Int32 → St → Prop) (h : wp_X11_span st a1 a2 post) : CtI l D cy tz yX11_span ws_X11_span rm_X11_span [.ref (ad 0), .int a1, .int a2] (wM cy ad st) (wM cy ad) post := by
  refine CtI.of (own := RX11) (nm := "span") (lv := [(0, .ref (ad 0)), (1, .int a1), (2, .int a2)]) (plainFor_of_name (by decide)) rfl rfl (Nat.le_of_ble_eq_true rfl) rfl ?_
  intro p e s m args below meth c A Q ls B hP hD hS hl hret
  obtain ⟨hx, hb, hml, hown, hts, hK, hZ, hA, hnm⟩ := B
  have SF : CallFix p m c cX11_span 6 s args wsL_law RX11 := ⟨hx, hb, hml, hown, hts⟩
  unfold wp_X11_span at h
  refine lv_iload_n hx hb dX11_span_0 rfl (lv_at hl 1 rfl) ?_
  refine lv_i2l (v := a1.toInt64) hx hb dX11_span_1 rfl ?_
  refine lv_lconst (v := 0) hx hb dX11_span_2 (by decide) ?_
  refine lv_ldc2 (v := 9999) hx hb hown (hts _ w_28_16) dX11_span_3 ?_
  refine callSIr (rest := []) SF (c_X11_in l D cy tz _ a1.toInt64 0 9999 _ h) (cw_RX11_67 hts ⟨Nat.le_of_ble_eq_true rfl, Nat.le_of_ble_eq_true rfl⟩) rfl rfl hK hZ hA hP hD hS rfl hl.1 rfl (Nat.le_of_ble_eq_true rfl) dX11_span_6 ⟨Nat.zero_le _, Nat.zero_le _⟩ (fun r1 H locs h hP hD hS => ?_)
  refine lv_if_eq (tgt := 19) hx hb dX11_span_9 (by decide) (fun c3 => ?_) (fun c3 => ?_)
  · have h := h.1 c3
    refine lv_ldc (v := (-100000002)) hx hb hown (hts _ w_15_17) dX11_span_19 ?_
    exact hret _ _ _ _ _ _ rfl h hP hD hS dX11_span_21
  · have h := h.2 c3
    refine lv_iload_n hx hb dX11_span_12 rfl (lv_at hl 2 rfl) ?_
    refine callSIr (rest := []) SF (c_X11_isEnd l D cy tz _ a2 _ h) (cw_RX11_121 hts ⟨Nat.le_of_ble_eq_true rfl, Nat.le_of_ble_eq_true rfl⟩) rfl rfl hK hZ hA hP hD hS rfl hl.1 rfl (Nat.le_of_ble_eq_true rfl) dX11_span_13 ⟨Nat.zero_le _, Nat.zero_le _⟩ (fun r4 H locs h hP hD hS => ?_)
    refine lv_if_ne (tgt := 22) hx hb dX11_span_16 (by decide) (fun c6 => ?_) (fun c6 => ?_)
    · have h := h.1 c6
      refine lv_aload_n hx hb dX11_span_22 rfl (lv_at hl 0 rfl) ?_
      refine va_get (D := D) (ci := 10) (v := .int (gI st 27)) (C := RX11) (T := TX11) (N := 35) hx hb hts inlX11 hown hK hP 0 rfl rfl 27 (by decide) (hts _ w_29_16) (fun _ h9 => h9) rfl dX11_span_23 ?_
      refine lv_iconst (v := 3) hx hb dX11_span_26 (by decide) ?_
      refine lv_icmp_ge (tgt := 33) hx hb dX11_span_27 (by decide) (fun c7 => ?_) (fun c7 => ?_)
      · have h := h.1 c7
        refine lv_aload_n hx hb dX11_span_33 rfl (lv_at hl 0 rfl) ?_
        refine lv_aload_n hx hb dX11_span_34 rfl (lv_at hl 0 rfl) ?_
        refine callVI (rest := [.ref (ad 0)]) SF (c_X11_turnedBy l D cy tz ad st _ h) (cw_RX11_249 hts ⟨Nat.le_of_ble_eq_true rfl, Nat.le_of_ble_eq_true rfl⟩) rfl rfl (va_recv hK hP (ci := 10) (q0 := 0) rfl rfl) hK hZ hA hP hD hS rfl hl.1 rfl (Nat.le_of_ble_eq_true rfl) dX11_span_35 ⟨Nat.zero_le _, Nat.zero_le _⟩ (fun r8 t9 H locs h hP hD hS => ?_)
        refine callVI (rest := []) SF (c_X11_bentOf l D cy tz ad t9 r8 _ h) (cw_RX11_245 hts ⟨Nat.le_of_ble_eq_true rfl, Nat.le_of_ble_eq_true rfl⟩) rfl rfl (va_recv hK hP (ci := 10) (q0 := 0) rfl rfl) hK hZ hA hP hD hS rfl hl.1 rfl (Nat.le_of_ble_eq_true rfl) dX11_span_38 ⟨Nat.zero_le _, Nat.zero_le _⟩ (fun r10 t11 H locs h hP hD hS => ?_)
        refine lv_iload_n hx hb dX11_span_41 rfl (lv_at hl 1 rfl) ?_
        refine lv_iadd hx hb dX11_span_42 ?_
        refine lv_topi (fun x12 e13 => ?_)
        have h := h x12 e13
        refine lv_istore_n (lv' := [(3, .int x12), (0, .ref (ad 0)), (1, .int a1), (2, .int a2)]) hx hb dX11_span_43 rfl hl (by decide) rfl (fun ls hl => ?_)
        refine lv_iload_n hx hb dX11_span_44 rfl (lv_at hl 3 rfl) ?_
        refine lv_if_ne (tgt := 52) hx hb dX11_span_45 (by decide) (fun c14 => ?_) (fun c14 => ?_)
        · have h := h.1 c14
          refine lv_iconst (v := (-1)) hx hb dX11_span_52 (by decide) ?_
          refine lv_istore (lv' := [(4, .int (-1)), (3, .int x12), (0, .ref (ad 0)), (1, .int a1), (2, .int a2)]) hx hb dX11_span_53 hl (by decide) rfl (fun ls hl => ?_)
          refine lv_iload_n hx hb dX11_span_55 rfl (lv_at hl 4 rfl) ?_
          refine lv_if_ne (tgt := 64) hx hb dX11_span_56 (by decide) (fun c15 => ?_) (fun c15 => ?_)
          · have h := h.1 c15
            refine lv_bipush (v := 60) hx hb dX11_span_64 (by decide) ?_
            refine lv_istore (lv' := [(5, .int 60), (4, .int (-1)), (3, .int x12), (0, .ref (ad 0)), (1, .int a1), (2, .int a2)]) hx hb dX11_span_66 hl (by decide) rfl (fun ls hl => ?_)
            have loop68 : ∀ (K : St → Int32 → Prop), (∀ (t24 : St) (v23 : Int32) (H : Heap) (locs : List Loc) (ls : Array Slot), K t24 v23 → va_P D vwCl (wM cy ad t24) H → va_D A (wM cy ad t24) → va_S A s.heap H locs → lv_has ls 6 [(5, .int v23)] → W p l e rm_X11_span s m args below meth c H locs 0 0 Q (F0 m 88 ls [])) → ∀ (n : Nat) (t17 : St) (v16 : Int32) (H : Heap) (locs : List Loc) (ls : Array Slot), wp_X11_span_L68 post K x12 n t17 v16 → va_P D vwCl (wM cy ad t17) H → va_D A (wM cy ad t17) → va_S A s.heap H locs → lv_has ls 6 [(0, .ref (ad 0)), (3, .int x12), (4, .int (-1)), (5, .int v16)] → W p l e rm_X11_span s m args below meth c H locs 0 0 Q (F0 m 68 ls []) := by
              intro K hE68 n
              induction n with
              | zero => intro t17 v16 H locs ls h; exact h.elim
              | succ n ih68 =>
                intro t17 v16 H locs ls h hP hD hS hl
                rw [wp_X11_span_L68] at h
                refine lv_aload_n hx hb dX11_span_68 rfl (lv_at hl 0 rfl) ?_
                refine lv_iload hx hb dX11_span_69 (lv_at hl 3 rfl) ?_
                refine callVI (rest := []) SF (c_X11_bentOf l D cy tz ad t17 v16 _ h) (cw_RX11_245 hts ⟨Nat.le_of_ble_eq_true rfl, Nat.le_of_ble_eq_true rfl⟩) rfl rfl (va_recv hK hP (ci := 10) (q0 := 0) rfl rfl) hK hZ hA hP hD hS rfl hl.1 rfl (Nat.le_of_ble_eq_true rfl) dX11_span_71 ⟨Nat.zero_le _, Nat.zero_le _⟩ (fun r18 t19 H locs h hP hD hS => ?_)
                refine lv_iload_n hx hb dX11_span_74 rfl (lv_at hl 1 rfl) ?_
                refine lv_icmp_le (tgt := 88) hx hb dX11_span_75 (by decide) (fun c20 => ?_) (fun c20 => ?_)
                · have h := h.1 c20
                  exact hE68 _ _ _ _ _ h hP hD hS (lv_sub hl [3] rfl)
                · have h := h.2 c20
                  refine lv_iload hx hb dX11_span_78 (lv_at hl 3 rfl) ?_
                  refine lv_iload hx hb dX11_span_80 (lv_at hl 2 rfl) ?_
                  refine lv_iadd hx hb dX11_span_82 ?_
                  refine lv_topi (fun x21 e22 => ?_)
                  have h := h x21 e22
                  refine lv_istore (lv' := [(5, .int x21), (0, .ref (ad 0)), (3, .int x12), (4, .int (-1))]) hx hb dX11_span_83 hl (by decide) rfl (fun ls hl => ?_)
                  refine lv_goto (tgt := 68) hx hb dX11_span_85 (by decide) ?_
                  exact ih68 _ _ _ _ _ h hP hD hS (lv_sub hl [1, 2, 3, 0] rfl)
            obtain ⟨n, h⟩ := h
            refine loop68 _ ?_ n _ _ _ _ _ h hP hD hS (lv_sub hl [3, 2, 1, 0] rfl)
            intro t24 v23 H locs ls h hP hD hS hl
            refine lv_iload hx hb dX11_span_88 (lv_at hl 0 rfl) ?_
            exact hret _ _ _ _ _ _ rfl h hP hD hS dX11_span_90
          · have h := h.2 c15
            refine lv_bipush (v := (-60)) hx hb dX11_span_59 (by decide) ?_
            refine lv_goto (tgt := 66) hx hb dX11_span_61 (by decide) ?_
            refine lv_istore (lv' := [(5, .int (-60)), (4, .int (-1)), (3, .int x12), (0, .ref (ad 0)), (1, .int a1), (2, .int a2)]) hx hb dX11_span_66 hl (by decide) rfl (fun ls hl => ?_)
            have loop68 : ∀ (K : St → Int32 → Prop), (∀ (t33 : St) (v32 : Int32) (H : Heap) (locs : List Loc) (ls : Array Slot), K t33 v32 → va_P D vwCl (wM cy ad t33) H → va_D A (wM cy ad t33) → va_S A s.heap H locs → lv_has ls 6 [(5, .int v32)] → W p l e rm_X11_span s m args below meth c H locs 0 0 Q (F0 m 88 ls [])) → ∀ (n : Nat) (t26 : St) (v25 : Int32) (H : Heap) (locs : List Loc) (ls : Array Slot), wp_X11_span_L68q post K x12 n t26 v25 → va_P D vwCl (wM cy ad t26) H → va_D A (wM cy ad t26) → va_S A s.heap H locs → lv_has ls 6 [(0, .ref (ad 0)), (3, .int x12), (4, .int (-1)), (5, .int v25)] → W p l e rm_X11_span s m args below meth c H locs 0 0 Q (F0 m 68 ls []) := by
              intro K hE68 n
              induction n with
              | zero => intro t26 v25 H locs ls h; exact h.elim
              | succ n ih68 =>
                intro t26 v25 H locs ls h hP hD hS hl
                rw [wp_X11_span_L68q] at h
                refine lv_aload_n hx hb dX11_span_68 rfl (lv_at hl 0 rfl) ?_
                refine lv_iload hx hb dX11_span_69 (lv_at hl 3 rfl) ?_
                refine callVI (rest := []) SF (c_X11_bentOf l D cy tz ad t26 v25 _ h) (cw_RX11_245 hts ⟨Nat.le_of_ble_eq_true rfl, Nat.le_of_ble_eq_true rfl⟩) rfl rfl (va_recv hK hP (ci := 10) (q0 := 0) rfl rfl) hK hZ hA hP hD hS rfl hl.1 rfl (Nat.le_of_ble_eq_true rfl) dX11_span_71 ⟨Nat.zero_le _, Nat.zero_le _⟩ (fun r27 t28 H locs h hP hD hS => ?_)
                refine lv_iload_n hx hb dX11_span_74 rfl (lv_at hl 1 rfl) ?_
                refine lv_icmp_le (tgt := 88) hx hb dX11_span_75 (by decide) (fun c29 => ?_) (fun c29 => ?_)
                · have h := h.1 c29
                  exact hE68 _ _ _ _ _ h hP hD hS (lv_sub hl [3] rfl)
                · have h := h.2 c29
                  refine lv_iload hx hb dX11_span_78 (lv_at hl 3 rfl) ?_
                  refine lv_iload hx hb dX11_span_80 (lv_at hl 2 rfl) ?_
                  refine lv_iadd hx hb dX11_span_82 ?_
                  refine lv_topi (fun x30 e31 => ?_)
                  have h := h x30 e31
                  refine lv_istore (lv' := [(5, .int x30), (0, .ref (ad 0)), (3, .int x12), (4, .int (-1))]) hx hb dX11_span_83 hl (by decide) rfl (fun ls hl => ?_)
                  refine lv_goto (tgt := 68) hx hb dX11_span_85 (by decide) ?_
                  exact ih68 _ _ _ _ _ h hP hD hS (lv_sub hl [1, 2, 3, 0] rfl)
            obtain ⟨n, h⟩ := h
            refine loop68 _ ?_ n _ _ _ _ _ h hP hD hS (lv_sub hl [3, 2, 1, 0] rfl)
            intro t33 v32 H locs ls h hP hD hS hl
            refine lv_iload hx hb dX11_span_88 (lv_at hl 0 rfl) ?_
            exact hret _ _ _ _ _ _ rfl h hP hD hS dX11_span_90
        · have h := h.2 c14
          refine lv_iconst (v := 1) hx hb dX11_span_48 (by decide) ?_
          refine lv_goto (tgt := 53) hx hb dX11_span_49 (by decide) ?_
          refine lv_istore (lv' := [(4, .int 1), (3, .int x12), (0, .ref (ad 0)), (1, .int a1), (2, .int a2)]) hx hb dX11_span_53 hl (by decide) rfl (fun ls hl => ?_)
          refine lv_iload_n hx hb dX11_span_55 rfl (lv_at hl 4 rfl) ?_
          refine lv_if_ne (tgt := 64) hx hb dX11_span_56 (by decide) (fun c34 => ?_) (fun c34 => ?_)
          · have h := h.1 c34
            refine lv_bipush (v := 60) hx hb dX11_span_64 (by decide) ?_
            refine lv_istore (lv' := [(5, .int 60), (4, .int 1), (3, .int x12), (0, .ref (ad 0)), (1, .int a1), (2, .int a2)]) hx hb dX11_span_66 hl (by decide) rfl (fun ls hl => ?_)
            have loop68 : ∀ (K : St → Int32 → Prop), (∀ (t43 : St) (v42 : Int32) (H : Heap) (locs : List Loc) (ls : Array Slot), K t43 v42 → va_P D vwCl (wM cy ad t43) H → va_D A (wM cy ad t43) → va_S A s.heap H locs → lv_has ls 6 [(5, .int v42)] → W p l e rm_X11_span s m args below meth c H locs 0 0 Q (F0 m 88 ls [])) → ∀ (n : Nat) (t36 : St) (v35 : Int32) (H : Heap) (locs : List Loc) (ls : Array Slot), wp_X11_span_L68qq post K x12 n t36 v35 → va_P D vwCl (wM cy ad t36) H → va_D A (wM cy ad t36) → va_S A s.heap H locs → lv_has ls 6 [(0, .ref (ad 0)), (3, .int x12), (4, .int 1), (5, .int v35)] → W p l e rm_X11_span s m args below meth c H locs 0 0 Q (F0 m 68 ls []) := by
              intro K hE68 n
              induction n with
              | zero => intro t36 v35 H locs ls h; exact h.elim
              | succ n ih68 =>
                intro t36 v35 H locs ls h hP hD hS hl
                rw [wp_X11_span_L68qq] at h
                refine lv_aload_n hx hb dX11_span_68 rfl (lv_at hl 0 rfl) ?_
                refine lv_iload hx hb dX11_span_69 (lv_at hl 3 rfl) ?_
                refine callVI (rest := []) SF (c_X11_bentOf l D cy tz ad t36 v35 _ h) (cw_RX11_245 hts ⟨Nat.le_of_ble_eq_true rfl, Nat.le_of_ble_eq_true rfl⟩) rfl rfl (va_recv hK hP (ci := 10) (q0 := 0) rfl rfl) hK hZ hA hP hD hS rfl hl.1 rfl (Nat.le_of_ble_eq_true rfl) dX11_span_71 ⟨Nat.zero_le _, Nat.zero_le _⟩ (fun r37 t38 H locs h hP hD hS => ?_)
                refine lv_iload_n hx hb dX11_span_74 rfl (lv_at hl 1 rfl) ?_
                refine lv_icmp_le (tgt := 88) hx hb dX11_span_75 (by decide) (fun c39 => ?_) (fun c39 => ?_)
                · have h := h.1 c39
                  exact hE68 _ _ _ _ _ h hP hD hS (lv_sub hl [3] rfl)
                · have h := h.2 c39
                  refine lv_iload hx hb dX11_span_78 (lv_at hl 3 rfl) ?_
                  refine lv_iload hx hb dX11_span_80 (lv_at hl 2 rfl) ?_
                  refine lv_iadd hx hb dX11_span_82 ?_
                  refine lv_topi (fun x40 e41 => ?_)
                  have h := h x40 e41
                  refine lv_istore (lv' := [(5, .int x40), (0, .ref (ad 0)), (3, .int x12), (4, .int 1)]) hx hb dX11_span_83 hl (by decide) rfl (fun ls hl => ?_)
                  refine lv_goto (tgt := 68) hx hb dX11_span_85 (by decide) ?_
                  exact ih68 _ _ _ _ _ h hP hD hS (lv_sub hl [1, 2, 3, 0] rfl)
            obtain ⟨n, h⟩ := h
            refine loop68 _ ?_ n _ _ _ _ _ h hP hD hS (lv_sub hl [3, 2, 1, 0] rfl)
            intro t43 v42 H locs ls h hP hD hS hl
            refine lv_iload hx hb dX11_span_88 (lv_at hl 0 rfl) ?_
            exact hret _ _ _ _ _ _ rfl h hP hD hS dX11_span_90
          · have h := h.2 c34
            refine lv_bipush (v := (-60)) hx hb dX11_span_59 (by decide) ?_
            refine lv_goto (tgt := 66) hx hb dX11_span_61 (by decide) ?_
            refine lv_istore (lv' := [(5, .int (-60)), (4, .int 1), (3, .int x12), (0, .ref (ad 0)), (1, .int a1), (2, .int a2)]) hx hb dX11_span_66 hl (by decide) rfl (fun ls hl => ?_)
            have loop68 : ∀ (K : St → Int32 → Prop), (∀ (t52 : St) (v51 : Int32) (H : Heap) (locs : List Loc) (ls : Array Slot), K t52 v51 → va_P D vwCl (wM cy ad t52) H → va_D A (wM cy ad t52) → va_S A s.heap H locs → lv_has ls 6 [(5, .int v51)] → W p l e rm_X11_span s m args below meth c H locs 0 0 Q (F0 m 88 ls [])) → ∀ (n : Nat) (t45 : St) (v44 : Int32) (H : Heap) (locs : List Loc) (ls : Array Slot), wp_X11_span_L68qqq post K x12 n t45 v44 → va_P D vwCl (wM cy ad t45) H → va_D A (wM cy ad t45) → va_S A s.heap H locs → lv_has ls 6 [(0, .ref (ad 0)), (3, .int x12), (4, .int 1), (5, .int v44)] → W p l e rm_X11_span s m args below meth c H locs 0 0 Q (F0 m 68 ls []) := by
              intro K hE68 n
              induction n with
              | zero => intro t45 v44 H locs ls h; exact h.elim
              | succ n ih68 =>
                intro t45 v44 H locs ls h hP hD hS hl
                rw [wp_X11_span_L68qqq] at h
                refine lv_aload_n hx hb dX11_span_68 rfl (lv_at hl 0 rfl) ?_
                refine lv_iload hx hb dX11_span_69 (lv_at hl 3 rfl) ?_
                refine callVI (rest := []) SF (c_X11_bentOf l D cy tz ad t45 v44 _ h) (cw_RX11_245 hts ⟨Nat.le_of_ble_eq_true rfl, Nat.le_of_ble_eq_true rfl⟩) rfl rfl (va_recv hK hP (ci := 10) (q0 := 0) rfl rfl) hK hZ hA hP hD hS rfl hl.1 rfl (Nat.le_of_ble_eq_true rfl) dX11_span_71 ⟨Nat.zero_le _, Nat.zero_le _⟩ (fun r46 t47 H locs h hP hD hS => ?_)
                refine lv_iload_n hx hb dX11_span_74 rfl (lv_at hl 1 rfl) ?_
                refine lv_icmp_le (tgt := 88) hx hb dX11_span_75 (by decide) (fun c48 => ?_) (fun c48 => ?_)
                · have h := h.1 c48
                  exact hE68 _ _ _ _ _ h hP hD hS (lv_sub hl [3] rfl)
                · have h := h.2 c48
                  refine lv_iload hx hb dX11_span_78 (lv_at hl 3 rfl) ?_
                  refine lv_iload hx hb dX11_span_80 (lv_at hl 2 rfl) ?_
                  refine lv_iadd hx hb dX11_span_82 ?_
                  refine lv_topi (fun x49 e50 => ?_)
                  have h := h x49 e50
                  refine lv_istore (lv' := [(5, .int x49), (0, .ref (ad 0)), (3, .int x12), (4, .int 1)]) hx hb dX11_span_83 hl (by decide) rfl (fun ls hl => ?_)
                  refine lv_goto (tgt := 68) hx hb dX11_span_85 (by decide) ?_
                  exact ih68 _ _ _ _ _ h hP hD hS (lv_sub hl [1, 2, 3, 0] rfl)
            obtain ⟨n, h⟩ := h
            refine loop68 _ ?_ n _ _ _ _ _ h hP hD hS (lv_sub hl [3, 2, 1, 0] rfl)
            intro t52 v51 H locs ls h hP hD hS hl
            refine lv_iload hx hb dX11_span_88 (lv_at hl 0 rfl) ?_
            exact hret _ _ _ _ _ _ rfl h hP hD hS dX11_span_90
      · have h := h.2 c7
        refine lv_ldc (v := (-100000003)) hx hb hown (hts _ w_32_1) dX11_span_30 ?_
        exact hret _ _ _ _ _ _ rfl h hP hD hS dX11_span_32
    · have h := h.2 c6
      refine lv_ldc (v := (-100000002)) hx hb hown (hts _ w_15_17) dX11_span_19 ?_
      exact hret _ _ _ _ _ _ rfl h hP hD hS dX11_span_21
